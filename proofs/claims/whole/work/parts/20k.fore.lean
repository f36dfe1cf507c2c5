-- ===== if only years go by =====
theorem nI_and (a b : Nat) : nI a &&& nI b = nI (a &&& b) := by
  apply Int32.toBitVec_inj.mp
  show BitVec.ofNat 32 a &&& BitVec.ofNat 32 b = BitVec.ofNat 32 (a &&& b)
  exact BitVec.ofNat_and.symm
def bcX (x0 : Int32) : Int32 := ((((((((x0 - (((x0.toUInt32 >>> ((1 : Int32).toUInt32 &&& Int32.toUInt32 31)).toInt32) &&& 1431655765)) &&& 858993459) + ((((x0 - (((x0.toUInt32 >>> ((1 : Int32).toUInt32 &&& Int32.toUInt32 31)).toInt32) &&& 1431655765)).toUInt32 >>> ((2 : Int32).toUInt32 &&& Int32.toUInt32 31)).toInt32) &&& 858993459)) + (((((x0 - (((x0.toUInt32 >>> ((1 : Int32).toUInt32 &&& Int32.toUInt32 31)).toInt32) &&& 1431655765)) &&& 858993459) + ((((x0 - (((x0.toUInt32 >>> ((1 : Int32).toUInt32 &&& Int32.toUInt32 31)).toInt32) &&& 1431655765)).toUInt32 >>> ((2 : Int32).toUInt32 &&& Int32.toUInt32 31)).toInt32) &&& 858993459)).toUInt32 >>> ((4 : Int32).toUInt32 &&& Int32.toUInt32 31)).toInt32)) &&& 252645135) + (((((((x0 - (((x0.toUInt32 >>> ((1 : Int32).toUInt32 &&& Int32.toUInt32 31)).toInt32) &&& 1431655765)) &&& 858993459) + ((((x0 - (((x0.toUInt32 >>> ((1 : Int32).toUInt32 &&& Int32.toUInt32 31)).toInt32) &&& 1431655765)).toUInt32 >>> ((2 : Int32).toUInt32 &&& Int32.toUInt32 31)).toInt32) &&& 858993459)) + (((((x0 - (((x0.toUInt32 >>> ((1 : Int32).toUInt32 &&& Int32.toUInt32 31)).toInt32) &&& 1431655765)) &&& 858993459) + ((((x0 - (((x0.toUInt32 >>> ((1 : Int32).toUInt32 &&& Int32.toUInt32 31)).toInt32) &&& 1431655765)).toUInt32 >>> ((2 : Int32).toUInt32 &&& Int32.toUInt32 31)).toInt32) &&& 858993459)).toUInt32 >>> ((4 : Int32).toUInt32 &&& Int32.toUInt32 31)).toInt32)) &&& 252645135).toUInt32 >>> ((8 : Int32).toUInt32 &&& Int32.toUInt32 31)).toInt32)) + ((((((((x0 - (((x0.toUInt32 >>> ((1 : Int32).toUInt32 &&& Int32.toUInt32 31)).toInt32) &&& 1431655765)) &&& 858993459) + ((((x0 - (((x0.toUInt32 >>> ((1 : Int32).toUInt32 &&& Int32.toUInt32 31)).toInt32) &&& 1431655765)).toUInt32 >>> ((2 : Int32).toUInt32 &&& Int32.toUInt32 31)).toInt32) &&& 858993459)) + (((((x0 - (((x0.toUInt32 >>> ((1 : Int32).toUInt32 &&& Int32.toUInt32 31)).toInt32) &&& 1431655765)) &&& 858993459) + ((((x0 - (((x0.toUInt32 >>> ((1 : Int32).toUInt32 &&& Int32.toUInt32 31)).toInt32) &&& 1431655765)).toUInt32 >>> ((2 : Int32).toUInt32 &&& Int32.toUInt32 31)).toInt32) &&& 858993459)).toUInt32 >>> ((4 : Int32).toUInt32 &&& Int32.toUInt32 31)).toInt32)) &&& 252645135) + (((((((x0 - (((x0.toUInt32 >>> ((1 : Int32).toUInt32 &&& Int32.toUInt32 31)).toInt32) &&& 1431655765)) &&& 858993459) + ((((x0 - (((x0.toUInt32 >>> ((1 : Int32).toUInt32 &&& Int32.toUInt32 31)).toInt32) &&& 1431655765)).toUInt32 >>> ((2 : Int32).toUInt32 &&& Int32.toUInt32 31)).toInt32) &&& 858993459)) + (((((x0 - (((x0.toUInt32 >>> ((1 : Int32).toUInt32 &&& Int32.toUInt32 31)).toInt32) &&& 1431655765)) &&& 858993459) + ((((x0 - (((x0.toUInt32 >>> ((1 : Int32).toUInt32 &&& Int32.toUInt32 31)).toInt32) &&& 1431655765)).toUInt32 >>> ((2 : Int32).toUInt32 &&& Int32.toUInt32 31)).toInt32) &&& 858993459)).toUInt32 >>> ((4 : Int32).toUInt32 &&& Int32.toUInt32 31)).toInt32)) &&& 252645135).toUInt32 >>> ((8 : Int32).toUInt32 &&& Int32.toUInt32 31)).toInt32)).toUInt32 >>> ((16 : Int32).toUInt32 &&& Int32.toUInt32 31)).toInt32)) &&& 63)
def pcn : Nat → Nat → Nat
  | 0, _ => 0
  | n + 1, g => if g = 0 then 0 else pcn n (g &&& (g - 1)) + 1
def pce : Nat → Nat → Bool
  | 0, g => decide (g = 0)
  | n + 1, g => decide (g = 0) || pce n (g &&& (g - 1))
set_option maxRecDepth 20000 in
theorem bc_is : ∀ g, g < 512 → bcX (nI g) = nI (pcn 10 g) := by decide +kernel
set_option maxRecDepth 20000 in
theorem pce_is : ∀ g, g < 512 → pce 10 g = true ∧ pcn 10 g ≤ 9 := by decide +kernel
theorem c_bits {M : Mem} {g : Nat} (hg : g < 512) : fJ6_bitCount_0f7a4 M (nI g) = okI M (nI (pcn 10 g)) := congrArg (okI M) (bc_is g hg)
theorem r_bits {M : Mem} {g : Nat} (hg : g < 512) : fX12_bitsOf M (nI g) = okI M (nI (pcn 10 g)) := by
  have key : ∀ n g c f, pce n g = true → g < 2 ^ 31 → n < f → fX12_bitsOf_b4 f M (nI c) (nI g) = okI M (nI (c + pcn n g)) := by
    intro n
    induction n with
    | zero =>
      intro g c f he hg hf
      obtain ⟨m, rfl⟩ : ∃ m, f = m + 1 := ⟨f - 1, by omega⟩
      have : g = 0 := by simpa [pce] using he
      subst this
      rw [fX12_bitsOf_b4]
      dsimp only
      rw [if_pos (show nI 0 = 0 from rfl)]
      rfl
    | succ n ih =>
      intro g c f he hg hf
      obtain ⟨m, rfl⟩ : ∃ m, f = m + 1 := ⟨f - 1, by omega⟩
      rw [fX12_bitsOf_b4]
      dsimp only
      by_cases e : g = 0
      · subst e
        rw [if_pos (show nI 0 = 0 from rfl)]
        rfl
      · rw [if_neg (show ¬ nI g = 0 from c_lit (b := 0) hg (by decide) e), nI_m1 (by omega), nI_and, nI_p1]
        have he' : pce n (g &&& (g - 1)) = true := by
          unfold pce at he
          simpa [e] using he
        rw [ih (g &&& (g - 1)) (c + 1) m he' (Nat.lt_of_le_of_lt Nat.and_le_left hg) (by omega)]
        show okI M _ = okI M (nI (c + (if g = 0 then 0 else pcn n (g &&& (g - 1)) + 1)))
        rw [if_neg e, show c + 1 + pcn n (g &&& (g - 1)) = c + (pcn n (g &&& (g - 1)) + 1) by omega]
  have := key 10 g 0 FU (pce_is g hg).1 (by omega) (FU_gt (by decide))
  rw [Nat.zero_add] at this
  exact this
/-- the reference in the midst of a question: B is the state that comes back -/
def RT (M0 : Mem) (B : DS) (M : Mem) (S : DS) : Prop := Fr scrU M0 M ∧ (∀ k, k < 31 ∨ 37 < k → k ≠ 43 → gi M 87 k = gi M0 87 k) ∧ PK M 111 0 B ∧ DRf M S
section
variable {M0 M : Mem} {I : IS} {B S : DS} {e n : Nat}
theorem RT.i (h : RT M0 B M S) (hI : IR M0 I) : IR M I := hI.fr h.1 (by unfold apart; decide)
theorem RT.go (h : RT M0 B M S) {M' : Mem} {l : List Nat} (hF : Fr l M M') (hl : ∀ x ∈ l, x ∈ [87, 102, 103, 104, 106, 107, 108, 109, 110]) (hm : ∀ k, k < 31 ∨ 37 < k → k ≠ 43 → gi M' 87 k = gi M 87 k) {S' : DS} (hS : DRf M' S') : RT M0 B M' S' :=
  ⟨h.1.tr ((hF.mono hl).mono (by unfold scrU; decide)), fun k a b => (hm k a b).trans (h.2.1 k a b), h.2.2.1.at (fun j _ => (hF.mono hl).i (by decide) _), hS⟩
theorem RT.pack (hS : DRf M S) : ∃ M1, fX12_pack 111 M 0 = okV M1 ∧ RT M S M1 S := by
  obtain ⟨M1, e1, P1, F1, _⟩ := r_pack (b := 111) (p := 0) hS (by decide) (by rw [kd111]; decide) (by decide)
  exact ⟨M1, e1, F1.mono (by unfold scrU; decide), fun k _ _ => F1.i (by decide) k, P1, hS.fr F1 (by unfold apart; decide)⟩
theorem RT.un (h : RT M0 B M S) : ∃ M1, fX12_unpack 111 M 0 = okV M1 ∧ RT M0 B M1 B := by
  obtain ⟨M1, e1, D1, F1, m1⟩ := r_unpack (b := 111) (p := 0) h.2.2.1 (by decide) (by rw [kd111]; decide) (by decide)
  exact ⟨M1, e1, h.go F1 (by decide) (fun k a _ => m1 k a) D1⟩
theorem RT.years (h : RT M0 B M S) (hI : IR M0 I) (hk : IOk I) (hO : DOk I S) (he : iE I = nI e) (he9 : e ≤ 9999) (hn : dN S + n < 2000) : ∃ M1, fX12_goOn M (nI n) = okV M1 ∧ RT M0 B M1 (yrsS e I n S) := by
  obtain ⟨M1, e1, D1, F1, m1⟩ := r_years (n := n) (h.i hI) hk h.2.2.2 hO he he9 hn
  exact ⟨M1, e1, h.go F1 (by unfold scrY; decide) (fun k a _ => m1 k (by omega) (by omega) (by omega)) D1⟩
theorem RT.year (h : RT M0 B M S) (hI : IR M0 I) (hk : IOk I) (hO : DOk I S) (he : iE I = nI e) (he9 : e ≤ 9999) : ∃ M1, fX12_aYear M = okV M1 ∧ RT M0 B M1 (yearS e I S) := by
  obtain ⟨M1, e1, D1, F1, m1⟩ := r_year (h.i hI) hk h.2.2.2 hO he he9
  exact ⟨M1, e1, h.go F1 (by unfold scrY; decide) (fun k a _ => m1 k (by omega) (by omega) (by omega)) D1⟩
end
theorem Ag.t {cf rf : Mem → RS} {kx : Nat → Int32} {X : WX} (hX : WOk X) (v : Int32) (hc : ∀ M, CI M X → ∃ M1, cf M = okI M1 v ∧ Fr scrQ M M1)
    (hr : ∀ M, RI M X → ∃ M2, rf M = okI M2 v ∧ RT (si M 87 3 0) (lS (xL X)) M2 (lS (xL X))) : Ag cf rf kx X := by
  refine Ag.u hX v hc (fun M h => ?_)
  obtain ⟨M2, e2, R2⟩ := hr M h
  exact ⟨M2, e2, R2.1, fun k _ a b => R2.2.1 k a b, R2.2.2.2, (R2.2.1 3 (by decide) (by decide)).trans gi_si_s⟩
section
variable {M : Mem} {X : WX}
theorem c_try (h : CI M X) (hO : DOk (xI X) (lS (xL X))) : ∃ M1, fX8_copyFrom 62 39 M = okV M1 ∧ DC 62 M1 (lS (xL X)) ∧ Fr scrQ M M1 := by
  obtain ⟨M1, e1, D1, F1⟩ := c_copy (a := 62) h.2.1.1 hO (by decide)
  exact ⟨M1, e1, D1, F1.mono (by unfold stA scrQ; decide)⟩
theorem apQ : apart scrQ isCells := by unfold apart; decide
theorem c_pass {M1 : Mem} {S : DS} {n : Nat} (h : CI M X) (hX : WOk X) (F : Fr scrQ M M1) (hS : DC 62 M1 S) (hO : DOk (xI X) S) (hn : dN S + n < 2000) : ∃ M2, fX3_passYears 62 M1 (nI n) = okV M2 ∧ DC 62 M2 (yrsS (xE X) (xI X) n S) ∧ Fr scrQ M M2 := by
  obtain ⟨M2, e2, D2, F2⟩ := c_years (a := 62) (n := n) (h.1.1.fr F apQ) hX.1 hS hO (by decide) hX.2.1.1 hX.2.1.2 hn
  exact ⟨M2, e2, D2, F.tr (F2.mono (by unfold scrL scrQ; decide))⟩
theorem c_fore {n : Nat} (h : CI M X) (hX : WOk X) (hn : n ≤ 50) : ∃ M1, fX11_foresee M (nI n) = okV M1 ∧ DC 62 M1 (yrsS (xE X) (xI X) n (lS (xL X))) ∧ Fr scrQ M M1 := by
  have hO := hX.2.2.1.1
  obtain ⟨M1, e1, D1, F1⟩ := c_try h hO.1
  obtain ⟨M2, e2, D2, F2⟩ := c_pass h hX F1 D1 hO.1 (n := n) (by omega)
  unfold fX11_foresee
  rw [e1, bV_ok, e2, bV_ok]
  exact ⟨M2, rfl, D2, F2⟩
theorem r_fore {n : Nat} (h : RI M X) (hX : WOk X) (hn : n ≤ 50) : ∃ M1 M2, fX12_pack 111 (si M 87 3 0) 0 = okV M1 ∧ fX12_goOn M1 (nI n) = okV M2 ∧ RT (si M 87 3 0) (lS (xL X)) M1 (lS (xL X)) ∧ RT (si M 87 3 0) (lS (xL X)) M2 (yrsS (xE X) (xI X) n (lS (xL X))) := by
  have hO := hX.2.2.1.1
  obtain ⟨M1, e1, R1⟩ := RT.pack h.z0.2.1.1
  obtain ⟨M2, e2, R2⟩ := R1.years (n := n) h.z0.1 hX.1 hO.1 hX.2.1.1 hX.2.1.2 (by omega)
  exact ⟨M1, M2, e1, e2, R1, R2⟩
end
section
variable {X : WX}
theorem n10 : ¬ (1 : Int32) = 0 := by decide
theorem a_then (hX : WOk X) (x y : Int32) : Ag (fun M => fX11_then M x y) (fun M => fX12_then M x y) kN X := by
  have hk := hX.1
  have h8 := hk.1.1
  rcases h_cases x (iH (xI X)) (by omega) with ⟨a, ha, rfl⟩ | hx
  · rcases w_cases y 0 50 (by decide) (by decide) with ⟨n, _, hn, rfl⟩ | hy
    · refine Ag.t hX (nI (dR (yrsS (xE X) (xI X) n (lS (xL X))) a)) (fun M h => ?_) (fun M h => ?_)
      · obtain ⟨M1, e1, D1, F1⟩ := c_fore h hX hn
        refine ⟨M1, ?_, F1⟩
        show fX11_then M (nI a) (nI n) = _
        unfold fX11_then
        rw [c_needH h.1.1 hk ha, bV_ok, c_with (nI_pos (by omega)) (ngtL 50 hn (by decide)), bV_ok, e1, bV_ok, chk_in (by omega) (by decide), ix_nI (by omega), show gi M1 65 a = _ from D1.2.2.2 a (by omega)]
      · obtain ⟨M1, M2, e1, e2, R1, R2⟩ := r_fore h hX hn
        obtain ⟨M3, e3, R3⟩ := R2.un
        refine ⟨M3, ?_, R3⟩
        show fX12_then M (nI a) (nI n) = _
        unfold fX12_then
        rw [wr_eq, r_isH h.z0.1 hk ha, bI_ok, if_neg n10, r_inN (lo := 0) (hi := 50) (by decide) (by decide) (by omega) hn (by decide), bI_ok, if_neg n10, e1, bV_ok, e2, bV_ok, chk_in (by omega) (by decide), e3, bV_ok, ix_nI (by omega), R2.2.2.2.2.2.2 a (by omega)]
    · exact Ag.x hX 2 (Or.inr rfl) (fun M h => by unfold fX11_then; rw [c_needH h.1.1 hk ha, bV_ok, c_withx (a := 0) (b := 50) hy, bV_x]) (fun M h => ⟨0, by
        unfold fX12_then
        rw [wr_eq, r_isH h.z0.1 hk ha, bI_ok, if_neg n10, r_inX (lo := 0) (hi := 50) (by decide) (by decide) hy, bI_ok, if_pos rfl, x2x]
        rfl⟩)
  · exact Ag.x hX 1 (Or.inl rfl) (fun M h => by unfold fX11_then; rw [c_needHx h.1.1 hx, bV_x]) (fun M h => ⟨0, by
      unfold fX12_then
      rw [wr_eq, r_isHx h.z0.1 hk hx, bI_ok, if_pos rfl, x1x]
      rfl⟩)
theorem a_tithes (hX : WOk X) (y : Int32) : Ag (fun M => fX11_tithes M y) (fun M => fX12_tithes M y) kB X := by
  rcases w_cases y 0 50 (by decide) (by decide) with ⟨n, _, hn, rfl⟩ | hy
  · refine Ag.t hX (dT (yrsS (xE X) (xI X) n (lS (xL X))) - dT (lS (xL X))) (fun M h => ?_) (fun M h => ?_)
    · obtain ⟨M1, e1, D1, F1⟩ := c_fore h hX hn
      refine ⟨M1, ?_, F1⟩
      show fX11_tithes M (nI n) = _
      unfold fX11_tithes
      rw [c_with (nI_pos (by omega)) (ngtL 50 hn (by decide)), bV_ok, e1, bV_ok, D1.1.2.2.2.2.2.1, F1.i (by decide), h.2.1.1.1.2.2.2.2.2.1]
    · obtain ⟨M1, M2, e1, e2, R1, R2⟩ := r_fore h hX hn
      obtain ⟨M3, e3, R3⟩ := R2.un
      refine ⟨M3, ?_, R3⟩
      show fX12_tithes M (nI n) = _
      unfold fX12_tithes
      rw [wr_eq, r_inN (lo := 0) (hi := 50) (by decide) (by decide) (by omega) hn (by decide), bI_ok, if_neg n10, e1, bV_ok, e2, bV_ok, e3, bV_ok, R2.2.2.2.1.2.2.2.2.2.1, R1.2.2.2.1.2.2.2.2.2.1]
  · exact Ag.x hX 2 (Or.inr rfl) (fun M h => by unfold fX11_tithes; rw [c_withx (a := 0) (b := 50) hy, bV_x]) (fun M h => ⟨0, by
      unfold fX12_tithes
      rw [wr_eq, r_inX (lo := 0) (hi := 50) (by decide) (by decide) hy, bI_ok, if_pos rfl, x1x]
      rfl⟩)
theorem a_famine (hX : WOk X) (y : Int32) : Ag (fun M => fX11_famine M y) (fun M => fX12_famine M y) kB X := by
  have hO := hX.2.2.1.1
  rcases w_cases y 0 50 (by decide) (by decide) with ⟨n, _, hn, rfl⟩ | hy
  · have hg : dG (yrsS (xE X) (xI X) n (lS (xL X))) < 512 := by have := (yrs_ok (n := n) hX.1 hO.1 (by omega) (xE X)).1.1.2.1; omega
    refine Ag.t hX (nI (pcn 10 (dG (yrsS (xE X) (xI X) n (lS (xL X)))))) (fun M h => ?_) (fun M h => ?_)
    · obtain ⟨M1, e1, D1, F1⟩ := c_fore h hX hn
      refine ⟨M1, ?_, F1⟩
      show fX11_famine M (nI n) = _
      unfold fX11_famine
      rw [c_with (nI_pos (by omega)) (ngtL 50 hn (by decide)), bV_ok, e1, bV_ok, D1.1.2.1, c_bits hg, bI_ok]
    · obtain ⟨M1, M2, e1, e2, R1, R2⟩ := r_fore h hX hn
      obtain ⟨M3, e3, R3⟩ := R2.un
      refine ⟨M3, ?_, R3⟩
      show fX12_famine M (nI n) = _
      unfold fX12_famine
      rw [wr_eq, r_inN (lo := 0) (hi := 50) (by decide) (by decide) (by omega) hn (by decide), bI_ok, if_neg n10, e1, bV_ok, e2, bV_ok, R2.2.2.2.1.2.1, r_bits hg, bI_ok, e3, bV_ok]
  · exact Ag.x hX 2 (Or.inr rfl) (fun M h => by unfold fX11_famine; rw [c_withx (a := 0) (b := 50) hy, bV_x]) (fun M h => ⟨0, by
      unfold fX12_famine
      rw [wr_eq, r_inX (lo := 0) (hi := 50) (by decide) (by decide) hy, bI_ok, if_pos rfl, x1x]
      rfl⟩)
end

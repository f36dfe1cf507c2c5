-- ===== the tape is fed =====
def fdB (w : Int32) (j : Nat) : Nat := (w >>> ((24 - 8 * nI j) &&& 31)).toBitVec.toNat % 256
def apd (T : Nat → Nat) (n : Nat) (w : Int32) : Nat → Nat := fun k => if k < n then T k else fdB w (k - n)
theorem by_eq (y : Int32) : (Int32.toInt8 ((Int32.toInt8 y).toInt32)).toInt32 = byC (y.toBitVec.toNat % 256) := by
  unfold byC
  rw [Int8.toInt8_toInt32]
  congr 1
  apply Int8.toBitVec_inj.mp
  rw [Int32.toBitVec_toInt8, Int32.toBitVec_toInt8, BitVec.signExtend_eq_setWidth_of_le _ (by decide), BitVec.signExtend_eq_setWidth_of_le _ (by decide)]
  apply BitVec.eq_of_toNat_eq
  rw [BitVec.toNat_setWidth, BitVec.toNat_setWidth]
  show y.toBitVec.toNat % 2 ^ 8 = (BitVec.ofNat 32 (y.toBitVec.toNat % 256)).toNat % 2 ^ 8
  rw [BitVec.toNat_ofNat]
  omega
theorem sh_step : ∀ j, j < 4 → ¬ (24 - 8 * nI j) < 0 ∧ (24 - 8 * nI j) + (-8) = 24 - 8 * nI (j + 1) := by decide
section
variable {M : Mem}
def TAc (M : Mem) (n : Nat) (T : Nat → Nat) : Prop := gi M 1 1 = nI n ∧ ∀ k, k < n → gi M 2 k = byC (T k)
theorem c_append {n : Nat} {T : Nat → Nat} (h : TAc M n T) (hn : n + 4 ≤ 700) (w : Int32) : ∃ M', fX9_append M w = okV M' ∧ TAc M' (n + 4) (apd T n w) ∧ Fr [1, 2] M M' := by
  obtain ⟨h1, h2⟩ := h
  unfold fX9_append
  obtain ⟨M', ⟨F', q1, q2⟩, e'⟩ := loopI (fun f M j (_ : Nat) => fX9_append_b3 f M w (24 - 8 * nI j)) (fun j M' _ => Fr [1, 2] M M' ∧ gi M' 1 1 = nI (n + j) ∧ ∀ k, k < n + j → gi M' 2 k = byC (apd T n w k)) 4 (fun _ a => a) (fun M _ => okV M)
    (by
      intro f M1 j a ⟨F1, q1, q2⟩ hj
      obtain ⟨s1, s2⟩ := sh_step j hj
      rw [fX9_append_b3]
      dsimp only
      rw [if_neg s1, q1, if_pos (ltL 700 (by omega) (by decide)), chk_in (by omega) (by decide), ix_nI (by omega), wr_eq, gi_si_a (show (1 : Nat) ≠ 2 by decide), q1, wr_eq, nI_p1, s2, by_eq]
      refine ⟨_, ⟨(F1.wi (by decide)).wi (by decide), gi_si_s, fun k hk => ?_⟩, rfl⟩
      rw [gi_si_a (by decide)]
      by_cases e : k = n + j
      · rw [e, gi_si_s]
        unfold apd fdB
        rw [if_neg (by omega), show n + j - n = j by omega]
      · rw [gi_si_k e]; exact q2 k (by omega))
    (by
      intro f M1 a _
      rw [fX9_append_b3]
      dsimp only
      rw [if_pos (show (24 - 8 * nI 4 : Int32) < 0 by decide)])
    4 0 (by omega) FU (FU_gt (by omega)) M 0 ⟨Fr.rf, h1, fun k hk => by unfold apd; rw [if_pos (by omega)]; exact h2 k (by omega)⟩
  exact ⟨M', e', ⟨q1, q2⟩, F'⟩
end
section
variable {X : WX}
def setT (X : WX) (n : Nat) (T : Nat → Nat) : WX := (xI X, xE X, xL X, xG X, (n, T), xF X)
def tp5 (T : Nat → Nat) (n : Nat) (a b c d e : Int32) : Nat → Nat := apd (apd (apd (apd (apd T n a) (n + 4) b) (n + 4 + 4) c) (n + 4 + 4 + 4) d) (n + 4 + 4 + 4 + 4) e
def wd5 (a b c d e : Int32) (k : Nat) : Int32 := if k < 4 then a else if k < 8 then b else if k < 12 then c else if k < 16 then d else e
theorem tp5_old {T : Nat → Nat} {n i : Nat} {a b c d e : Int32} (h : i < n) : tp5 T n a b c d e i = T i := by
  unfold tp5 apd
  rw [if_pos (by omega), if_pos (by omega), if_pos (by omega), if_pos (by omega), if_pos h]
theorem tp5_new {T : Nat → Nat} {n k : Nat} {a b c d e : Int32} (h : k < 20) : tp5 T n a b c d e (n + k) = fdB (wd5 a b c d e k) (k % 4) := by
  unfold tp5 apd wd5
  by_cases c1 : k < 4
  · rw [if_pos (by omega), if_pos (by omega), if_pos (by omega), if_pos (by omega), if_neg (by omega), if_pos c1, show n + k - n = k % 4 by omega]
  · by_cases c2 : k < 8
    · rw [if_pos (by omega), if_pos (by omega), if_pos (by omega), if_neg (by omega), if_neg c1, if_pos c2, show n + k - (n + 4) = k % 4 by omega]
    · by_cases c3 : k < 12
      · rw [if_pos (by omega), if_pos (by omega), if_neg (by omega), if_neg c1, if_neg c2, if_pos c3, show n + k - (n + 4 + 4) = k % 4 by omega]
      · by_cases c4 : k < 16
        · rw [if_pos (by omega), if_neg (by omega), if_neg c1, if_neg c2, if_neg c3, if_pos c4, show n + k - (n + 4 + 4 + 4) = k % 4 by omega]
        · rw [if_neg (by omega), if_neg c1, if_neg c2, if_neg c3, if_neg c4, show n + k - (n + 4 + 4 + 4 + 4) = k % 4 by omega]
theorem a_feed (hX : WOk X) (a b c d e : Int32) : Ag (fun M => fX11_feed M a b c d e) (fun M => fX12_feed M a b c d e) k0 X := by
  have hn := hX.2.2.2.2.1.1
  have e20 : nI (xN X) + 20 = nI (xN X + 20) := nadd _ 20
  by_cases cn : 700 < xN X + 20
  · refine ⟨X, hX, Or.inl ⟨-1, fun M hM => ⟨M, ?_, hM, FrC.rf⟩, fun M hM => ⟨si M 87 3 0, ?_, gi_si_s, hM.z0, FrR.rf.z⟩⟩⟩
    · show fX11_feed M a b c d e = _
      unfold fX11_feed
      rw [hM.2.2.2.1.1, e20, if_pos (gtL 700 cn (by omega))]
    · show fX12_feed M a b c d e = _
      unfold fX12_feed
      rw [wr_eq, hM.z0.2.2.2.1.1, e20, if_pos (gtL 700 cn (by omega))]
  · refine ⟨setT X (xN X + 20) (tp5 (xT X) (xN X) a b c d e), ⟨hX.1, hX.2.1, hX.2.2.1, hX.2.2.2.1, ⟨(by omega : xN X + 20 ≤ 700), fun k hk => ?_⟩, hX.2.2.2.2.2⟩, Or.inl ⟨nI (xN X + 20), fun M hM => ?_, fun M hM => ?_⟩⟩
    · have hk : k < xN X + 20 := hk
      show tp5 (xT X) (xN X) a b c d e k < 256
      by_cases e1 : k < xN X
      · rw [tp5_old e1]; exact hX.2.2.2.2.1.2 k e1
      · obtain ⟨j, rfl⟩ : ∃ j, k = xN X + j := ⟨k - xN X, by omega⟩
        rw [tp5_new (by omega)]
        unfold fdB
        omega
    · obtain ⟨M1, e1, T1, F1⟩ := c_append (n := xN X) (T := xT X) hM.2.2.2.1 (by omega) a
      obtain ⟨M2, e2, T2, F2⟩ := c_append T1 (by omega) b
      obtain ⟨M3, e3, T3, F3⟩ := c_append T2 (by omega) c
      obtain ⟨M4, e4, T4, F4⟩ := c_append T3 (by omega) d
      obtain ⟨M5, e5, T5, F5⟩ := c_append T4 (by omega) e
      have FF : Fr [1, 2] M M5 := (((F1.tr F2).tr F3).tr F4).tr F5
      have g : ∀ x, x ≠ 1 → x ≠ 2 → ∀ k, gi M5 x k = gi M x k := fun x h1 h2 k => FF.i (by simp; omega) k
      refine ⟨M5, ?_, ⟨⟨hM.1.1.eq (fun x _ _ _ _ _ _ h1 _ h2 => g x h1 h2) (FF.b 0), by rw [FF.b 0, FF.b 1]; exact hM.1.2⟩, hM.2.1.eq (fun x hx k => g x (by revert x; unfold scrW; decide) (by revert x; unfold scrW; decide) k), ⟨(g 0 (by decide) (by decide) _).trans hM.2.2.1.1, fun L hL => ?_⟩, T5, (g 17 (by decide) (by decide) _).trans hM.2.2.2.2⟩, FF.C (by decide)⟩
      · show fX11_feed M a b c d e = _
        unfold fX11_feed
        rw [hM.2.2.2.1.1, e20, if_neg (ngtL 700 (by omega) (by decide)), e1, bV_ok, e2, bV_ok, e3, bV_ok, e4, bV_ok, e5, bV_ok, T5.1]
      · obtain ⟨g2, g3, g4, g5⟩ := hM.2.2.1.2 L hL
        exact ⟨g2.eq (g 51 (by decide) (by decide)) (g 52 (by decide) (by decide)) (g 53 (by decide) (by decide)) (g 54 (by decide) (by decide)), g3.eq (g 55 (by decide) (by decide)) (g 56 (by decide) (by decide)), g4.eq (g 57 (by decide) (by decide)) (g 58 (by decide) (by decide)) (g 59 (by decide) (by decide)) (g 60 (by decide) (by decide)), fun k hk => (g 61 (by decide) (by decide) k).trans (g5 k hk)⟩
    · have R0 := hM.z0
      obtain ⟨M1, ⟨F1, m1, q1, q2⟩, e1⟩ := loopI (fun f M k (_ : Nat) => fX12_feed_b23 f M a b c d e (nI k)) (fun k M' _ => Fr [87, 101] (si M 87 3 0) M' ∧ (∀ j, j ≠ 16 → gi M' 87 j = gi (si M 87 3 0) 87 j) ∧ gi M' 87 16 = nI (xN X + k) ∧ ∀ i, i < xN X + k → gi M' 101 i = nI (tp5 (xT X) (xN X) a b c d e i)) 20 (fun _ x => x) (fun M _ => okI M (gi M 87 16))
        (by
          intro f M1 k z ⟨F1, m1, q1, q2⟩ hk
          have body : fX12_feed_b23 (f + 1) M1 a b c d e (nI k) = fX12_feed_b76 (fX12_feed_b23 f) M1 a b c d e (nI k) (wd5 a b c d e k) := by
            rw [fX12_feed_b23]
            dsimp only
            unfold wd5
            rw [if_pos (ltL 20 hk (by decide))]
            by_cases c1 : k < 4
            · rw [if_pos (ltL 4 c1 (by decide)), if_pos c1]
            · by_cases c2 : k < 8
              · rw [if_neg (nltL 4 (by omega) (by omega)), if_pos (ltL 8 c2 (by decide)), if_neg c1, if_pos c2]
              · by_cases c3 : k < 12
                · rw [if_neg (nltL 4 (by omega) (by omega)), if_neg (nltL 8 (by omega) (by omega)), if_pos (ltL 12 c3 (by decide)), if_neg c1, if_neg c2, if_pos c3]
                · by_cases c4 : k < 16
                  · rw [if_neg (nltL 4 (by omega) (by omega)), if_neg (nltL 8 (by omega) (by omega)), if_neg (nltL 12 (by omega) (by omega)), if_pos (ltL 16 c4 (by decide)), if_neg c1, if_neg c2, if_neg c3, if_pos c4]
                  · rw [if_neg (nltL 4 (by omega) (by omega)), if_neg (nltL 8 (by omega) (by omega)), if_neg (nltL 12 (by omega) (by omega)), if_neg (nltL 16 (by omega) (by omega)), if_neg c1, if_neg c2, if_neg c3, if_neg c4]
          have er : nI k - nI k / 4 * 4 = nI (k % 4) := pk_rem (d := 4) (by omega) (by decide) (by decide)
          have ev : (wd5 a b c d e k >>> ((24 - 8 * nI (k % 4)) &&& 31)) &&& 255 = nI (tp5 (xT X) (xN X) a b c d e (xN X + k)) := by
            rw [tp5_new hk, pk_and _ (m := 255) 8 (by decide)]
            rfl
          show ∃ M', _ ∧ fX12_feed_b23 (f + 1) M1 a b c d e (nI k) = _
          rw [body]
          unfold fX12_feed_b76
          rw [q1, chk_in (by omega) (by decide), ix_nI (by omega), wr_eq, gi_si_a (show (87 : Nat) ≠ 101 by decide), q1, wr_eq, er, ev, nI_p1, nI_p1]
          refine ⟨_, ⟨(F1.wi (by decide)).wi (by decide), fun j hj => by rw [gi_si_k hj, gi_si_a (by decide)]; exact m1 j hj, gi_si_s, fun i hi => ?_⟩, rfl⟩
          rw [gi_si_a (by decide)]
          by_cases ei : i = xN X + k
          · rw [ei, gi_si_s]
          · rw [gi_si_k ei]; exact q2 i (by omega))
        (by
          intro f M1 z _
          rw [fX12_feed_b23]
          dsimp only
          rw [if_neg (nltL 20 (Nat.le_refl _) (by decide))])
        20 0 (by omega) FU (FU_gt (by omega)) (si M 87 3 0) 0 ⟨Fr.rf, fun _ _ => rfl, R0.2.2.2.1.1, fun i hi => by rw [tp5_old (by omega)]; exact R0.2.2.2.1.2 i (by omega)⟩
      obtain ⟨hS, ⟨hA, hH⟩, ⟨hm, hQ⟩, hR⟩ := R0.2.1
      have g : ∀ x, x ≠ 87 → x ≠ 101 → ∀ k, gi M1 x k = gi (si M 87 3 0) x k := fun x h1 h2 k => F1.i (by simp; omega) k
      refine ⟨M1, ?_, (m1 3 (by decide)).trans gi_si_s, ⟨R0.1.eq (fun x h1 h2 => g x (by omega) (by omega)), ⟨hS.eq (fun k _ _ => m1 k (by omega)) (g 102 (by decide) (by decide)) (g 103 (by decide) (by decide)) (g 104 (by decide) (by decide)), ⟨(m1 38 (by decide)).trans hA, hH.eq (g 105 (by decide) (by decide))⟩, ⟨(m1 39 (by decide)).trans hm, hQ.eq (g 112 (by decide) (by decide)) (g 113 (by decide) (by decide)) (g 114 (by decide) (by decide))⟩, fun k hk => (g 100 (by decide) (by decide) k).trans (hR k hk)⟩, ⟨(m1 51 (by decide)).trans R0.2.2.1.1, fun L hL => ?_⟩, ⟨q1, q2⟩, (m1 25 (by decide)).trans R0.2.2.2.2.1, (m1 42 (by decide)).trans R0.2.2.2.2.2⟩, FrR.rf.z.tr (F1.R (by decide))⟩
      · show fX12_feed M a b c d e = _
        unfold fX12_feed
        rw [wr_eq, R0.2.2.2.1.1, e20, if_neg (ngtL 700 (by omega) (by decide))]
        refine e1.trans ?_
        rw [q1]
      · obtain ⟨g2, ⟨g3, g4⟩, ⟨g5, g6⟩, g7⟩ := R0.2.2.1.2 L hL
        exact ⟨g2.at (fun k _ => g 115 (by decide) (by decide) _), ⟨(m1 52 (by decide)).trans g3, g4.eq (g 116 (by decide) (by decide))⟩, ⟨(m1 53 (by decide)).trans g5, g6.eq (g 117 (by decide) (by decide)) (g 118 (by decide) (by decide)) (g 119 (by decide) (by decide))⟩, fun k hk => (g 120 (by decide) (by decide) k).trans (g7 k hk)⟩
end

-- ===== acts are kept, and undone =====
def keepL (L : LV) : LV := (lS L, (if lA L < 40 then (lA L + 1, fun k => if k = lA L then lS L else lH L k) else (40, fun k => if k = 39 then lS L else lH L (k + 1))), (lM L, lQ L), lR L)
def undoL (L : LV) : LV := (lH L (lA L - 1), (lA L - 1, lH L), (lM L, lQ L), lR L)
def setS (L : LV) (S : DS) : LV := (S, (lA L, lH L), (lM L, lQ L), lR L)
theorem keep_ok {I : IS} {L : LV} (h : LOk I L) : LOk I (keepL L) := by
  obtain ⟨h1, ⟨h2, h3⟩, h4⟩ := h
  unfold keepL
  refine ⟨h1, ?_, h4⟩
  by_cases c : lA L < 40
  · rw [if_pos c]
    refine ⟨(by omega : lA L + 1 ≤ 40), fun k hk => ?_⟩
    have hk : k < lA L + 1 := hk
    show DOk I (if k = lA L then lS L else lH L k) ∧ dN (if k = lA L then lS L else lH L k) ≤ 999
    by_cases e : k = lA L
    · rw [if_pos e]; exact h1
    · rw [if_neg e]; exact h3 k (by omega)
  · rw [if_neg c]
    refine ⟨(by omega : 40 ≤ 40), fun k hk => ?_⟩
    have hk : k < 40 := hk
    show DOk I (if k = 39 then lS L else lH L (k + 1)) ∧ dN (if k = 39 then lS L else lH L (k + 1)) ≤ 999
    by_cases e : k = 39
    · rw [if_pos e]; exact h1
    · rw [if_neg e]; exact h3 (k + 1) (by omega)
theorem undo_ok {I : IS} {L : LV} (h : LOk I L) (hn : lA L ≠ 0) : LOk I (undoL L) := by
  obtain ⟨h1, ⟨h2, h3⟩, h4⟩ := h
  exact ⟨h3 (lA L - 1) (by omega), ⟨(by omega : lA L - 1 ≤ 40), fun k hk => h3 k (by have hk : k < lA L - 1 := hk; omega)⟩, h4⟩
theorem setS_ok {I : IS} {L : LV} {S : DS} (h : LOk I L) (hS : DOk I S) (hN : dN S ≤ 999) : LOk I (setS L S) := ⟨⟨hS, hN⟩, h.2⟩
section
variable {M : Mem} {I : IS} {L : LV}
theorem c_keep (h : CCc 39 43 45 49 M L) (hO : LOk I L) : ∃ M', fX11_keepAct M = okV M' ∧ CCc 39 43 45 49 M' (keepL L) ∧ Fr [43, 44] M M' := by
  obtain ⟨hS, ⟨o, ho, o1, o2, o3⟩, hQ, hR⟩ := h
  obtain ⟨⟨hD, _⟩, ⟨hn, hH⟩, _⟩ := hO
  have er : nI (o + lA L) - nI (o + lA L) / 40 * 40 = nI ((o + lA L) % 40) := pk_rem (d := 40) (by omega) (by decide) (by decide)
  have em : nI ((o + lA L) % 40) * 31 = nI ((o + lA L) % 40 * 31) := pk_mul _ 31
  unfold fX11_keepAct fX1_keep
  rw [o1, o2, nadd, er, em]
  obtain ⟨M1, e1, P1, F1, q1⟩ := c_write (p := (o + lA L) % 40 * 31) hS hD (by omega)
  have k1 := F1.i (a := 43) (by decide)
  rw [e1, bV_ok, k1, k1, o1, o2]
  have hS1 : DC 39 M1 (lS L) := hS.eq (F1.i (by decide)) (F1.i (by decide)) (F1.i (by decide)) (F1.i (by decide))
  have hQ1 : QCc 45 M1 L := hQ.eq (F1.i (by decide)) (F1.i (by decide)) (F1.i (by decide)) (F1.i (by decide))
  by_cases c : lA L < 40
  · rw [if_pos (ltL 40 c (by decide)), wr_eq, nI_p1, bV_ok]
    have F2 : Fr [43, 44] M (si M1 43 2 (nI (lA L + 1))) := (F1.mono (by decide)).wi (by decide)
    refine ⟨_, rfl, ⟨?_, ⟨o, ho, ?_, ?_, fun k hk => ?_⟩, ?_, fun k hk => ?_⟩, F2⟩
    · exact hS1.eq (fun k => gi_si_a (by decide)) (fun k => gi_si_a (by decide)) (fun k => gi_si_a (by decide)) (fun k => gi_si_a (by decide))
    · rw [gi_si_k (by decide), k1]; exact o1
    · rw [gi_si_s]; unfold keepL; rw [if_pos c]; rfl
    · unfold keepL at hk ⊢
      rw [if_pos c] at hk ⊢
      have hk : k < lA L + 1 := hk
      show PC _ 44 _ (if k = lA L then lS L else lH L k)
      by_cases e : k = lA L
      · rw [if_pos e, e]
        exact P1.at hD (fun j _ => gi_si_a (by decide))
      · rw [if_neg e]
        refine (o3 k (by omega)).at (hH k (by omega)).1 (fun j hj => ?_)
        rw [gi_si_a (by decide)]
        exact q1 _ (by omega)
    · exact hQ1.eq (fun k => gi_si_a (by decide)) (fun k => gi_si_a (by decide)) (fun k => gi_si_a (by decide)) (fun k => gi_si_a (by decide))
    · rw [gi_si_a (by decide), F1.i (by decide)]; exact hR k hk
  · have h40 : lA L = 40 := by omega
    have e2 : nI (o + 1) - nI (o + 1) / 40 * 40 = nI ((o + 1) % 40) := pk_rem (d := 40) (by omega) (by decide) (by decide)
    rw [if_neg (nltL 40 (by omega) (by omega)), wr_eq, nI_p1, e2, bV_ok]
    have F2 : Fr [43, 44] M (si M1 43 1 (nI ((o + 1) % 40))) := (F1.mono (by decide)).wi (by decide)
    refine ⟨_, rfl, ⟨?_, ⟨(o + 1) % 40, by omega, ?_, ?_, fun k hk => ?_⟩, ?_, fun k hk => ?_⟩, F2⟩
    · exact hS1.eq (fun k => gi_si_a (by decide)) (fun k => gi_si_a (by decide)) (fun k => gi_si_a (by decide)) (fun k => gi_si_a (by decide))
    · rw [gi_si_s]
    · rw [gi_si_k (by decide), k1, o2, h40]; unfold keepL; rw [if_neg c]; rfl
    · unfold keepL at hk ⊢
      rw [if_neg c] at hk ⊢
      have hk : k < 40 := hk
      show PC _ 44 _ (if k = 39 then lS L else lH L (k + 1))
      by_cases e : k = 39
      · rw [if_pos e, e, show ((o + 1) % 40 + 39) % 40 = (o + lA L) % 40 by omega]
        exact P1.at hD (fun j _ => gi_si_a (by decide))
      · rw [if_neg e, show ((o + 1) % 40 + k) % 40 = (o + (k + 1)) % 40 by omega]
        refine (o3 (k + 1) (by omega)).at (hH (k + 1) (by omega)).1 (fun j hj => ?_)
        rw [gi_si_a (by decide)]
        exact q1 _ (by omega)
    · exact hQ1.eq (fun k => gi_si_a (by decide)) (fun k => gi_si_a (by decide)) (fun k => gi_si_a (by decide)) (fun k => gi_si_a (by decide))
    · rw [gi_si_a (by decide), F1.i (by decide)]; exact hR k hk
theorem kd105 : (kd 105).2 = 1240 := rfl
theorem kd111 : (kd 111).2 = 31 := rfl
theorem kd115 : (kd 115).2 = 31 := rfl
theorem r_keep (h : CRr M L) (hn : lA L ≤ 40) : ∃ M', fX12_keep M = okV M' ∧ CRr M' (keepL L) ∧ Fr [87, 105] M M' ∧ ∀ k, k ≠ 38 → gi M' 87 k = gi M 87 k := by
  obtain ⟨hS, ⟨hA, hH⟩, ⟨hm, hQ⟩, hR⟩ := h
  -- the tail: pack at n, one more
  have tail : ∀ (M1 : Mem) (n : Nat) (H : Nat → DS), n < 40 → Fr [87, 105] M M1 → (∀ k, k ≠ 38 → gi M1 87 k = gi M 87 k) → gi M1 87 38 = nI n → (∀ k, k < n → PK M1 105 (31 * k) (H k)) →
      ∃ M', fX12_keep_b52 M1 = okV M' ∧ (DRf M' (lS L) ∧ (gi M' 87 38 = nI (n + 1) ∧ ∀ k, k < n + 1 → PK M' 105 (31 * k) (if k = n then lS L else H k)) ∧ (gi M' 87 39 = nI (lM L) ∧ QRr 112 M' L) ∧ ∀ k, k < 3 → gi M' 100 k = lR L k) ∧ Fr [87, 105] M M' ∧ ∀ k, k ≠ 38 → gi M' 87 k = gi M 87 k := by
    intro M1 n H hn1 F1 m1 a1 p1
    have em : 31 * nI n = nI (31 * n) := pk_mul 31 n
    have hS1 : DRf M1 (lS L) := hS.eq (fun k _ _ => m1 k (by omega)) (F1.i (by decide)) (F1.i (by decide)) (F1.i (by decide))
    obtain ⟨M2, e2, P2, F2, q2⟩ := r_pack (b := 105) (p := 31 * n) hS1 (by decide) (by rw [kd105]; omega) (by decide)
    unfold fX12_keep_b52
    rw [a1, em, e2, bV_ok, wr_eq, F2.i (a := 87) (by decide), a1, nI_p1]
    have F3 : Fr [87, 105] M (si M2 87 38 (nI (n + 1))) := (F1.tr (F2.mono (by decide))).wi (by decide)
    have m3 : ∀ k, k ≠ 38 → gi (si M2 87 38 (nI (n + 1))) 87 k = gi M 87 k := fun k hk => by rw [gi_si_k hk, F2.i (by decide)]; exact m1 k hk
    refine ⟨_, rfl, ⟨hS.eq (fun k _ _ => m3 k (by omega)) (F3.i (by decide)) (F3.i (by decide)) (F3.i (by decide)), ⟨gi_si_s, fun k hk => ?_⟩, ⟨(m3 39 (by decide)).trans hm, hQ.eq (F3.i (by decide)) (F3.i (by decide)) (F3.i (by decide))⟩, fun k hk => (F3.i (by decide) k).trans (hR k hk)⟩, F3, m3⟩
    by_cases e : k = n
    · rw [if_pos e, e]
      exact P2.at (fun j _ => gi_si_a (by decide))
    · rw [if_neg e]
      refine (p1 k (by omega)).at (fun j hj => ?_)
      rw [gi_si_a (by decide)]
      exact q2 _ (by omega)
  unfold fX12_keep
  rw [hA]
  by_cases c : lA L < 40
  · rw [if_neg (fun z => by have := (nI_eq (a := lA L) (b := 40) (by omega) (by decide)).mp z; omega)]
    obtain ⟨M', e', h', F', m'⟩ := tail M (lA L) (lH L) c Fr.rf (fun _ _ => rfl) hA hH
    refine ⟨M', e', ?_, F', m'⟩
    unfold keepL
    rw [if_pos c]
    exact h'
  · have h40 : lA L = 40 := by omega
    rw [h40, if_pos (show nI 40 = 40 from rfl)]
    obtain ⟨M1, ⟨_, F1, m1, q1⟩, e1⟩ := loopI (fun n M k (_ : Nat) => fX12_keep_b12 n M (nI k)) (fun k M' _ => 31 ≤ k ∧ Fr [105] M M' ∧ (∀ j, gi M' 87 j = gi M 87 j) ∧ ∀ j, j < 1240 → gi M' 105 j = gi M 105 (if j + 31 < k then j + 31 else j)) 1240 (fun _ x => x) (fun M _ => fX12_keep_b52 (si M 87 38 (gi M 87 38 - 1)))
      (by
        intro n M1 k x ⟨hk31, hF, hm, hq⟩ hk
        rw [fX12_keep_b12]
        dsimp only
        rw [if_pos (ltL 1240 hk (by decide)), chk_in hk (by decide), show nI k - 31 = nI (k - 31) from pk_sub (b := 31) hk31, chk_in (by omega) (by decide), ix_nI (by omega), ix_nI (by omega), wr_eq, nI_p1]
        refine ⟨_, ⟨by omega, hF.wi (by decide), fun j => by rw [gi_si_a (by decide)]; exact hm j, fun j hj => ?_⟩, rfl⟩
        by_cases e : j = k - 31
        · rw [e, gi_si_s, hq k hk, if_neg (by omega), if_pos (by omega), show k - 31 + 31 = k by omega]
        · rw [gi_si_k e, hq j hj]
          by_cases e2 : j + 31 < k
          · rw [if_pos e2, if_pos (by omega)]
          · rw [if_neg e2, if_neg (by omega)])
      (by
        intro n M1 x _
        rw [fX12_keep_b12]
        dsimp only
        rw [if_neg (nltL 1240 (Nat.le_refl _) (by decide)), wr_eq])
      1209 31 (by omega) FU (FU_gt (by omega)) M 0 ⟨Nat.le_refl _, Fr.rf, fun _ => rfl, fun j hj => by rw [if_neg (by omega)]⟩
    have e1 : fX12_keep_b12 FU M 31 = fX12_keep_b52 (si M1 87 38 (gi M1 87 38 - 1)) := e1
    rw [e1, m1, hA, h40]
    have F2 : Fr [87, 105] M (si M1 87 38 (nI 40 - 1)) := (F1.mono (by decide)).wi (by decide)
    obtain ⟨M', e', h', F', m'⟩ := tail (si M1 87 38 (nI 40 - 1)) 39 (fun k => lH L (k + 1)) (by decide) F2 (fun k hk => by rw [gi_si_k hk]; exact m1 k) (by rw [gi_si_s]; decide) (fun k hk => by
      refine (hH (k + 1) (by omega)).at (fun j hj => ?_)
      rw [gi_si_a (by decide), q1 _ (by omega), if_pos (by omega), show 31 * k + j + 31 = 31 * (k + 1) + j by omega])
    refine ⟨M', e', ?_, F', m'⟩
    unfold keepL
    rw [if_neg c]
    exact h'
theorem c_undo (h : CCc 39 43 45 49 M L) (hO : LOk I L) (hn : lA L ≠ 0) : ∃ M', fX1_takeLast M = okV M' ∧ CCc 39 43 45 49 M' (undoL L) ∧ Fr scrW M M' ∧ gi M' 43 2 = nI (lA L - 1) := by
  obtain ⟨hS, ⟨o, ho, o1, o2, o3⟩, hQ, hR⟩ := h
  obtain ⟨⟨hD, _⟩, ⟨hn4, hH⟩, _⟩ := hO
  have er : nI (o + (lA L - 1)) - nI (o + (lA L - 1)) / 40 * 40 = nI ((o + (lA L - 1)) % 40) := pk_rem (d := 40) (by omega) (by decide) (by decide)
  have em : nI ((o + (lA L - 1)) % 40) * 31 = nI ((o + (lA L - 1)) % 40 * 31) := pk_mul _ 31
  unfold fX1_takeLast
  rw [o2, if_pos (gtL 0 (by omega) (by omega)), wr_eq, nI_m1 (by omega), gi_si_s, gi_si_k (by decide), o1, nadd, er, em]
  have F0 : Fr [43] M (si M 43 2 (nI (lA L - 1))) := Fr.rf.wi (by decide)
  obtain ⟨M1, e1, D1, F1⟩ := c_read (M := si M 43 2 (nI (lA L - 1))) (p := (o + (lA L - 1)) % 40 * 31) ((o3 (lA L - 1) (by omega)).at (hH _ (by omega)).1 (fun j _ => gi_si_a (by decide))) (hH (lA L - 1) (by omega)).1 (by omega)
  rw [e1, bV_ok]
  refine ⟨M1, rfl, ⟨D1, ⟨o, ho, ?_, ?_, fun k hk => ?_⟩, ?_, fun k hk => ?_⟩, (F0.mono (by unfold scrW; decide)).tr (F1.mono (by unfold scrW; decide)), ?_⟩
  · rw [F1.i (by decide), gi_si_k (by decide)]; exact o1
  · rw [F1.i (by decide), gi_si_s]; rfl
  · have hk : k < lA L - 1 := hk
    refine (o3 k (by omega)).at (hH k (by omega)).1 (fun j _ => ?_)
    rw [F1.i (by decide)]
    exact gi_si_a (by decide)
  · exact hQ.eq (fun k => by rw [F1.i (by decide), F0.i (by decide)]) (fun k => by rw [F1.i (by decide), F0.i (by decide)]) (fun k => by rw [F1.i (by decide), F0.i (by decide)]) (fun k => by rw [F1.i (by decide), F0.i (by decide)])
  · rw [F1.i (by decide), F0.i (by decide)]; exact hR k hk
  · rw [F1.i (by decide), gi_si_s]
def refL (L : LV) (k : Nat) : LV := (lS L, (lA L, lH L), (lM L, lQ L), fun j => if j = k then lR L j + 1 else lR L j)
theorem ref_ok {k : Nat} (h : LOk I L) : LOk I (refL L k) := h
theorem c_refuse (h : CCc 39 43 45 49 M L) {k : Nat} (hk : k < 3) : ∃ M', fX11_refuse M (nI k) = okI M' (-1) ∧ CCc 39 43 45 49 M' (refL L k) ∧ Fr [49] M M' := by
  unfold fX11_refuse
  rw [chk_in hk (by decide), chk_in hk (by decide), wr_eq, ix_nI (by omega), h.2.2.2 k hk]
  refine ⟨_, rfl, ⟨h.1.eq (fun _ => gi_si_a (by decide)) (fun _ => gi_si_a (by decide)) (fun _ => gi_si_a (by decide)) (fun _ => gi_si_a (by decide)), ?_, ?_, fun j hj => ?_⟩, Fr.rf.wi (by decide)⟩
  · have := h.2.1.eq (M' := si M 49 k (lR L k + 1)) (fun _ => gi_si_a (by decide)) (fun _ => gi_si_a (by decide)); exact this
  · have := h.2.2.1.eq (M' := si M 49 k (lR L k + 1)) (fun _ => gi_si_a (by decide)) (fun _ => gi_si_a (by decide)) (fun _ => gi_si_a (by decide)) (fun _ => gi_si_a (by decide)); exact this
  · show _ = if j = k then lR L j + 1 else lR L j
    by_cases e : j = k
    · rw [e, gi_si_s, if_pos rfl]
    · rw [gi_si_k e, if_neg e]; exact h.2.2.2 j hj
theorem r_refuse (h : CRr M L) {k : Nat} (hk : k < 3) : ∃ M', fX12_refuse M (nI k) = okI M' (-1) ∧ CRr M' (refL L k) ∧ Fr [100] M M' := by
  unfold fX12_refuse
  obtain ⟨hS, ⟨hA, hH⟩, ⟨hm, hQ⟩, hR⟩ := h
  rw [chk_in hk (by decide), chk_in hk (by decide), wr_eq, ix_nI (by omega), hR k hk]
  refine ⟨_, rfl, ⟨hS.eq (fun _ _ _ => gi_si_a (by decide)) (fun _ => gi_si_a (by decide)) (fun _ => gi_si_a (by decide)) (fun _ => gi_si_a (by decide)), ⟨(gi_si_a (by decide)).trans hA, ?_⟩, ⟨(gi_si_a (by decide)).trans hm, ?_⟩, fun j hj => ?_⟩, Fr.rf.wi (by decide)⟩
  · have := hH.eq (M' := si M 100 k (lR L k + 1)) (fun _ => gi_si_a (by decide)); exact this
  · have := hQ.eq (M' := si M 100 k (lR L k + 1)) (fun _ => gi_si_a (by decide)) (fun _ => gi_si_a (by decide)) (fun _ => gi_si_a (by decide)); exact this
  · show _ = if j = k then lR L j + 1 else lR L j
    by_cases e : j = k
    · rw [e, gi_si_s, if_pos rfl]
    · rw [gi_si_k e, if_neg e]; exact hR j hj
end

-- ===== worth and harvest, in the class and in the reference =====
theorem ap23 : apart [23] isCells := by unfold apart; decide
theorem ap23a {a : Nat} (ha : a ∈ [39, 51, 62]) : apart [23] [a, a + 1, a + 2, a + 3] := by
  simp only [List.mem_cons, List.not_mem_nil, or_false] at ha
  rcases ha with rfl | rfl | rfl <;> unfold apart <;> decide
theorem wr_eq (M : Mem) (k : Mem → RS) : wr M k = k M := rfl
theorem nx_xor (a b : Nat) : nI a ^^^ nI b = nI (a ^^^ b) := by
  apply Int32.toBitVec_inj.mp
  show BitVec.ofNat 32 a ^^^ BitVec.ofNat 32 b = BitVec.ofNat 32 (a ^^^ b)
  exact (BitVec.ofNat_xor).symm
theorem ap23b {a : Nat} (ha : a ∈ [39, 51, 62]) : a ∉ [23] := ap23a ha a (by simp)
def scrC : List Nat := [13, 16, 23, 34, 37]
theorem apS : apart scrC isCells := by unfold apart; decide
theorem apSa {a : Nat} (ha : a ∈ [39, 51, 62]) : apart scrC [a, a + 1, a + 2, a + 3] := by
  simp only [List.mem_cons, List.not_mem_nil, or_false] at ha
  rcases ha with rfl | rfl | rfl <;> unfold apart <;> decide
theorem apSb {a : Nat} (ha : a ∈ [39, 51, 62]) : a ∉ scrC := apSa ha a (by simp)
def scrR : List Nat := [106, 107]
theorem apR : apart scrR irCells := by unfold apart; decide
theorem apRd : apart scrR [87, 102, 103, 104] := by unfold apart; decide
section
variable {M : Mem} {I : IS} {S : DS} {a h p lot yr : Nat}
theorem c_tell (hI : ICn M I) (hk : IOk I) (hS : DC0 a M S) (ha : a ∈ [39, 51, 62]) (hh : h < iH I) (hp : p < iP I) (hlot : lot = 0 ∨ lot = 1) :
    ∃ M', fX3_tellValues a M (nI h) (nI lot) (nI p) = okV M' ∧ Fr [23] M M' ∧ ∀ k, k < 5 → gi M' 23 k = vls I (dX S) (dY S) lot h p k := by
  have h8 := hk.1.1
  have h9 := hk.1.2.1
  have key : ∀ s0 : Int32, s0 = strO I lot h → ∃ M', fX3_tellValues_b54 a M (nI h) (nI lot) (nI p) s0 0 = okV M' ∧ Fr [23] M M' ∧ ∀ k, k < 5 → gi M' 23 k = vls I (dX S) (dY S) lot h p k := by
    intro s0 hs0
    unfold fX3_tellValues_b54
    rw [chk_tt (by decide), show ix 0 = 0 from rfl, wr_eq]
    have F1 : Fr [23] M (si M 23 0 s0) := Fr.wi Fr.rf (by decide)
    generalize e1 : si M 23 0 s0 = M1 at F1 ⊢
    have I1 := hI.fr F1 ap23
    rw [chk_in (by omega) (by decide), ix_nI (by omega), (I1.2.1 h hh).2.2, wr_eq]
    have F2 : Fr [23] M (si M1 23 1 (iA I 2 h)) := F1.wi (by decide)
    generalize e2 : si M1 23 1 (iA I 2 h) = M2 at F2 ⊢
    have I2 := hI.fr F2 ap23
    rw [chk_in (by omega) (by decide), ix_nI (by omega), (I2.2.2.1 p hp).2.2, wr_eq]
    have F3 : Fr [23] M (si M2 23 2 (iA I 5 p)) := F2.wi (by decide)
    generalize e3 : si M2 23 2 (iA I 5 p) = M3 at F3 ⊢
    have I3 := hI.fr F3 ap23
    have S3 := hS.fr F3 (ap23b ha)
    rw [chk_in (by omega) (by decide), chk_in (by omega) (by decide), (I3.2.2.1 p hp).1, (I3.2.2.1 p hp).2.1, S3.2.2.1, S3.2.2.2.1, w_kw, bI_ok]
    refine ⟨_, rfl, (F3.wi (by decide)).wi (by decide), ?_⟩
    intro k hk5
    rcases (show k = 0 ∨ k = 1 ∨ k = 2 ∨ k = 3 ∨ k = 4 by omega) with rfl | rfl | rfl | rfl | rfl
    · rw [gi_si_k (by decide), gi_si_k (by decide), ← e3, gi_si_k (by decide), ← e2, gi_si_k (by decide), ← e1, gi_si_s]; exact hs0
    · rw [gi_si_k (by decide), gi_si_k (by decide), ← e3, gi_si_k (by decide), ← e2, gi_si_s]; rfl
    · rw [gi_si_k (by decide), gi_si_k (by decide), ← e3, gi_si_s]; rfl
    · rw [gi_si_k (by decide), gi_si_s]; rfl
    · rw [gi_si_s]; rfl
  unfold fX3_tellValues
  rw [c_hasH hI hk hh, bI_ok, if_neg (by decide), c_hasP hI hk hp, bI_ok, if_neg (by decide), chk_in (by omega) (by decide), chk_in (by omega) (by decide), ix_nI (by omega), (hI.2.1 h hh).1, (hI.2.1 h hh).2.1]
  rcases hlot with rfl | rfl
  · rw [if_pos (by decide)]
    exact key _ rfl
  · rw [if_neg (by decide)]
    exact key _ rfl
theorem told_ok {r n : Nat} (h : gi M r 2 = nI n) (hn : n ≤ 700) : fX6_isTold r M = okI M (if n = 0 then 0 else 1) := by
  unfold fX6_isTold
  rw [h]
  by_cases h0 : n = 0
  · subst h0; rw [if_neg (by decide), if_pos rfl]
  · rw [if_pos (gtL 0 (by omega) (by omega)), if_neg h0]
theorem isA2 (b : Bool) : isA b + 8 + 2 ≠ 23 ∧ isA b + 11 + 2 ≠ 23 ∧ isA b + 8 + 2 ∈ scrC ∧ isA b + 11 + 2 ∈ scrC := by cases b <;> decide
theorem frS {x : Nat} {M' : Mem} (h : Fr [x] M M') (hx : x ∈ scrC) : Fr scrC M M' := h.mono (fun b hb => by rw [List.mem_singleton.mp hb]; exact hx)
theorem c_worth (hI : ICn M I) (hk : IOk I) (hS : DC0 a M S) (hD : dL S < 256) (ha : a ∈ [39, 51, 62]) (hh : h < iH I) (hp : p < iP I) :
    ∃ M', fX3_worthOf a M (nI h) (nI p) = okI M' (wrt I S h p) ∧ Fr scrC M M' := by
  have h8 := hk.1.1
  unfold fX3_worthOf
  rw [c_lot hS hD (by omega), bI_ok]
  obtain ⟨M1, e1, F1, v1⟩ := c_tell hI hk hS ha hh hp (bitN_2 (dL S) h)
  have I1 := hI.fr F1 ap23
  rw [e1, bV_ok, told_ok I1.2.2.2.2.1.1 hk.2.1.1, bI_ok]
  unfold wrt
  by_cases hw : iW I = []
  · rw [hw, if_pos (by rfl), if_pos rfl, v1 2 (by decide), v1 3 (by decide)]
    exact ⟨M1, rfl, frS F1 (by decide)⟩
  · have hl : (iW I).length ≠ 0 := fun q => hw (List.length_eq_zero_iff.mp q)
    rw [if_neg hl, if_neg (by decide), if_neg hw]
    obtain ⟨q1, q2, q3, q4⟩ := isA2 (gb M1 0)
    obtain ⟨M2, F2, e2⟩ := reckC (r := isA (gb M1 0) + 8) (nv := 5) (v := vls I (dX S) (dY S) (bitN (dL S) h) h p) q1 (by decide) (iW I) M1 0 FU [] (FU_gt (by have := hk.2.1.1; omega)) (by have := hk.2.1.1; omega) (by rw [Nat.zero_add]; exact I1.2.2.2.2.1.1) (fun k hk => by rw [Nat.zero_add]; exact I1.2.2.2.2.1.2 k hk) v1 trivial (by decide) (hk.2.2.1.resolve_left hw)
    refine ⟨M2, ?_, (frS F1 (by decide)).tr (frS F2 q3)⟩
    unfold fX6_reckon
    have e2 : fX6_reckon_b4 (isA (gb M1 0) + 8) FU M1 0 0 = okI M2 ((evs (vls I (dX S) (dY S) (bitN (dL S) h) h p) (iW I) []).headD 0) := e2
    rw [e2, bI_ok]
    rfl
theorem c_rain (hI : ICn M I) (hk : IOk I) (hy : yr < 2 ^ 31) : fX2_rainIn (isA (gb M 0)) M (nI yr) = okI M (rnO I yr) := by
  have h10 := hk.1.2.2
  unfold fX2_rainIn rnO
  rw [hI.1.2.2.1]
  by_cases h0 : iN I = 0
  · rw [h0, if_neg (by decide), if_pos rfl]
  · rw [if_pos (gtL 0 (by omega) (by omega)), if_neg (ngtL 10 h10 (by decide)), if_neg h0]
    have hm : yr % iN I < iN I := Nat.mod_lt _ (by omega)
    unfold fJ9_floorMod_7cf53
    rw [chk_tt (by simpa using nI_ne0 (by omega) (by omega)), pk_rem hy (by omega) (by omega)]
    have hx : ¬ (nI yr ^^^ nI (iN I)) < 0 := by
      rw [nx_xor]
      exact nI_pos (Nat.xor_lt_two_pow hy (by omega))
    rw [if_neg hx, bI_ok, chk_in (by omega) (by decide), ix_nI (by omega), hI.2.2.2.1 _ hm]
theorem c_crop (hI : ICn M I) (hk : IOk I) (hS : DC0 a M S) (ha : a ∈ [39, 51, 62]) (hh : h < iH I) (hp : p < iP I) (hlot : lot = 0 ∨ lot = 1) (hy : yr < 2 ^ 31) :
    ∃ M', fX3_cropOf a M (nI h) (nI lot) (nI p) (nI yr) = okI M' (crp I S lot h p yr) ∧ Fr scrC M M' := by
  unfold fX3_cropOf
  rw [c_hasP hI hk hp, bI_ok, if_neg (by decide)]
  obtain ⟨M1, e1, F1, v1⟩ := c_tell hI hk hS ha hh hp hlot
  have I1 := hI.fr F1 ap23
  rw [e1, bV_ok, c_rain I1 hk hy, bI_ok]
  rw [wr_eq, wr_eq]
  have F2 : Fr [23] M (si (si M1 23 5 (rnO I yr)) 23 6 (nI yr)) := (F1.wi (by decide)).wi (by decide)
  have v2 : ∀ k, k < 7 → gi (si (si M1 23 5 (rnO I yr)) 23 6 (nI yr)) 23 k = vlY I (dX S) (dY S) lot h p yr k := by
    intro k hk7
    rcases (show k < 5 ∨ k = 5 ∨ k = 6 by omega) with h5 | rfl | rfl
    · rw [gi_si_k (by omega), gi_si_k (by omega), v1 k h5]
      unfold vlY
      rw [if_neg (by omega), if_neg (by omega)]
    · rw [gi_si_k (by decide), gi_si_s]; rfl
    · rw [gi_si_s]; rfl
  generalize si (si M1 23 5 (rnO I yr)) 23 6 (nI yr) = M2 at F2 v2 ⊢
  have I2 := hI.fr F2 ap23
  rw [v2 2 (by decide), v2 5 (by decide), told_ok I2.2.2.2.2.2.1 hk.2.1.2, bI_ok]
  unfold crp
  by_cases hw : iY I = []
  · rw [hw, if_pos (by rfl), if_pos rfl]
    exact ⟨M2, rfl, frS F2 (by decide)⟩
  · have hl : (iY I).length ≠ 0 := fun q => hw (List.length_eq_zero_iff.mp q)
    rw [if_neg hl, if_neg (by decide), if_neg hw]
    obtain ⟨q1, q2, q3, q4⟩ := isA2 (gb M2 0)
    obtain ⟨M3, F3, e3⟩ := reckC (r := isA (gb M2 0) + 11) (nv := 7) (v := vlY I (dX S) (dY S) lot h p yr) q2 (by decide) (iY I) M2 0 FU [] (FU_gt (by have := hk.2.1.2; omega)) (by have := hk.2.1.2; omega) (by rw [Nat.zero_add]; exact I2.2.2.2.2.2.1) (fun k hk => by rw [Nat.zero_add]; exact I2.2.2.2.2.2.2 k hk) v2 trivial (by decide) (hk.2.2.2.resolve_left hw)
    refine ⟨M3, ?_, (frS F2 (by decide)).tr (frS F3 q4)⟩
    unfold fX6_reckon
    have e3 : fX6_reckon_b4 (isA (gb M2 0) + 11) FU M2 0 0 = okI M3 ((evs (vlY I (dX S) (dY S) lot h p yr) (iY I) []).headD 0) := e3
    rw [e3, bI_ok]
    rfl
-- the reference
theorem r_isOf {x : Nat} (hx : x < 256) (hh : h < 8) : fX12_isOf M (nI x) (nI h) = okI M (nI (bitN x h)) := by
  unfold fX12_isOf
  rw [lot_bit hx hh]
  rcases bitN_2 x h with e | e
  · rw [e, if_neg (by decide)]; rfl
  · rw [e, if_pos (by decide)]; rfl
theorem r_str (hI : IR M I) (hk : IOk I) (hS : DR0 M S) (hL : dL S < 256) (hh : h < iH I) : fX12_strengthOf M (nI h) = okI M (strO I (bitN (dL S) h) h) := by
  have := hk.1.1
  unfold fX12_strengthOf
  rw [hS.1, r_isOf hL (by omega), bI_ok, chk_in (by omega) (by decide), chk_in (by omega) (by decide), ix_nI (by omega), (hI.2.1 h hh).1, (hI.2.1 h hh).2.1]
  unfold strO
  rcases bitN_2 (dL S) h with e | e
  · rw [e, if_pos (by decide), if_pos rfl]
  · rw [e, if_neg (by decide), if_neg (by decide)]
theorem r_walk (hI : IR M I) (hk : IOk I) (hS : DR0 M S) (hp : p < iP I) : fX12_walkOf M (nI p) = okI M (wlk I (dX S) (dY S) p) := by
  have := hk.1.2.1
  unfold fX12_walkOf
  rw [chk_in (by omega) (by decide), chk_in (by omega) (by decide), ix_nI (by omega), (hI.2.2.1 p hp).1, (hI.2.2.1 p hp).2.1, hS.2.2.1, hS.2.2.2.1]
  rfl
theorem ap106 : apart [106] irCells := by unfold apart; decide
theorem ap106d : apart [106] [87, 102, 103, 104] := by unfold apart; decide
theorem r_ask (hI : IR M I) (hk : IOk I) (hS : DR0 M S) (hL : dL S < 256) (hh : h < iH I) (hp : p < iP I) :
    ∃ M', fX12_askOf M (nI h) (nI p) = okV M' ∧ Fr [106] M M' ∧ ∀ k, k < 5 → gi M' 106 k = vls I (dX S) (dY S) (bitN (dL S) h) h p k := by
  have h8 := hk.1.1
  have h9 := hk.1.2.1
  unfold fX12_askOf
  rw [r_str hI hk hS hL hh, bI_ok, wr_eq]
  have F1 : Fr [106] M (si M 106 0 (strO I (bitN (dL S) h) h)) := Fr.wi Fr.rf (by decide)
  generalize e1 : si M 106 0 (strO I (bitN (dL S) h) h) = M1 at F1 ⊢
  have I1 := hI.fr F1 ap106
  rw [chk_in (by omega) (by decide), ix_nI (by omega), (I1.2.1 h hh).2.2, wr_eq]
  have F2 : Fr [106] M (si M1 106 1 (iA I 2 h)) := F1.wi (by decide)
  generalize e2 : si M1 106 1 (iA I 2 h) = M2 at F2 ⊢
  have I2 := hI.fr F2 ap106
  rw [chk_in (by omega) (by decide), ix_nI (by omega), (I2.2.2.1 p hp).2.2, wr_eq]
  have F3 : Fr [106] M (si M2 106 2 (iA I 5 p)) := F2.wi (by decide)
  generalize e3 : si M2 106 2 (iA I 5 p) = M3 at F3 ⊢
  have I3 := hI.fr F3 ap106
  have S3 := hS.fr F3 (by decide)
  rw [r_walk I3 hk S3 hp, bI_ok, wr_eq]
  have F4 : Fr [106] M (si M3 106 3 (wlk I (dX S) (dY S) p)) := F3.wi (by decide)
  generalize e4 : si M3 106 3 (wlk I (dX S) (dY S) p) = M4 at F4 ⊢
  have S4 := hS.fr F4 (by decide)
  rw [S4.1, r_isOf hL (by omega), bI_ok]
  have fin : ∃ M', okV (si M4 106 4 (nI (bitN (dL S) h))) = okV M' ∧ Fr [106] M M' ∧ ∀ k, k < 5 → gi M' 106 k = vls I (dX S) (dY S) (bitN (dL S) h) h p k := by
    refine ⟨_, rfl, F4.wi (by decide), ?_⟩
    intro k hk5
    rcases (show k = 0 ∨ k = 1 ∨ k = 2 ∨ k = 3 ∨ k = 4 by omega) with rfl | rfl | rfl | rfl | rfl
    · rw [gi_si_k (by decide), ← e4, gi_si_k (by decide), ← e3, gi_si_k (by decide), ← e2, gi_si_k (by decide), ← e1, gi_si_s]; rfl
    · rw [gi_si_k (by decide), ← e4, gi_si_k (by decide), ← e3, gi_si_k (by decide), ← e2, gi_si_s]; rfl
    · rw [gi_si_k (by decide), ← e4, gi_si_k (by decide), ← e3, gi_si_s]; rfl
    · rw [gi_si_k (by decide), ← e4, gi_si_s]; rfl
    · rw [gi_si_s]; rfl
  rcases bitN_2 (dL S) h with e | e
  · rw [e] at fin ⊢
    rw [if_pos (by decide)]
    exact fin
  · rw [e] at fin ⊢
    rw [if_neg (by decide)]
    exact fin
theorem frR {x : Nat} {M' : Mem} (h : Fr [x] M M') (hx : x ∈ scrR) : Fr scrR M M' := h.mono (fun b hb => by rw [List.mem_singleton.mp hb]; exact hx)
theorem r_worth (hI : IR M I) (hk : IOk I) (hS : DR0 M S) (hL : dL S < 256) (hh : h < iH I) (hp : p < iP I) :
    ∃ M', fX12_worthOf M (nI h) (nI p) = okI M' (wrt I S h p) ∧ Fr scrR M M' := by
  have h9 := hk.1.2.1
  have hlen := hk.2.1.1
  unfold fX12_worthOf wrt
  rw [hI.1.2.2.2.2.1]
  by_cases hw : iW I = []
  · rw [hw, if_pos (by rfl), if_pos rfl, chk_in (by omega) (by decide), r_walk hI hk hS hp, bI_ok, ix_nI (by omega), (hI.2.2.1 p hp).2.2]
    exact ⟨M, rfl, Fr.rf⟩
  · have hl : (iW I).length ≠ 0 := fun q => hw (List.length_eq_zero_iff.mp q)
    rw [if_neg (nI_ne0 (by omega) (by omega)), if_neg hw]
    obtain ⟨M1, e1, F1, v1⟩ := r_ask hI hk hS hL hh hp
    have I1 := hI.fr F1 ap106
    rw [e1, bV_ok, I1.1.2.2.2.2.1]
    obtain ⟨M2, F2, e2⟩ := reckR (a := 98) (nv := 5) (L := (iW I).length) (v := vls I (dX S) (dY S) (bitN (dL S) h) h p) (Or.inl rfl) (by decide) (iW I) M1 0 FU [] (FU_gt (by omega)) (by omega) (by omega) (fun k hk => by rw [Nat.zero_add]; exact I1.2.2.2.2.1 k hk) v1 trivial (by decide) (hk.2.2.1.resolve_left hw)
    refine ⟨M2, ?_, (frR F1 (by decide)).tr (frR F2 (by decide))⟩
    unfold fX12_valueNow
    have e2 : fX12_valueNow_b5 98 FU M1 (nI (iW I).length) 0 0 = okI M2 ((evs (vls I (dX S) (dY S) (bitN (dL S) h) h p) (iW I) []).headD 0) := e2
    rw [e2, bI_ok]
    rfl
theorem r_rain (hI : IR M I) (hk : IOk I) (hy : yr < 2 ^ 31) : fX12_rainOf M (nI yr) = okI M (rnO I yr) := by
  have h10 := hk.1.2.2
  unfold fX12_rainOf rnO
  rw [hI.1.2.2.1]
  by_cases h0 : iN I = 0
  · rw [h0, if_pos (by rfl), if_pos rfl]
  · have hm : yr % iN I < iN I := Nat.mod_lt _ (by omega)
    rw [if_neg (nI_ne0 (by omega) (by omega)), chk_tt (by simpa using nI_ne0 (by omega) (by omega)), pk_rem hy (by omega) (by omega), if_neg h0, chk_in (by omega) (by decide), ix_nI (by omega), hI.2.2.2.1 _ hm]
theorem r_harv (hI : IR M I) (hk : IOk I) (hS : DR0 M S) (hL : dL S < 256) (hh : h < iH I) (hp : p < iP I) (hy : yr < 2 ^ 31) :
    ∃ M', fX12_harvestOf M (nI h) (nI p) (nI yr) = okI M' (crp I S (bitN (dL S) h) h p yr) ∧ Fr scrR M M' := by
  have h9 := hk.1.2.1
  have hlen := hk.2.1.2
  unfold fX12_harvestOf crp
  rw [chk_in (by omega) (by decide), r_rain hI hk hy, bI_ok, hI.1.2.2.2.2.2]
  by_cases hw : iY I = []
  · rw [hw, if_neg (by decide), if_pos rfl, ix_nI (by omega), (hI.2.2.1 p hp).2.2]
    exact ⟨M, rfl, Fr.rf⟩
  · have hl : (iY I).length ≠ 0 := fun q => hw (List.length_eq_zero_iff.mp q)
    rw [if_pos (gtL 0 (by omega) (by omega)), if_neg hw]
    obtain ⟨M1, e1, F1, v1⟩ := r_ask hI hk hS hL hh hp
    have I1 := hI.fr F1 ap106
    rw [e1, bV_ok, r_rain I1 hk hy, bI_ok, wr_eq, wr_eq]
    have F2 : Fr [106] M (si (si M1 106 5 (rnO I yr)) 106 6 (nI yr)) := (F1.wi (by decide)).wi (by decide)
    have v2 : ∀ k, k < 7 → gi (si (si M1 106 5 (rnO I yr)) 106 6 (nI yr)) 106 k = vlY I (dX S) (dY S) (bitN (dL S) h) h p yr k := by
      intro k hk7
      rcases (show k < 5 ∨ k = 5 ∨ k = 6 by omega) with h5 | rfl | rfl
      · rw [gi_si_k (by omega), gi_si_k (by omega), v1 k h5]
        unfold vlY
        rw [if_neg (by omega), if_neg (by omega)]
      · rw [gi_si_k (by decide), gi_si_s]; rfl
      · rw [gi_si_s]; rfl
    generalize si (si M1 106 5 (rnO I yr)) 106 6 (nI yr) = M2 at F2 v2 ⊢
    have I2 := hI.fr F2 ap106
    rw [I2.1.2.2.2.2.2]
    obtain ⟨M3, F3, e3⟩ := reckR (a := 99) (nv := 7) (L := (iY I).length) (v := vlY I (dX S) (dY S) (bitN (dL S) h) h p yr) (Or.inr rfl) (by decide) (iY I) M2 0 FU [] (FU_gt (by omega)) (by omega) (by omega) (fun k hk => by rw [Nat.zero_add]; exact I2.2.2.2.2.2 k hk) v2 trivial (by decide) (hk.2.2.2.resolve_left hw)
    refine ⟨M3, ?_, (frR F2 (by decide)).tr (frR F3 (by decide))⟩
    unfold fX12_valueNow
    have e3 : fX12_valueNow_b5 99 FU M2 (nI (iY I).length) 0 0 = okI M3 ((evs (vlY I (dX S) (dY S) (bitN (dL S) h) h p yr) (iY I) []).headD 0) := e3
    rw [e3, bI_ok]
    rfl
end

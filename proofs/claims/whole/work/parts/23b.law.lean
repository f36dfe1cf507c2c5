-- ===== one call of the law =====
theorem law_step {N p f : Nat} {xs : Nat → Int32} {M : Mem} {X : WX} (hN : N ≤ 3072) (hp : p + 6 ≤ N) (hI : INV M X) : ∃ M' X', INV M' X' ∧ flaw N xs (f + 1) M (nI p) = flaw_b2209 N xs (flaw N xs f) M' (nI p) := by
  have hin : ∀ i, i < 6 → inb (nI p + nI i) N = true := fun i hi => by rw [nadd]; exact inb_nI (by omega) (by omega)
  have h1 : inb (nI p + 1) N = true := hin 1 (by decide)
  have h2 : inb (nI p + 2) N = true := hin 2 (by decide)
  have h3 : inb (nI p + 3) N = true := hin 3 (by decide)
  have h4 : inb (nI p + 4) N = true := hin 4 (by decide)
  have h5 : inb (nI p + 5) N = true := hin 5 (by decide)
  have hlt : ¬ Int32.ofNat N - 6 < nI p := by
    show ¬ nI N - nI 6 < nI p
    rw [pk_sub (show 6 ≤ N by omega)]
    exact nI_nlt (by omega) (by omega)
  rw [flaw]
  dsimp only
  rw [if_neg hlt, chk_in (show p < N by omega) (by omega)]
  by_cases c0 : (xs (ix (nI p)) &&& 63) = 0
  · rw [if_pos c0]
    simp only [chk_tt h1, chk_tt h2, chk_tt h3, chk_tt h4, chk_tt h5]
    exact law_0 (B := fun M => flaw_b2209 N xs (flaw N xs f) M (nI p)) hI (a_feed hI.1 _ _ _ _ _)
  rw [if_neg c0]
  clear c0
  by_cases c1 : (xs (ix (nI p)) &&& 63) = 1
  · rw [if_pos c1]
    unfold flaw_b346
    simp only [chk_tt h1]
    exact law_W (B := fun M => flaw_b2209 N xs (flaw N xs f) M (nI p)) hI (a_island hI.1 _)
  rw [if_neg c1]
  clear c1
  by_cases c2 : (xs (ix (nI p)) &&& 63) = 2
  · rw [if_pos c2]
    exact law_0 (B := fun M => flaw_b2209 N xs (flaw N xs f) M (nI p)) hI (a_fault hI.1 )
  rw [if_neg c2]
  clear c2
  by_cases c3 : (xs (ix (nI p)) &&& 63) = 3
  · rw [if_pos c3]
    unfold flaw_b415
    simp only [chk_tt h1]
    exact law_I (B := fun M => flaw_b2209 N xs (flaw N xs f) M (nI p)) hI (a_count hI.1 _) rfl hwA
  rw [if_neg c3]
  clear c3
  by_cases c4 : (xs (ix (nI p)) &&& 63) = 4
  · rw [if_pos c4]
    unfold flaw_b483
    simp only [chk_tt h1, chk_tt h2]
    exact law_I (B := fun M => flaw_b2209 N xs (flaw N xs f) M (nI p)) hI (a_house hI.1 _ _) rfl hwA
  rw [if_neg c4]
  clear c4
  by_cases c5 : (xs (ix (nI p)) &&& 63) = 5
  · rw [if_pos c5]
    unfold flaw_b551
    simp only [chk_tt h1, chk_tt h2]
    exact law_I (B := fun M => flaw_b2209 N xs (flaw N xs f) M (nI p)) hI (a_plot hI.1 _ _) rfl hwA
  rw [if_neg c5]
  clear c5
  by_cases c6 : (xs (ix (nI p)) &&& 63) = 6
  · rw [if_pos c6]
    unfold flaw_b619
    simp only [chk_tt h1, chk_tt h2]
    exact law_I (B := fun M => flaw_b2209 N xs (flaw N xs f) M (nI p)) hI (a_worth hI.1 _ _) rfl hwA
  rw [if_neg c6]
  clear c6
  by_cases c7 : (xs (ix (nI p)) &&& 63) = 7
  · rw [if_pos c7]
    unfold flaw_b699
    simp only [chk_tt h1, chk_tt h2, chk_tt h3]
    exact law_I (B := fun M => flaw_b2209 N xs (flaw N xs f) M (nI p)) hI (a_harvest hI.1 _ _ _) rfl hwN
  rw [if_neg c7]
  clear c7
  by_cases c8 : (xs (ix (nI p)) &&& 63) = 8
  · rw [if_pos c8]
    simp only [chk_tt h1]
    exact law_0 (B := fun M => flaw_b2209 N xs (flaw N xs f) M (nI p)) hI (a_lots hI.1 _)
  rw [if_neg c8]
  clear c8
  by_cases c9 : (xs (ix (nI p)) &&& 63) = 9
  · rw [if_pos c9]
    unfold flaw_b780
    simp only [chk_tt h1]
    exact law_I (B := fun M => flaw_b2209 N xs (flaw N xs f) M (nI p)) hI (a_turn hI.1 _) rfl hwA
  rw [if_neg c9]
  clear c9
  by_cases c10 : (xs (ix (nI p)) &&& 63) = 10
  · rw [if_pos c10]
    unfold flaw_b848
    simp only [chk_tt h1, chk_tt h2]
    exact law_I (B := fun M => flaw_b2209 N xs (flaw N xs f) M (nI p)) hI (a_order hI.1 _ _) rfl hwA
  rw [if_neg c10]
  clear c10
  by_cases c11 : (xs (ix (nI p)) &&& 63) = 11
  · rw [if_pos c11]
    unfold flaw_b917 flaw_b923
    simp only [chk_tt h1, chk_tt h2]
    exact law_E (B := fun M => flaw_b2209 N xs (flaw N xs f) M (nI p)) hI (a_exchange hI.1 _ _)
  rw [if_neg c11]
  clear c11
  by_cases c12 : (xs (ix (nI p)) &&& 63) = 12
  · rw [if_pos c12]
    simp only [chk_tt h1, chk_tt h2]
    exact law_0 (B := fun M => flaw_b2209 N xs (flaw N xs f) M (nI p)) hI (a_market hI.1 _ _)
  rw [if_neg c12]
  clear c12
  by_cases c13 : (xs (ix (nI p)) &&& 63) = 13
  · rw [if_pos c13]
    simp only [chk_tt h1]
    exact law_0 (B := fun M => flaw_b2209 N xs (flaw N xs f) M (nI p)) hI (a_years hI.1 _)
  rw [if_neg c13]
  clear c13
  by_cases c14 : (xs (ix (nI p)) &&& 63) = 14
  · rw [if_pos c14]
    exact law_0 (B := fun M => flaw_b2209 N xs (flaw N xs f) M (nI p)) hI (a_undo hI.1 )
  rw [if_neg c14]
  clear c14
  by_cases c15 : (xs (ix (nI p)) &&& 63) = 15
  · rw [if_pos c15]
    exact law_0 (B := fun M => flaw_b2209 N xs (flaw N xs f) M (nI p)) hI (a_ring hI.1 )
  rw [if_neg c15]
  clear c15
  by_cases c16 : (xs (ix (nI p)) &&& 63) = 16
  · rw [if_pos c16]
    unfold flaw_b1066
    simp only [chk_tt h1]
    exact law_L (B := fun M => flaw_b2209 N xs (flaw N xs f) M (nI p)) hI (a_best hI.1 _)
  rw [if_neg c16]
  clear c16
  by_cases c17 : (xs (ix (nI p)) &&& 63) = 17
  · rw [if_pos c17]
    unfold flaw_b1122
    simp only [chk_tt h1]
    exact law_I (B := fun M => flaw_b2209 N xs (flaw N xs f) M (nI p)) hI (a_fairest hI.1 _) rfl hwA
  rw [if_neg c17]
  clear c17
  by_cases c18 : (xs (ix (nI p)) &&& 63) = 18
  · rw [if_pos c18]
    exact law_0 (B := fun M => flaw_b2209 N xs (flaw N xs f) M (nI p)) hI (a_tribes hI.1 )
  rw [if_neg c18]
  clear c18
  by_cases c19 : (xs (ix (nI p)) &&& 63) = 19
  · rw [if_pos c19]
    exact law_0 (B := fun M => flaw_b2209 N xs (flaw N xs f) M (nI p)) hI (a_middle hI.1 )
  rw [if_neg c19]
  clear c19
  by_cases c20 : (xs (ix (nI p)) &&& 63) = 20
  · rw [if_pos c20]
    unfold flaw_b1216
    simp only [chk_tt h1, chk_tt h2]
    exact law_I (B := fun M => flaw_b2209 N xs (flaw N xs f) M (nI p)) hI (a_then hI.1 _ _) rfl hwN
  rw [if_neg c20]
  clear c20
  by_cases c21 : (xs (ix (nI p)) &&& 63) = 21
  · rw [if_pos c21]
    unfold flaw_b1272
    simp only [chk_tt h1]
    exact law_I (B := fun M => flaw_b2209 N xs (flaw N xs f) M (nI p)) hI (a_starves hI.1 _) rfl hwA
  rw [if_neg c21]
  clear c21
  by_cases c22 : (xs (ix (nI p)) &&& 63) = 22
  · rw [if_pos c22]
    unfold flaw_b1328
    simp only [chk_tt h1]
    exact law_I (B := fun M => flaw_b2209 N xs (flaw N xs f) M (nI p)) hI (a_tithes hI.1 _) rfl hwB
  rw [if_neg c22]
  clear c22
  by_cases c23 : (xs (ix (nI p)) &&& 63) = 23
  · rw [if_pos c23]
    exact law_0 (B := fun M => flaw_b2209 N xs (flaw N xs f) M (nI p)) hI (a_holdsOut hI.1 )
  rw [if_neg c23]
  clear c23
  by_cases c24 : (xs (ix (nI p)) &&& 63) = 24
  · rw [if_pos c24]
    unfold flaw_b1409
    simp only [chk_tt h1, chk_tt h2]
    exact law_I (B := fun M => flaw_b2209 N xs (flaw N xs f) M (nI p)) hI (a_lotsFor hI.1 _ _) rfl hwN
  rw [if_neg c24]
  clear c24
  by_cases c25 : (xs (ix (nI p)) &&& 63) = 25
  · rw [if_pos c25]
    unfold flaw_b1465
    simp only [chk_tt h1]
    exact law_I (B := fun M => flaw_b2209 N xs (flaw N xs f) M (nI p)) hI (a_change hI.1 _) rfl hwB
  rw [if_neg c25]
  clear c25
  by_cases c26 : (xs (ix (nI p)) &&& 63) = 26
  · rw [if_pos c26]
    unfold flaw_b1521
    simp only [chk_tt h1]
    exact law_I (B := fun M => flaw_b2209 N xs (flaw N xs f) M (nI p)) hI (a_envied hI.1 _) rfl hwA
  rw [if_neg c26]
  clear c26
  by_cases c27 : (xs (ix (nI p)) &&& 63) = 27
  · rw [if_pos c27]
    unfold flaw_b1589
    simp only [chk_tt h1, chk_tt h2]
    exact law_I (B := fun M => flaw_b2209 N xs (flaw N xs f) M (nI p)) hI (a_without hI.1 _ _) rfl hwN
  rw [if_neg c27]
  clear c27
  by_cases c28 : (xs (ix (nI p)) &&& 63) = 28
  · rw [if_pos c28]
    unfold flaw_b1645
    simp only [chk_tt h1]
    exact law_I (B := fun M => flaw_b2209 N xs (flaw N xs f) M (nI p)) hI (a_lastPlace hI.1 _) rfl hwA
  rw [if_neg c28]
  clear c28
  by_cases c29 : (xs (ix (nI p)) &&& 63) = 29
  · rw [if_pos c29]
    unfold flaw_b1701
    simp only [chk_tt h1]
    exact law_I (B := fun M => flaw_b2209 N xs (flaw N xs f) M (nI p)) hI (a_famine hI.1 _) rfl hwB
  rw [if_neg c29]
  clear c29
  by_cases c30 : (xs (ix (nI p)) &&& 63) = 30
  · rw [if_pos c30]
    unfold flaw_b1769
    simp only [chk_tt h1, chk_tt h2]
    exact law_I (B := fun M => flaw_b2209 N xs (flaw N xs f) M (nI p)) hI (a_bushels hI.1 _ _) rfl hwN
  rw [if_neg c30]
  clear c30
  by_cases c31 : (xs (ix (nI p)) &&& 63) = 31
  · rw [if_pos c31]
    exact law_0 (B := fun M => flaw_b2209 N xs (flaw N xs f) M (nI p)) hI (a_free hI.1 )
  rw [if_neg c31]
  clear c31
  by_cases c32 : (xs (ix (nI p)) &&& 63) = 32
  · rw [if_pos c32]
    unfold flaw_b1838
    simp only [chk_tt h1]
    exact law_I (B := fun M => flaw_b2209 N xs (flaw N xs f) M (nI p)) hI (a_richest hI.1 _) rfl hwB
  rw [if_neg c32]
  clear c32
  by_cases c33 : (xs (ix (nI p)) &&& 63) = 33
  · rw [if_pos c33]
    unfold flaw_b1918
    simp only [chk_tt h1, chk_tt h2, chk_tt h3]
    exact law_I (B := fun M => flaw_b2209 N xs (flaw N xs f) M (nI p)) hI (a_see hI.1 _ _ _) rfl hwA
  rw [if_neg c33]
  clear c33
  by_cases c34 : (xs (ix (nI p)) &&& 63) = 34
  · rw [if_pos c34]
    exact law_0 (B := fun M => flaw_b2209 N xs (flaw N xs f) M (nI p)) hI (a_brothers hI.1 )
  rw [if_neg c34]
  clear c34
  by_cases c35 : (xs (ix (nI p)) &&& 63) = 35
  · rw [if_pos c35]
    unfold flaw_b1999
    simp only [chk_tt h1, chk_tt h2]
    exact law_I (B := fun M => flaw_b2209 N xs (flaw N xs f) M (nI p)) hI (a_look hI.1 _ _) rfl hwA
  rw [if_neg c35]
  clear c35
  by_cases c36 : (xs (ix (nI p)) &&& 63) = 36
  · rw [if_pos c36]
    exact law_V (B := fun M => flaw_b2209 N xs (flaw N xs f) M (nI p)) hI (a_forget hI.1)
  rw [if_neg c36]
  clear c36
  by_cases c37 : (xs (ix (nI p)) &&& 63) = 37
  · rw [if_pos c37]
    unfold flaw_b2102
    simp only [chk_tt h1, chk_tt h2, chk_tt h3, chk_tt h4]
    exact law_I (B := fun M => flaw_b2209 N xs (flaw N xs f) M (nI p)) hI (a_game hI.1 _ _ _ _) rfl hwN
  rw [if_neg c37]
  clear c37
  by_cases c38 : (xs (ix (nI p)) &&& 63) = 38
  · rw [if_pos c38]
    unfold flaw_b2182
    simp only [chk_tt h1, chk_tt h2, chk_tt h3]
    exact law_I (B := fun M => flaw_b2209 N xs (flaw N xs f) M (nI p)) hI (a_founders hI.1 _ _ _) rfl hwN
  rw [if_neg c38]
  clear c38
  by_cases c39 : (xs (ix (nI p)) &&& 63) = 39
  · rw [if_pos c39]
    exact law_V (B := fun M => flaw_b2209 N xs (flaw N xs f) M (nI p)) hI (a_image hI.1)
  rw [if_neg c39]
  clear c39
  by_cases c40 : (xs (ix (nI p)) &&& 63) = 40
  · rw [if_pos c40]
    exact law_0 (B := fun M => flaw_b2209 N xs (flaw N xs f) M (nI p)) hI (a_restore hI.1 )
  rw [if_neg c40]
  clear c40
  exact ⟨M, X, hI, rfl⟩

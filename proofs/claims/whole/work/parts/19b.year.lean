-- ===== a year of the class =====
theorem or_lt {g h : Nat} (hg : g < 256) (hh : h < 8) : g ||| 2 ^ h < 256 := Nat.or_lt_two_pow (n := 8) hg (Nat.pow_lt_pow_right (by decide) hh)
section
variable {M M' : Mem} {I : IS} {S : DS} {a h e : Nat}
theorem liv_ok (hk : IOk I) (hO : DOk I S) (hh : h < iH I) : DOk I (liv e I S h) := by
  have h8 := hk.1.1
  have g2 := (got_is (I := I) (hO.2.2.2.2.1 h (by omega))).2
  obtain ⟨⟨a1, a2, a3⟩, b, c1, c2, c3, c4⟩ := hO
  refine ⟨⟨a1, ?_, a3⟩, b, c1, c2, fun x hx => ?_, fun x hx hx8 => ?_⟩
  · show (if got I S h < e then dG S ||| 2 ^ h else dG S) < 256
    by_cases c : got I S h < e
    · rw [if_pos c]; exact or_lt a2 (by omega)
    · rw [if_neg c]; exact a2
  · show upn (dR S) h (got I S h - e) x ≤ 999
    unfold upn
    by_cases q : x = h
    · rw [if_pos q]; omega
    · rw [if_neg q]; exact c3 x hx
  · show upn (dR S) h (got I S h - e) x = 0
    unfold upn
    rw [if_neg (by omega)]
    exact c4 x hx hx8
/-- one household's part of a year -/
def livH (e : Nat) (I : IS) (h : Nat) (S : DS) : DS := if bitN (dG S) h = 0 then liv e I S h else S
def yearS (e : Nat) (I : IS) (S : DS) : DS :=
  setY (foldN (livH e I) (iH I) 0 S) (dG (foldN (livH e I) (iH I) 0 S)) (dN (foldN (livH e I) (iH I) 0 S) + 1) (dT (foldN (livH e I) (iH I) 0 S)) (dR (foldN (livH e I) (iH I) 0 S))
theorem livH_N (e : Nat) (I : IS) (h : Nat) (S : DS) : dN (livH e I h S) = dN S := by
  unfold livH
  by_cases c : bitN (dG S) h = 0
  · rw [if_pos c]; rfl
  · rw [if_neg c]
theorem livH_ok (hk : IOk I) (hO : DOk I S) (hh : h < iH I) : DOk I (livH e I h S) := by
  unfold livH
  by_cases c : bitN (dG S) h = 0
  · rw [if_pos c]; exact liv_ok hk hO hh
  · rw [if_neg c]; exact hO
theorem c_gone (hS : DC0 a M S) (hG : dG S < 256) (hh : h < 8) : fX8_isGone a M (nI h) = okI M (nI (bitN (dG S) h)) := by
  unfold fX8_isGone
  rw [hS.2.1, lot_bit hG hh]
  by_cases c : bitN (dG S) h = 0
  · rw [c, if_pos (show nI 0 = 0 from rfl)]; rfl
  · have c1 : bitN (dG S) h = 1 := by unfold bitN at c ⊢; omega
    rw [c1, if_neg (by decide)]; rfl
theorem c_year (hI : ICn M I) (hk : IOk I) (hS : DC a M S) (hO : DOk I S) (ha : a ∈ [39, 51, 62]) (he : iE I = nI e) (he9 : e ≤ 9999) (rec2 : Mem → Int32 → Int32 → RS) (x2 x3 : Int32) :
    ∃ M', fX3_passYears_b10 a rec2 FU M x2 x3 0 = rec2 M' x2 (x3 + 1) ∧ DC a M' (yearS e I S) ∧ Fr (scrL a) M M' := by
  have h8 := hk.1.1
  obtain ⟨l0, l1, l2⟩ := scrL_is ha
  obtain ⟨M1, ⟨hF, hD, hO1⟩, e'⟩ := loopI (fun n M k (_ : DS) => fX3_passYears_b10 a rec2 n M x2 x3 (nI k)) (fun _ M' S' => Fr (scrL a) M M' ∧ DC a M' S' ∧ DOk I S') (iH I) (livH e I) (fun M S' => rec2 (si M a 4 (gi M a 4 + 1)) x2 (x3 + 1))
    (by
      intro n M1 k S1 ⟨hF, hD, hO1⟩ hkk
      have I1 := hI.fr hF l0
      rw [fX3_passYears_b10]
      dsimp only
      rw [I1.1.1, if_pos (nI_lt hkk (by omega)), c_gone hD.1 hO1.1.2.1 (by omega), bI_ok]
      have hok := livH_ok (e := e) hk hO1 hkk
      unfold livH at hok ⊢
      by_cases c : bitN (dG S1) k = 0
      · rw [if_pos c] at hok ⊢
        obtain ⟨M2, e2, D2, F2⟩ := c_live I1 hk hD hO1 ha hkk he he9
        rw [if_pos (by rw [c]; rfl), e2]
        unfold fX3_passYears_b51
        rw [nI_p1]
        exact ⟨M2, ⟨hF.tr F2, D2, hok⟩, rfl⟩
      · rw [if_neg c] at hok ⊢
        have c1 : bitN (dG S1) k = 1 := by unfold bitN at c ⊢; omega
        rw [c1, if_neg (by decide)]
        unfold fX3_passYears_b51
        rw [nI_p1]
        exact ⟨M1, ⟨hF, hD, hok⟩, rfl⟩)
    (by
      intro n M1 S1 ⟨hF, hD, hO1⟩
      have I1 := hI.fr hF l0
      rw [fX3_passYears_b10]
      dsimp only
      rw [I1.1.1, if_neg (nI_nlt (Nat.le_refl _) (by omega)), wr_eq])
    (iH I) 0 (by omega) FU (FU_gt (by omega)) M S ⟨Fr.rf, hS, hO⟩
  refine ⟨_, e', ?_, hF.wi (by unfold scrL; simp)⟩
  generalize hSn : foldN (livH e I) (iH I) 0 S = Sn at hD hO1
  unfold yearS
  rw [hSn]
  obtain ⟨⟨a0, a1, a2, a3, a4, a5, a6⟩, b1, b2, b3⟩ := hD
  refine ⟨⟨?_, ?_, ?_, ?_, ?_, ?_, ?_⟩, ?_, ?_, ?_⟩
  · rw [gi_si_k (by decide)]; exact a0
  · rw [gi_si_k (by decide)]; exact a1
  · rw [gi_si_k (by decide)]; exact a2
  · rw [gi_si_k (by decide)]; exact a3
  · rw [gi_si_s, a4, nI_p1]; rfl
  · rw [gi_si_k (by decide)]; exact a5
  · rw [gi_si_k (by decide)]; exact a6
  · intro z k hk; rw [gi_si_a (by omega)]; exact b1 z k hk
  · intro z k hk; rw [gi_si_a (by omega)]; exact b2 z k hk
  · intro k hk; rw [gi_si_a (by omega)]; exact b3 k hk
end

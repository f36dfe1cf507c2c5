-- ===== a year of the reference =====
def scrY : List Nat := [106, 107, 87, 102]
theorem apY : apart scrY irCells := by unfold apart; decide
theorem scrY_r {M M' : Mem} (h : Fr scrR M M') : Fr scrY M M' := h.mono (by unfold scrR scrY; decide)
/-- the model's own fields but year, gone and tithe stand -/
def MF (M M' : Mem) : Prop := ∀ k, k ≠ 31 → k ≠ 32 → k ≠ 33 → gi M' 87 k = gi M 87 k
section
variable {M M' : Mem} {I : IS} {S : DS} {h e : Nat}
theorem liv_DR (hS : DRf M S) (h0 : ∀ k, k ≠ 32 → k ≠ 33 → gi M' 87 k = gi M 87 k) (h1 : gi M' 87 32 = nI (dG (liv e I S h))) (h5 : gi M' 87 33 = dT (liv e I S h)) (hp : ∀ k, gi M' 104 k = gi M 104 k) (hs : ∀ k, gi M' 103 k = gi M 103 k) (hr : ∀ x, gi M' 102 x = if x = h then nI (got I S h - e) else gi M 102 x) : DRf M' (liv e I S h) := by
  obtain ⟨⟨a0, a1, a2, a3, a4, a5, a6⟩, b1, b2, b3⟩ := hS
  refine ⟨⟨?_, h1, ?_, ?_, ?_, h5, ?_⟩, ?_, ?_, ?_⟩
  · rw [h0 35 (by decide) (by decide)]; exact a0
  · rw [h0 36 (by decide) (by decide)]; exact a2
  · rw [h0 37 (by decide) (by decide)]; exact a3
  · rw [h0 31 (by decide) (by decide)]; exact a4
  · rw [h0 34 (by decide) (by decide)]; exact a6
  · intro z k hk; rw [hp]; exact b1 z k hk
  · intro z x hx; rw [hs]; exact b2 z x hx
  · intro x hx
    rw [hr]
    show _ = nI (upn (dR S) h (got I S h - e) x)
    unfold upn
    by_cases q : x = h
    · rw [if_pos q, if_pos q]
    · rw [if_neg q, if_neg q]; exact b3 x hx
theorem r_live (hI : IR M I) (hk : IOk I) (hS : DRf M S) (hO : DOk I S) (hh : h < iH I) (he : iE I = nI e) (he9 : e ≤ 9999) (rec2 : Mem → Int32 → RS) :
    ∃ M', fX12_aYear_b55 rec2 M (nI h) (nI (reap I S h)) = rec2 M' (nI (h + 1)) ∧ DRf M' (liv e I S h) ∧ Fr scrY M M' ∧ MF M M' := by
  have h8 := hk.1.1
  have hR := hO.2.2.2.2.1 h (by omega)
  obtain ⟨g1, g2⟩ := got_is (I := I) hR
  have hr := reap_le I S h
  have hd : nI (reap I S h) / 10 = nI (reap I S h / 10) := pk_div (d := 10) (by omega) (by decide) (by decide)
  unfold fX12_aYear_b55
  rw [wr_eq, hd, hS.1.2.2.2.2.2.1, chk_in (by omega) (by decide), chk_in (by omega) (by decide), ix_nI (by omega), gi_si_a (show (102 : Nat) ≠ 87 by decide), hS.2.2.2 h (by omega), g1, wr_eq, chk_in (by omega) (by decide), gi_si_s, gi_si_a (show (90 : Nat) ≠ 102 by decide), gi_si_a (show (90 : Nat) ≠ 87 by decide), hI.1.2.2.2.1, he]
  have fin : ∀ M2 : Mem, gi M2 102 h = nI (got I S h) → gi M2 90 3 = nI e → fX12_aYear_b121 rec2 M2 (nI h) = rec2 (si M2 102 h (nI (got I S h - e))) (nI (h + 1)) := by
    intro M2 q1 q2
    unfold fX12_aYear_b121 fX12_aYear_b144
    rw [chk_in (by omega) (by decide), chk_in (by omega) (by decide), ix_nI (by omega), wr_eq, q1, q2, nI_p1]
    by_cases c : got I S h ≤ e
    · have : ¬ 0 < nI (got I S h) - nI e := by
        by_cases c2 : got I S h = e
        · rw [c2, pk_sub (Nat.le_refl _), Nat.sub_self]; decide
        · have := pk_sneg (show e < 2 ^ 30 by omega) (show got I S h < e by omega)
          intro z
          have z1 := Int32.lt_iff_toInt_lt.mp this
          have z2 := Int32.lt_iff_toInt_lt.mp z
          omega
      rw [if_neg this, show got I S h - e = 0 by omega]; rfl
    · rw [pk_sub (by omega), if_pos (gtL 0 (by omega) (by omega))]
  by_cases c : got I S h < e
  · rw [if_pos (nI_lt c (by omega)), wr_eq, fin _ (by rw [gi_si_a (by decide), gi_si_s]) (by rw [gi_si_a (by decide), gi_si_a (by decide), gi_si_a (by decide), hI.1.2.2.2.1, he])]
    refine ⟨_, rfl, liv_DR hS (fun k k1 k5 => ?_) ?_ ?_ (fun k => ?_) (fun k => ?_) (fun x => ?_), ?_, fun k k1 k2 k3 => ?_⟩
    · rw [gi_si_a (by decide), gi_si_k k1, gi_si_a (by decide), gi_si_k k5]
    · rw [gi_si_a (by decide), gi_si_s, gi_si_a (by decide), gi_si_k (by decide), hS.1.2.1, or_bit h (by omega), nI_or]
      show _ = nI (if got I S h < e then dG S ||| 2 ^ h else dG S)
      rw [if_pos c]
    · rw [gi_si_a (by decide), gi_si_k (by decide), gi_si_a (by decide), gi_si_s]; rfl
    · rw [gi_si_a (by decide), gi_si_a (by decide), gi_si_a (by decide), gi_si_a (by decide)]
    · rw [gi_si_a (by decide), gi_si_a (by decide), gi_si_a (by decide), gi_si_a (by decide)]
    · by_cases q : x = h
      · rw [q, gi_si_s, if_pos rfl]
      · rw [gi_si_k q, if_neg q, gi_si_a (by decide), gi_si_k q, gi_si_a (by decide)]
    · exact (((Fr.rf.wi (by decide)).wi (by decide)).wi (by decide)).wi (by decide)
    · rw [gi_si_a (by decide), gi_si_k k2, gi_si_a (by decide), gi_si_k k3]
  · rw [if_neg (nI_nlt (by omega) (by omega)), fin _ (by rw [gi_si_s]) (by rw [gi_si_a (by decide), gi_si_a (by decide), hI.1.2.2.2.1, he])]
    refine ⟨_, rfl, liv_DR hS (fun k k1 k5 => ?_) ?_ ?_ (fun k => ?_) (fun k => ?_) (fun x => ?_), ?_, fun k k1 k2 k3 => ?_⟩
    · rw [gi_si_a (by decide), gi_si_a (by decide), gi_si_k k5]
    · rw [gi_si_a (by decide), gi_si_a (by decide), gi_si_k (by decide), hS.1.2.1]
      show _ = nI (if got I S h < e then dG S ||| 2 ^ h else dG S)
      rw [if_neg c]
    · rw [gi_si_a (by decide), gi_si_a (by decide), gi_si_s]; rfl
    · rw [gi_si_a (by decide), gi_si_a (by decide), gi_si_a (by decide)]
    · rw [gi_si_a (by decide), gi_si_a (by decide), gi_si_a (by decide)]
    · by_cases q : x = h
      · rw [q, gi_si_s, if_pos rfl]
      · rw [gi_si_k q, if_neg q, gi_si_k q, gi_si_a (by decide)]
    · exact ((Fr.rf.wi (by decide)).wi (by decide)).wi (by decide)
    · rw [gi_si_a (by decide), gi_si_a (by decide), gi_si_k k3]
end

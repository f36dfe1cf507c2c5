-- ===== a household lives through a year: the state =====
def scrL (a : Nat) : List Nat := [13, 16, 23, 34, 37, a, a + 3]
theorem scrL_is {a : Nat} (ha : a ∈ [39, 51, 62]) : apart (scrL a) isCells ∧ a + 1 ∉ scrL a ∧ a + 2 ∉ scrL a := by
  simp only [List.mem_cons, List.not_mem_nil, or_false] at ha
  rcases ha with rfl | rfl | rfl <;> unfold apart <;> decide
theorem scrC_a {a : Nat} (ha : a ∈ [39, 51, 62]) : a ∉ scrC ∧ a + 1 ∉ scrC ∧ a + 2 ∉ scrC ∧ a + 3 ∉ scrC := by
  simp only [List.mem_cons, List.not_mem_nil, or_false] at ha
  rcases ha with rfl | rfl | rfl <;> decide
theorem scrL_c {a : Nat} {M M' : Mem} (h : Fr scrC M M') : Fr (scrL a) M M' := h.mono (fun x hx => by
  unfold scrC at hx
  unfold scrL
  simp only [List.mem_cons, List.not_mem_nil, or_false] at hx ⊢
  omega)
section
variable {M M' : Mem} {I : IS} {S : DS} {a h e : Nat}
theorem liv_DC (hS : DC a M S) (h0 : ∀ k, k ≠ 1 → k ≠ 5 → gi M' a k = gi M a k) (h1 : gi M' a 1 = nI (dG (liv e I S h))) (h5 : gi M' a 5 = dT (liv e I S h)) (hp : ∀ k, gi M' (a + 1) k = gi M (a + 1) k) (hs : ∀ k, gi M' (a + 2) k = gi M (a + 2) k) (hr : ∀ x, gi M' (a + 3) x = if x = h then nI (got I S h - e) else gi M (a + 3) x) : DC a M' (liv e I S h) := by
  obtain ⟨⟨a0, a1, a2, a3, a4, a5, a6⟩, b1, b2, b3⟩ := hS
  refine ⟨⟨?_, h1, ?_, ?_, ?_, h5, ?_⟩, ?_, ?_, ?_⟩
  · rw [h0 0 (by decide) (by decide)]; exact a0
  · rw [h0 2 (by decide) (by decide)]; exact a2
  · rw [h0 3 (by decide) (by decide)]; exact a3
  · rw [h0 4 (by decide) (by decide)]; exact a4
  · rw [h0 6 (by decide) (by decide)]; exact a6
  · intro z k hk; rw [hp]; exact b1 z k hk
  · intro z x hx; rw [hs]; exact b2 z x hx
  · intro x hx
    rw [hr]
    show _ = nI (upn (dR S) h (got I S h - e) x)
    unfold upn
    by_cases q : x = h
    · rw [if_pos q, if_pos q]
    · rw [if_neg q, if_neg q]; exact b3 x hx
theorem got_is (hR : dR S h ≤ 999) : (if nI (dR S h) + nI (reap I S h) - nI (reap I S h / 10) < 999 then nI (dR S h) + nI (reap I S h) - nI (reap I S h / 10) else 999) = nI (got I S h) ∧ got I S h ≤ 999 := by
  have hr := reap_le I S h
  rw [nI_add, pk_sub (by omega)]
  unfold got
  by_cases c : dR S h + reap I S h - reap I S h / 10 < 999
  · rw [if_pos (ltL 999 c (by decide)), if_pos c]; exact ⟨rfl, by omega⟩
  · rw [if_neg (nltL 999 (by omega) (by omega)), if_neg c]; exact ⟨rfl, by omega⟩
theorem c_live (hI : ICn M I) (hk : IOk I) (hS : DC a M S) (hO : DOk I S) (ha : a ∈ [39, 51, 62]) (hh : h < iH I) (he : iE I = nI e) (he9 : e ≤ 9999) :
    ∃ M', (∀ k, bI (fX3_cropOnShare a M (nI h)) (fun M4 v5 => bV (fX8_storeAndEat a M4 (nI h) v5 (gi M4 (isA (gb M4 0)) 14)) k) = k M') ∧ DC a M' (liv e I S h) ∧ Fr (scrL a) M M' := by
  have h8 := hk.1.1
  have hR := hO.2.2.2.2.1 h (by omega)
  obtain ⟨g1, g2⟩ := got_is (I := I) hR
  have hr := reap_le I S h
  obtain ⟨n0, n1, n2, n3⟩ := scrC_a ha
  obtain ⟨l0, l1, l2⟩ := scrL_is ha
  obtain ⟨M3, e3, F3⟩ := c_cropOn hI hk hS hO ha hh
  have I3 := hI.fr (scrL_c F3) l0
  suffices q : ∃ M', fX8_storeAndEat a M3 (nI h) (nI (reap I S h)) (nI e) = okV M' ∧ DC a M' (liv e I S h) ∧ Fr (scrL a) M M' by
    obtain ⟨M', e', D', F'⟩ := q
    refine ⟨M', fun k => ?_, D', F'⟩
    rw [e3, bI_ok, I3.1.2.2.2, he, e', bV_ok]
  unfold fX8_storeAndEat
  have hd : nI (reap I S h) / 10 = nI (reap I S h / 10) := pk_div (d := 10) (by omega) (by decide) (by decide)
  rw [if_neg (nI_pos (by omega)), if_pos (ltL 8 (by omega) (by decide)), wr_eq, hd, F3.i n0, hS.1.2.2.2.2.2.1]
  obtain ⟨M5, hM5⟩ : ∃ M5, M5 = si M3 a 5 (dT S + nI (reap I S h / 10)) := ⟨_, rfl⟩
  rw [← hM5]
  have F5 : Fr (scrL a) M M5 := by rw [hM5]; exact (scrL_c F3).wi (by unfold scrL; simp)
  have r5 : ∀ k, gi M5 (a + 3) k = gi M (a + 3) k := fun k => by rw [hM5, gi_si_a (by omega)]; exact F3.i n3 k
  have f5 : ∀ k, k ≠ 5 → gi M5 a k = gi M a k := fun k hk => by rw [hM5, gi_si_k hk]; exact F3.i n0 k
  have t5 : gi M5 a 5 = dT S + nI (reap I S h / 10) := by rw [hM5, gi_si_s]
  rw [chk_in (by omega) (by decide), ix_nI (by omega), r5, hS.2.2.2 h (by omega), g1, chk_in (by omega) (by decide)]
  by_cases c : got I S h < e
  · rw [if_pos (nI_lt c (by omega)), wr_eq, wr_eq]
    refine ⟨_, rfl, liv_DC hS (fun k k1 k5 => ?_) ?_ ?_ (fun k => ?_) (fun k => ?_) (fun x => ?_), (F5.wi (by unfold scrL; simp)).wi (by unfold scrL; simp)⟩
    · rw [gi_si_k k1, gi_si_a (by omega)]; exact f5 k k5
    · rw [gi_si_s, gi_si_a (by omega), f5 1 (by decide), hS.1.2.1, or_bit h (by omega), nI_or]
      show _ = nI (if got I S h < e then dG S ||| 2 ^ h else dG S)
      rw [if_pos c]
    · rw [gi_si_k (by decide), gi_si_a (by omega)]; exact t5
    · rw [gi_si_a (by omega), gi_si_a (by omega)]; exact F5.i l1 k
    · rw [gi_si_a (by omega), gi_si_a (by omega)]; exact F5.i l2 k
    · rw [gi_si_a (by omega)]
      by_cases q : x = h
      · rw [q, gi_si_s, if_pos rfl, show got I S h - e = 0 by omega]; rfl
      · rw [gi_si_k q, if_neg q]; exact r5 x
  · rw [if_neg (nI_nlt (by omega) (by omega)), chk_in (by omega) (by decide), wr_eq, pk_sub (by omega)]
    refine ⟨_, rfl, liv_DC hS (fun k k1 k5 => ?_) ?_ ?_ (fun k => ?_) (fun k => ?_) (fun x => ?_), F5.wi (by unfold scrL; simp)⟩
    · rw [gi_si_a (by omega)]; exact f5 k k5
    · rw [gi_si_a (by omega), f5 1 (by decide), hS.1.2.1]
      show _ = nI (if got I S h < e then dG S ||| 2 ^ h else dG S)
      rw [if_neg c]
    · rw [gi_si_a (by omega)]; exact t5
    · rw [gi_si_a (by omega)]; exact F5.i l1 k
    · rw [gi_si_a (by omega)]; exact F5.i l2 k
    · by_cases q : x = h
      · rw [q, gi_si_s, if_pos rfl]
      · rw [gi_si_k q, if_neg q]; exact r5 x
end

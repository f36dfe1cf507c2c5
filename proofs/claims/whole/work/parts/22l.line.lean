-- ===== both sides read a line: numbers; the island in the making =====
section
variable {T : Nat → Nat} {n z : Nat} {Mc Mr M : Mem} {j : Nat}
def TkS (M : Mem) (T : Nat → Nat) (n z : Nat) : Prop := gi M 18 4 = nI n ∧ gi M 18 6 = nI z ∧ TkC M T n z
def Txt (T : Nat → Nat) (n z : Nat) : Prop := n ≤ 700 ∧ (∀ k, k < n → T k < 256) ∧ z ≤ n ∧ ps T n z = n
def movC (T : Nat → Nat) (n : Nat) (M : Mem) (j : Nat) : Mem := si (si M 17 4 (nI j)) 17 5 (nI (syA T n (ps T n j)))
def fltC (M : Mem) (k _p : Nat) : Mem := si M 17 6 (nI k)
def fltR (M : Mem) (k p : Nat) : Mem := si (si M 87 23 (nI k)) 87 24 (nI p)
theorem fltC_f {k p : Nat} (hk : 1 ≤ k ∧ k ≤ 5) : gi (fltC M k p) 17 6 ≠ 0 := by
  unfold fltC
  rw [gi_si_s]
  exact nIk0 hk.1 (by omega)
theorem fltR_f {k p : Nat} (hk : 1 ≤ k ∧ k ≤ 5) : gi (fltR M k p) 87 23 ≠ 0 := by
  unfold fltR
  rw [gi_si_k (by decide), gi_si_s]
  exact nIk0 hk.1 (by omega)
theorem fusC (_ : TkS M T n z) (_ : Txt T n z) (h : AtC T n M j) (_ : j ≤ z) {k : Nat} {K : Int32} (hK : K = nI k) : fX5_refuseAs M K = okV (fltC M k (ps T n j)) := by
  rw [hK, c_ref h.2.2]
  rfl
theorem advC (t : TkS M T n z) (x : Txt T n z) (h : AtC T n M j) (hj : j < z) : fX5_advance M = okV (movC T n M (j + 1)) := by
  rw [c_adv t.2.1 t.2.2 x.2.2.2 (by have := x.1; have := x.2.2.1; omega) hj h.1]
  rfl
theorem wrR (h : AtR T n M j) {k : Nat} {K : Int32} (hK : K = nI k) : fX12_wrong M K = okV (fltR M k (ps T n j)) := by
  rw [hK, r_wr h.2, h.1.1]
  rfl
theorem movC_at {j' : Nat} (h : AtC T n M j) : AtC T n (movC T n M j') j' := by
  unfold movC
  exact ⟨by rw [gi_si_k (by decide), gi_si_s], gi_si_s, by rw [gi_si_k (by decide), gi_si_k (by decide)]; exact h.2.2⟩
theorem TkS.w (t : TkS M T n z) {a k : Nat} {v : Int32} (ha : a < 18 ∨ 21 < a) : TkS (si M a k v) T n z := by
  refine ⟨(gi_si_a (by omega)).trans t.1, (gi_si_a (by omega)).trans t.2.1, fun i hi => ?_⟩
  rw [gi_si_a (by omega), gi_si_a (by omega), gi_si_a (by omega)]
  exact t.2.2 i hi
theorem advR (x : Txt T n z) (tx : TxR M T n) (h : AtR T n M j) : ∃ M', fX12_stepOn M = okV M' ∧ KR M M' ∧ AtR T n M' (j + 1) := by
  obtain ⟨M', e, K, t⟩ := r_step x.1 x.2.1 (stop_in (ps_le j)).2.1 tx h.1.2.1
  exact ⟨M', e, K, t, (K.2 23 (by decide) (by decide) (by decide) (by decide) (by decide)).trans h.2⟩
theorem peek_both (x : Txt T n z) (t : TkS Mc T n z) (hc : AtC T n Mc j) (hr : AtR T n Mr j) (hj : j ≤ z) {top : Nat} {t1 t2 : Int32} (h1 : t1 = nI top) (h2 : t2 = nI top) (ht : top < 10000) :
    (∃ v, v ≤ top ∧ syA T n (ps T n j) = 1 ∧ fX5_peekNumber Mc t1 = okI Mc (nI v) ∧ fX12_numberNow Mr 0 t2 = okI Mr (nI v)) ∨
    ∃ k w, (1 ≤ k ∧ k ≤ 5) ∧ fX5_peekNumber Mc t1 = okI (fltC Mc k (ps T n j)) w ∧ fX12_numberNow Mr 0 t2 = okI (fltR Mr k (ps T n j)) 0 := by
  have h7 : z ≤ 700 := by have := x.1; have := x.2.2.1; omega
  obtain ⟨s, hs⟩ : ∃ s, s = ps T n j := ⟨_, rfl⟩
  have slt := sy_lt (T := T) (n := n) (s := s)
  have hlt := nmA_le (T := T) (n := n) s
  have hsn : s ≤ n := by rw [hs]; exact ps_le j
  obtain ⟨o1, o2, o3⟩ := stop_in (T := T) (n := n) (s := s) hsn
  obtain ⟨c4, c5, c6⟩ := hc
  have r1 := hr.1
  rw [← hs] at c5 r1
  obtain ⟨a1, a2, a3, a4, a5⟩ := r1
  have en := c_nmAt t.2.1 t.2.2 x.2.2.2 h7 hj
  rw [← hs] at en
  unfold fX5_peekNumber fX5_isNumber fX5_isNumber_b16 fX5_peekNumber_b40 fX12_numberNow fX12_numberNow_b54 fX12_numberNow_b59
  rw [c4, en, bI_ok, c5, if_pos hr.2, a4, a1, a3, h1, h2]
  have bad : syA T n s ≠ 1 → syA T n s ≠ 2 → kdA T n s ≠ 2 → kdA T n s < 9 → ∃ k w, (1 ≤ k ∧ k ≤ 5) ∧ (bI (if nI (syA T n s) = 1 then some (Mc, .inr (some (.int 1))) else if nI (syA T n s) = 2 then some (Mc, .inr (some (.int 1))) else some (Mc, .inr (some (.int 0)))) (fun M3 v4 => if v4 = 0 then bV (fX5_refuseAs M3 1) (fun M5 => some (M5, .inr (some (.int (nI (nmA T n s)))))) else if (gi M3 17 5) = 2 then bV (fX5_refuseAs M3 2) (fun M7 => some (M7, .inr (some (.int (nI (nmA T n s)))))) else if nI top < nI (nmA T n s) then bV (fX5_refuseAs M3 2) (fun M7 => some (M7, .inr (some (.int (nI (nmA T n s)))))) else some (M3, .inr (some (.int (nI (nmA T n s))))))) = okI (fltC Mc k (ps T n j)) w ∧ (if nI (kdA T n s) = 2 then if 4 < nI (stop T n s) - nI s then bV (fX12_wrong Mr 2) (fun M3 => if (gi M3 87 23) = 0 then some (M3, .inr (some (.int (gi M3 87 20)))) else some (M3, .inr (some (.int 0)))) else if (gi Mr 87 20) < 0 then bV (fX12_wrong Mr 2) (fun M3 => if (gi M3 87 23) = 0 then some (M3, .inr (some (.int (gi M3 87 20)))) else some (M3, .inr (some (.int 0)))) else if nI top < (gi Mr 87 20) then bV (fX12_wrong Mr 2) (fun M3 => if (gi M3 87 23) = 0 then some (M3, .inr (some (.int (gi M3 87 20)))) else some (M3, .inr (some (.int 0)))) else if (gi Mr 87 23) = 0 then some (Mr, .inr (some (.int (gi Mr 87 20)))) else some (Mr, .inr (some (.int 0))) else bV (fX12_wrong Mr 1) (fun M1 => if (gi M1 87 23) = 0 then some (M1, .inr (some (.int (gi M1 87 20)))) else some (M1, .inr (some (.int 0))))) = okI (fltR Mr k (ps T n j)) 0 := by
    intro b1 b2 b3 b4
    refine ⟨1, nI (nmA T n s), by decide, ?_, ?_⟩
    · rw [if_neg (neL 1 b1 (by omega) (by decide)), if_neg (neL 2 b2 (by omega) (by decide)), bI_ok, if_pos rfl, fusC t x ⟨c4, by rw [← hs]; exact c5, c6⟩ hj (k := 1) (K := 1) rfl, bV_ok]
    · rw [if_neg (neL 2 b3 (by omega) (by decide)), wrR hr (k := 1) (K := 1) rfl, bV_ok, if_neg (fltR_f (by decide))]
  rcases sy_kinds T n s with ⟨a, b, _⟩ | ⟨a, b, b2, _⟩ | ⟨a, b, hsn⟩ | ⟨a, b, b2, b3, _⟩ | ⟨a, b, _⟩
  · exact Or.inr (bad (by omega) (by omega) (by omega) (by omega))
  · exact Or.inr (bad (by omega) (by omega) (by omega) (by omega))
  · rw [if_pos (eqL 2 a), pk_sub o1]
    rcases b with ⟨b, b4⟩ | ⟨b, b4⟩
    · have hnl : ¬ nI (nmA T n s) < 0 := nI_pos (by omega)
      rw [if_pos (eqL 1 b), bI_ok, if_neg n10, c5, if_neg (neL 2 (by omega) (by omega) (by decide)), if_neg (ngtL 4 b4 (by decide)), a5 a b4, if_neg hnl]
      by_cases ct : top < nmA T n s
      · rw [if_pos (nI_lt ct (by omega)), if_pos (nI_lt ct (by omega)), fusC t x ⟨c4, by rw [← hs]; exact c5, c6⟩ hj (k := 2) (K := 2) rfl, bV_ok, wrR hr (k := 2) (K := 2) rfl, bV_ok, if_neg (fltR_f (by decide))]
        exact Or.inr ⟨2, _, by decide, rfl, rfl⟩
      · rw [if_neg (nI_nlt (by omega) (by omega)), if_neg (nI_nlt (by omega) (by omega)), if_pos hr.2]
        exact Or.inl ⟨nmA T n s, by omega, by rw [← hs]; exact b, rfl, rfl⟩
    · rw [if_neg (neL 1 (by omega) (by omega) (by decide)), if_pos (eqL 2 b), bI_ok, if_neg n10, c5, if_pos (eqL 2 b), if_pos (gtL 4 b4 (by have := x.1; omega)), fusC t x ⟨c4, by rw [← hs]; exact c5, c6⟩ hj (k := 2) (K := 2) rfl, bV_ok, wrR hr (k := 2) (K := 2) rfl, bV_ok, if_neg (fltR_f (by decide))]
      exact Or.inr ⟨2, _, by decide, rfl, rfl⟩
  · exact Or.inr (bad (by omega) (by omega) (by omega) (by omega))
  · exact Or.inr (bad (by omega) (by omega) (by omega) (by omega))
theorem num_both (x : Txt T n z) (t : TkS Mc T n z) (tx : TxR Mr T n) (hc : AtC T n Mc j) (hr : AtR T n Mr j) (hj : j ≤ z) {top : Nat} {t1 t2 : Int32} (h1 : t1 = nI top) (h2 : t2 = nI top) (ht : top < 10000) :
    (∃ v Mr', v ≤ top ∧ j < z ∧ fX5_readNumber Mc t1 = okI (movC T n Mc (j + 1)) (nI v) ∧ fX12_readNumber Mr 0 t2 = okI Mr' (nI v) ∧ KR Mr Mr' ∧ AtR T n Mr' (j + 1)) ∨
    ∃ k w, (1 ≤ k ∧ k ≤ 5) ∧ fX5_readNumber Mc t1 = okI (fltC Mc k (ps T n j)) w ∧ fX12_readNumber Mr 0 t2 = okI (fltR Mr k (ps T n j)) 0 := by
  unfold fX5_readNumber fX12_readNumber
  rcases peek_both x t hc hr hj h1 h2 ht with ⟨v, hv, hs, e1, e2⟩ | ⟨k, w, hk, e1, e2⟩
  · have hj1 := j_lt x.2.2.2 hj (by omega)
    obtain ⟨Mr', e3, K, a⟩ := advR x tx hr
    exact Or.inl ⟨v, Mr', hv, hj1, by rw [e1, bI_ok, if_pos hc.2.2, advC t x hc hj1, bV_ok], by rw [e2, bI_ok, if_pos hr.2, e3, bV_ok], K, a⟩
  · exact Or.inr ⟨k, w, hk, by rw [e1, bI_ok, if_neg (fltC_f hk)], by rw [e2, bI_ok, if_neg (fltR_f hk)]⟩
/-- behind a fault nothing more is read -/
theorem c_peekF (h0 : gi M 17 6 ≠ 0) (h6 : gi M 18 6 = nI z) (h7 : z ≤ 700) (t : Int32) : ∃ w, fX5_peekNumber M t = okI M w := by
  have en : ∃ v, fX10_numberAt M (gi M 17 4) = okI M v := by
    unfold fX10_numberAt
    by_cases c : gi M 17 4 < 0
    · rw [if_pos c]; exact ⟨0, rfl⟩
    · rw [if_neg c, h6]
      rcases h_cases (gi M 17 4) z (by omega) with ⟨k, hk, e⟩ | e
      · rw [e, if_pos (nI_lt hk (by omega)), chk_in (by omega) (by decide)]; exact ⟨_, rfl⟩
      · rw [if_neg (le_nlt (e.resolve_left c))]; exact ⟨0, rfl⟩
  obtain ⟨v, ev⟩ := en
  unfold fX5_peekNumber fX5_isNumber fX5_isNumber_b16 fX5_peekNumber_b40
  rw [ev, bI_ok]
  refine ⟨v, ?_⟩
  by_cases c1 : gi M 17 5 = 1
  · rw [if_pos c1, bI_ok, if_neg n10, c_refF h0, bV_ok]
    split
    · rfl
    · split <;> rfl
  · rw [if_neg c1]
    by_cases c2 : gi M 17 5 = 2
    · rw [if_pos c2, bI_ok, if_neg n10, if_pos c2, c_refF h0, bV_ok]
    · rw [if_neg c2, bI_ok, if_pos rfl, c_refF h0, bV_ok]
theorem c_numF (h0 : gi M 17 6 ≠ 0) (h6 : gi M 18 6 = nI z) (h7 : z ≤ 700) (t : Int32) : ∃ w, fX5_readNumber M t = okI M w := by
  obtain ⟨w, e⟩ := c_peekF h0 h6 h7 t
  refine ⟨w, ?_⟩
  unfold fX5_readNumber
  rw [e, bI_ok, if_neg h0]
theorem r_nowF (h0 : gi M 87 23 ≠ 0) (a b : Int32) : fX12_numberNow M a b = okI M 0 := by
  unfold fX12_numberNow
  rw [if_neg h0]
theorem r_numF (h0 : gi M 87 23 ≠ 0) (a b : Int32) : fX12_readNumber M a b = okI M 0 := by
  unfold fX12_readNumber
  rw [r_nowF h0, bI_ok, if_neg h0]
end

-- ===== the reference steps on =====
section
variable {T : Nat → Nat} {n : Nat} {M : Mem}
def TxR (M : Mem) (T : Nat → Nat) (n : Nat) : Prop := gi M 87 18 = nI n ∧ ∀ k, k < n → gi M 101 k = nI (T k)
/-- only the token has changed -/
def KR (M M' : Mem) : Prop := Fr [87] M M' ∧ ∀ k, k ≠ 17 → k ≠ 19 → k ≠ 20 → k ≠ 21 → k ≠ 22 → gi M' 87 k = gi M 87 k
theorem KR.rf : KR M M := ⟨Fr.rf, fun _ _ _ _ _ _ => rfl⟩
theorem KR.tr {M' M'' : Mem} (h : KR M M') (h' : KR M' M'') : KR M M'' := ⟨h.1.tr h'.1, fun k a b c d e => (h'.2 k a b c d e).trans (h.2 k a b c d e)⟩
theorem KR.w {M' : Mem} (h : KR M M') {k : Nat} {v : Int32} (hk : k = 17 ∨ k = 19 ∨ k = 20 ∨ k = 21 ∨ k = 22) : KR M (si M' 87 k v) := ⟨h.1.wi (by decide), fun j a b c d e => by rw [gi_si_k (by omega)]; exact h.2 j a b c d e⟩
theorem TxR.k {M' : Mem} (h : TxR M T n) (hk : KR M M') : TxR M' T n := ⟨(hk.2 18 (by decide) (by decide) (by decide) (by decide) (by decide)).trans h.1, fun k q => (hk.1.i (by decide) k).trans (h.2 k q)⟩
def TkR (M : Mem) (T : Nat → Nat) (n s : Nat) : Prop := gi M 87 21 = nI s ∧ gi M 87 17 = nI (stop T n s) ∧ gi M 87 22 = nI (stop T n s) ∧ gi M 87 19 = nI (kdA T n s) ∧ (kdA T n s = 2 → stop T n s - s ≤ 4 → gi M 87 20 = nI (nmA T n s))
theorem r_byte (h : TxR M T n) (hn : n ≤ 700) {s : Nat} (hs : s ≤ n) : fX12_byteAt M (nI s) = okI M (if s < n then nI (T s) else -1) := by
  unfold fX12_byteAt
  rw [h.1]
  by_cases c : s < n
  · rw [if_pos (nI_lt c (by omega)), chk_in (by omega) (by decide), ix_nI (by omega), h.2 s c, if_pos c]
  · rw [if_neg (nI_nlt (by omega) (by omega)), if_neg c]
theorem r_letter {v : Nat} (hv : v < 256) : fX12_isLetter M (nI v) = okI M (if isL v = true then 1 else 0) := by
  have q := n_L v hv
  unfold fX12_isLetter
  by_cases c : isL v = true
  · rw [if_neg (q.1 c).1, if_neg (q.1 c).2, if_pos c]
  · rw [if_neg c]
    by_cases c2 : nI v < 97
    · rw [if_pos c2]
    · rw [if_neg c2, if_pos ((q.2 c).resolve_left c2)]
theorem r_digit {v : Nat} (hv : v < 256) : fX12_isDigit M (nI v) = okI M (if isD v = true then 1 else 0) := by
  have q := n_D v hv
  unfold fX12_isDigit
  by_cases c : isD v = true
  · rw [if_neg (q.1 c).1, if_neg (q.1 c).2, if_pos c]
  · rw [if_neg c]
    by_cases c2 : nI v < 48
    · rw [if_pos c2]
    · rw [if_neg c2, if_pos ((q.2 c).resolve_left c2)]
theorem r_letterx : fX12_isLetter M (-1) = okI M 0 := rfl
theorem r_digitx : fX12_isDigit M (-1) = okI M 0 := rfl
set_option maxRecDepth 10000 in
theorem n_sg : ∀ v, v < 256 → (if nI v = 59 then (1 : Int32) else if nI v = 40 then 1 else if nI v = 41 then 1 else if nI v = 43 then 1 else if nI v = 45 then 1 else if nI v = 42 then 1 else if nI v = 47 then 1 else if nI v = 60 then 1 else if nI v = 61 then 1 else 0) = if sgn v = 3 then 0 else 1 := by decide
theorem r_mk {v : Nat} (hv : v < 256) : fX12_isMark M (nI v) = okI M (if sgn v = 3 then 0 else 1) := by
  rw [← n_sg v hv]
  unfold fX12_isMark fX12_isMark_b54
  rw [← okI_ite, ← okI_ite, ← okI_ite, ← okI_ite, ← okI_ite, ← okI_ite, ← okI_ite, ← okI_ite, ← okI_ite]
theorem r_b212 : fX12_stepOn_b212 M = okV (si M 87 22 (gi M 87 17)) := rfl
theorem r_word (hn : n ≤ 700) (hT : ∀ k, k < n → T k < 256) : ∀ d k, n - k = d → k ≤ n → ∀ f, d < f → ∀ M, TxR M T n → gi M 87 17 = nI k → ∃ M', fX12_stepOn_b76 f M = okV M' ∧ KR M M' ∧ gi M' 87 21 = gi M 87 21 ∧ gi M' 87 17 = nI (run (fun k => isL (T k)) d k) ∧ gi M' 87 22 = nI (run (fun k => isL (T k)) d k) ∧ gi M' 87 19 = 1 := by
  intro d
  induction d with
  | zero =>
    intro k hd hk f hf M h h17
    obtain ⟨m, rfl⟩ : ∃ m, f = m + 1 := ⟨f - 1, by omega⟩
    rw [fX12_stepOn_b76]
    dsimp only
    rw [h17, r_byte h hn hk, bI_ok, if_neg (by omega), r_letterx, bI_ok, if_pos rfl, wr_eq, r_b212]
    unfold run
    refine ⟨_, rfl, (KR.rf.w (by decide)).w (by decide), ?_, ?_, ?_, ?_⟩
    · rw [gi_si_k (by decide), gi_si_k (by decide)]
    · rw [gi_si_k (by decide), gi_si_k (by decide)]; exact h17
    · rw [gi_si_s, gi_si_k (by decide)]; exact h17
    · rw [gi_si_k (by decide), gi_si_s]
  | succ d ih =>
    intro k hd hk f hf M h h17
    obtain ⟨m, rfl⟩ : ∃ m, f = m + 1 := ⟨f - 1, by omega⟩
    rw [fX12_stepOn_b76]
    dsimp only
    rw [h17, r_byte h hn hk, bI_ok, if_pos (show k < n by omega), r_letter (hT k (by omega)), bI_ok]
    unfold run
    by_cases c : isL (T k) = true
    · rw [if_pos c, if_neg n10, h17, wr_eq, nI_p1, if_pos c]
      have K1 : KR M (si M 87 17 (nI (k + 1))) := KR.rf.w (by decide)
      obtain ⟨M', e, K, a1, a2, a3, a4⟩ := ih (k + 1) (by omega) (by omega) m (by omega) (si M 87 17 (nI (k + 1))) (h.k K1) gi_si_s
      exact ⟨M', e, K1.tr K, a1.trans (gi_si_k (by decide)), a2, a3, a4⟩
    · rw [if_neg c, if_pos rfl, wr_eq, r_b212, if_neg c]
      refine ⟨_, rfl, (KR.rf.w (by decide)).w (by decide), ?_, ?_, ?_, ?_⟩
      · rw [gi_si_k (by decide), gi_si_k (by decide)]
      · rw [gi_si_k (by decide), gi_si_k (by decide)]; exact h17
      · rw [gi_si_s, gi_si_k (by decide)]; exact h17
      · rw [gi_si_k (by decide), gi_si_s]
theorem r_num (hn : n ≤ 700) (hT : ∀ k, k < n → T k < 256) {s : Nat} (hs : s ≤ n) : ∀ d c, n - (s + c) = d → s + c ≤ n → (∀ i, i < c → isD (T (s + i)) = true) → ∀ f, d < f → ∀ M, TxR M T n → gi M 87 17 = nI (s + c) → (c ≤ 4 → gi M 87 20 = nI (nmr T s c)) → ∃ M', fX12_stepOn_b123 f M = okV M' ∧ KR M M' ∧ gi M' 87 21 = gi M 87 21 ∧ gi M' 87 17 = nI (run (fun k => isD (T k)) d (s + c)) ∧ gi M' 87 22 = nI (run (fun k => isD (T k)) d (s + c)) ∧ gi M' 87 19 = 2 ∧ (run (fun k => isD (T k)) d (s + c) - s ≤ 4 → gi M' 87 20 = nI (nmr T s (run (fun k => isD (T k)) d (s + c) - s))) := by
  intro d
  induction d with
  | zero =>
    intro c hd hk _ f hf M h h17 h20
    obtain ⟨m, rfl⟩ : ∃ m, f = m + 1 := ⟨f - 1, by omega⟩
    rw [fX12_stepOn_b123]
    dsimp only
    rw [h17, r_byte h hn hk, bI_ok, if_neg (by omega), r_digitx, bI_ok, if_pos rfl, wr_eq, r_b212]
    unfold run
    refine ⟨_, rfl, (KR.rf.w (by decide)).w (by decide), ?_, ?_, ?_, ?_, fun h4 => ?_⟩
    · rw [gi_si_k (by decide), gi_si_k (by decide)]
    · rw [gi_si_k (by decide), gi_si_k (by decide)]; exact h17
    · rw [gi_si_s, gi_si_k (by decide)]; exact h17
    · rw [gi_si_k (by decide), gi_si_s]
    · rw [gi_si_k (by decide), gi_si_k (by decide), show s + c - s = c by omega]; exact h20 (by omega)
  | succ d ih =>
    intro c hd hk hall f hf M h h17 h20
    obtain ⟨m, rfl⟩ : ∃ m, f = m + 1 := ⟨f - 1, by omega⟩
    rw [fX12_stepOn_b123]
    dsimp only
    rw [h17, r_byte h hn hk, bI_ok, if_pos (show s + c < n by omega), r_digit (hT _ (by omega)), bI_ok]
    unfold run
    by_cases cd : isD (T (s + c)) = true
    · have hd48 := of_decide_eq_true cd
      rw [if_pos cd, if_neg n10, h17, r_byte h hn hk, bI_ok, if_pos (show s + c < n by omega), wr_eq, gi_si_k (show (17 : Nat) ≠ 20 by decide), h17, wr_eq, nI_p1, if_pos cd]
      obtain ⟨w, hw⟩ : ∃ w, w = (if ((10 * gi M 87 20) + nI (T (s + c))) - 48 < 100000 then ((10 * gi M 87 20) + nI (T (s + c))) - 48 else 100000) := ⟨_, rfl⟩
      rw [← hw]
      have K1 : KR M (si (si M 87 20 w) 87 17 (nI (s + c + 1))) := (KR.rf.w (by decide)).w (by decide)
      obtain ⟨M', e, K, a1, a2, a3, a4, a5⟩ := ih (c + 1) (by omega) (by omega) (fun i hi => by
        by_cases e : i = c
        · rw [e]; exact cd
        · exact hall i (by omega)) m (by omega) (si (si M 87 20 w) 87 17 (nI (s + c + 1))) (h.k K1) gi_si_s (fun h4 => by
          rw [gi_si_k (by decide), gi_si_s, hw, h20 (by omega), dg_step hd48.1]
          have hlt := nmr_lt (T := T) (s := s) c (by omega) hall
          have hp : 10 ^ c ≤ 10 ^ 3 := Nat.pow_le_pow_right (by decide) (by omega)
          have en : nmr T s (c + 1) = 10 * nmr T s c + T (s + c) - 48 := by
            show (if c < 4 then 10 * nmr T s c + T (s + c) - 48 else nmr T s c) = _
            rw [if_pos (by omega)]
          rw [if_pos (ltL 100000 (by omega) (by decide)), en])
      exact ⟨M', e, K1.tr K, by rw [a1, gi_si_k (by decide), gi_si_k (by decide)], a2, a3, a4, a5⟩
    · rw [if_neg cd, if_pos rfl, wr_eq, r_b212, if_neg cd]
      refine ⟨_, rfl, (KR.rf.w (by decide)).w (by decide), ?_, ?_, ?_, ?_, fun h4 => ?_⟩
      · rw [gi_si_k (by decide), gi_si_k (by decide)]
      · rw [gi_si_k (by decide), gi_si_k (by decide)]; exact h17
      · rw [gi_si_s, gi_si_k (by decide)]; exact h17
      · rw [gi_si_k (by decide), gi_si_s]
      · rw [gi_si_k (by decide), gi_si_k (by decide), show s + c - s = c by omega]; exact h20 (by omega)
theorem skp_st {s : Nat} (hs : s < n) : skp T n s = if isBl (T s) = true then skp T n (s + 1) else s := by
  unfold skp
  obtain ⟨d, hd⟩ : ∃ d, n - s = d + 1 := ⟨n - s - 1, by omega⟩
  rw [hd, show n - (s + 1) = d by omega]
  rfl
theorem r_step (hn : n ≤ 700) (hT : ∀ k, k < n → T k < 256) {a : Nat} (ha : a ≤ n) (h : TxR M T n) (h17 : gi M 87 17 = nI a) : ∃ M', fX12_stepOn M = okV M' ∧ KR M M' ∧ TkR M' T n (skp T n a) := by
  unfold fX12_stepOn
  have key : ∀ d a, n - a = d → a ≤ n → ∀ f, d < f → ∀ M, TxR M T n → gi M 87 17 = nI a → ∃ M', fX12_stepOn_b0 f M = okV M' ∧ KR M M' ∧ TkR M' T n (skp T n a) := by
    intro d
    induction d with
    | zero =>
      intro a hd ha f hf M h h17
      obtain ⟨m, rfl⟩ : ∃ m, f = m + 1 := ⟨f - 1, by omega⟩
      have ea : a = n := by omega
      rw [fX12_stepOn_b0]
      dsimp only
      have eb : ∀ M, TxR M T n → fX12_byteAt M (nI a) = okI M (-1) := fun M h => by rw [r_byte h hn ha, if_neg (by omega)]
      rw [h17, eb M h, bI_ok, if_neg (show ¬ (-1 : Int32) = 32 by decide), h17, eb M h, bI_ok, if_neg (show ¬ (-1 : Int32) = 10 by decide), h17, wr_eq]
      have K1 : KR M (si M 87 21 (nI a)) := KR.rf.w (by decide)
      rw [gi_si_k (show (17 : Nat) ≠ 21 by decide), h17, eb _ (h.k K1), bI_ok, if_pos rfl, wr_eq, r_b212]
      have es : skp T n a = a := by unfold skp; rw [hd]; rfl
      have eo : stop T n a = a := by unfold stop; rw [if_neg (by omega)]
      have ek : kdA T n a = 0 := by unfold kdA; rw [if_neg (by omega)]
      refine ⟨_, rfl, (K1.w (by decide)).w (by decide), ?_⟩
      rw [es]
      unfold TkR
      rw [eo, ek]
      refine ⟨?_, ?_, ?_, ?_, fun z => by cases z⟩
      · rw [gi_si_k (by decide), gi_si_k (by decide), gi_si_s]
      · rw [gi_si_k (by decide), gi_si_k (by decide), gi_si_k (by decide)]; exact h17
      · rw [gi_si_s, gi_si_k (by decide), gi_si_k (by decide)]; exact h17
      · rw [gi_si_k (by decide), gi_si_s]; rfl
    | succ d ih =>
      intro a hd ha f hf M h h17
      obtain ⟨m, rfl⟩ : ∃ m, f = m + 1 := ⟨f - 1, by omega⟩
      have hs : a < n := by omega
      have hv := hT a hs
      have q := n_B (T a) hv
      rw [fX12_stepOn_b0]
      dsimp only
      unfold fX12_stepOn_b26
      rw [h17, r_byte h hn ha, bI_ok, if_pos hs, h17, wr_eq, nI_p1, skp_st hs]
      have Kb : KR M (si M 87 17 (nI (a + 1))) := KR.rf.w (by decide)
      obtain ⟨Mb, eb, Kb2, tb⟩ := ih (a + 1) (by omega) (by omega) m (by omega) (si M 87 17 (nI (a + 1))) (h.k Kb) gi_si_s
      by_cases c1 : T a = 32
      · rw [if_pos (q.1.mpr c1), if_pos (show isBl (T a) = true from decide_eq_true (Or.inl c1))]
        exact ⟨Mb, eb, Kb.tr Kb2, tb⟩
      · rw [if_neg (fun z => c1 (q.1.mp z)), r_byte h hn ha, bI_ok, if_pos hs]
        by_cases c2 : T a = 10
        · rw [if_pos (q.2.mpr c2), if_pos (show isBl (T a) = true from decide_eq_true (Or.inr c2)), h17, wr_eq, nI_p1]
          exact ⟨Mb, eb, Kb.tr Kb2, tb⟩
        · rw [if_neg (fun z => c2 (q.2.mp z)), if_neg (show ¬ isBl (T a) = true from fun z => (of_decide_eq_true z).elim c1 c2), h17, wr_eq, gi_si_k (show (17 : Nat) ≠ 21 by decide), h17]
          have K1 : KR M (si M 87 21 (nI a)) := KR.rf.w (by decide)
          have h1 := h.k K1
          have g17 : gi (si M 87 21 (nI a)) 87 17 = nI a := (gi_si_k (by decide)).trans h17
          rw [r_byte h1 hn ha, bI_ok, if_pos hs, if_neg (nI_nem1 (by omega)), r_letter hv, bI_ok]
          unfold TkR
          by_cases cL : isL (T a) = true
          · have ek : kdA T n a = 1 := by unfold kdA; rw [if_pos hs, if_pos cL]
            rw [if_pos cL, if_neg n10, ek, stop_L hs cL]
            obtain ⟨M', e, K, b1, b2, b3, b4⟩ := r_word hn hT (n - a) a rfl ha FU (FU_gt (by omega)) _ h1 g17
            exact ⟨M', e, K1.tr K, b1.trans gi_si_s, b2, b3, b4, fun z => by cases z⟩
          · rw [if_neg cL, if_pos rfl, r_digit hv, bI_ok]
            by_cases cD : isD (T a) = true
            · have ek : kdA T n a = 2 := by unfold kdA; rw [if_pos hs, if_neg cL, if_pos cD]
              rw [if_pos cD, if_neg n10, ek, wr_eq, (sy_D hs cD).2, stop_D hs cD]
              have K2 := K1.w (k := 20) (v := 0) (by decide)
              obtain ⟨M', e, K, b1, b2, b3, b4, b5⟩ := r_num hn hT ha (n - a) 0 (by omega) (by omega) (fun i hi => by omega) FU (FU_gt (by omega)) _ (h.k K2) ((gi_si_k (by decide)).trans g17) (fun _ => gi_si_s)
              exact ⟨M', e, K2.tr K, b1.trans ((gi_si_k (by decide)).trans gi_si_s), b2, b3, b4, fun _ => b5⟩
            · have eo : stop T n a = a + 1 := by unfold stop; rw [if_pos hs, if_neg cL, if_neg cD]
              have ek : kdA T n a = if sgn (T a) = 3 then 4 else 3 := by unfold kdA; rw [if_pos hs, if_neg cL, if_neg cD]
              rw [if_neg cD, if_pos rfl, wr_eq, g17, nI_p1, r_mk hv, bI_ok, eo, ek]
              unfold fX12_stepOn_b209
              by_cases c3 : sgn (T a) = 3
              · rw [if_pos c3, if_pos rfl, if_pos c3, wr_eq, r_b212]
                refine ⟨_, rfl, ((K1.w (by decide)).w (by decide)).w (by decide), ?_, ?_, ?_, ?_, fun z => by cases z⟩
                · rw [gi_si_k (by decide), gi_si_k (by decide), gi_si_k (by decide), gi_si_s]
                · rw [gi_si_k (by decide), gi_si_k (by decide), gi_si_s]
                · rw [gi_si_s, gi_si_k (by decide), gi_si_s]
                · rw [gi_si_k (by decide), gi_si_s]; rfl
              · rw [if_neg c3, if_neg n10, if_neg c3, wr_eq, r_b212]
                refine ⟨_, rfl, ((K1.w (by decide)).w (by decide)).w (by decide), ?_, ?_, ?_, ?_, fun z => by cases z⟩
                · rw [gi_si_k (by decide), gi_si_k (by decide), gi_si_k (by decide), gi_si_s]
                · rw [gi_si_k (by decide), gi_si_k (by decide), gi_si_s]
                · rw [gi_si_s, gi_si_k (by decide), gi_si_s]
                · rw [gi_si_k (by decide), gi_si_s]; rfl
  exact key (n - a) a rfl ha FU (FU_gt (by omega)) M h h17
end

-- ===== the class cuts the text =====
section
variable {T : Nat → Nat} {n : Nat} {M : Mem}
def TxC (M : Mem) (T : Nat → Nat) (n : Nat) : Prop := gi M 18 4 = nI n ∧ ∀ k, k < n → gi M 2 k = byC (T k)
theorem TxC.w (h : TxC M T n) {a k : Nat} {v : Int32} (ha : a ≠ 2) (hk : a = 18 → k ≠ 4) : TxC (si M a k v) T n := by
  refine ⟨?_, fun j hj => ?_⟩
  · rw [gi_si, if_neg (fun z => hk z.1.symm z.2.symm)]; exact h.1
  · rw [gi_si_a (fun z => ha z.symm)]; exact h.2 j hj
theorem c_isL (h : TxC M T n) (hn : n ≤ 700) (hT : ∀ k, k < n → T k < 256) {s : Nat} (hs : s < n) : fX10_isLetter M (nI s) = okI M (if isL (T s) = true then 1 else 0) := by
  have q := by_L (T s) (hT s hs)
  unfold fX10_isLetter
  rw [h.1, if_pos (nI_lt hs (by omega)), chk_in (by omega) (by decide), chk_in (by omega) (by decide), ix_nI (by omega), h.2 s hs]
  by_cases c : isL (T s) = true
  · rw [if_neg (q.1 c).1, if_neg (q.1 c).2, if_pos c]
  · rw [if_neg c]
    by_cases c2 : byC (T s) < 97
    · rw [if_pos c2]
    · rw [if_neg c2, if_pos ((q.2 c).resolve_left c2)]
theorem c_isD (h : TxC M T n) (hn : n ≤ 700) (hT : ∀ k, k < n → T k < 256) {s : Nat} (hs : s < n) : fX10_isDigit M (nI s) = okI M (if isD (T s) = true then 1 else 0) := by
  have q := by_D (T s) (hT s hs)
  unfold fX10_isDigit
  rw [h.1, if_pos (nI_lt hs (by omega)), chk_in (by omega) (by decide), chk_in (by omega) (by decide), ix_nI (by omega), h.2 s hs]
  by_cases c : isD (T s) = true
  · rw [if_neg (q.1 c).1, if_neg (q.1 c).2, if_pos c]
  · rw [if_neg c]
    by_cases c2 : byC (T s) < 48
    · rw [if_pos c2]
    · rw [if_neg c2, if_pos ((q.2 c).resolve_left c2)]
theorem c_skip (hn : n ≤ 700) (hT : ∀ k, k < n → T k < 256) {s : Nat} (h : TxC M T n) (h5 : gi M 18 5 = nI s) (hs : s ≤ n) : fX10_skipBlanks M = okV (si M 18 5 (nI (skp T n s))) := by
  unfold fX10_skipBlanks skp
  have key : ∀ d s, n - s = d → s ≤ n → ∀ f, d < f → ∀ M, TxC M T n → gi M 18 5 = nI s → fX10_skipBlanks_b0 f M = okV (si M 18 5 (nI (run (fun k => isBl (T k)) d s))) := by
    intro d
    induction d with
    | zero =>
      intro s hd hs f hf M h h5
      obtain ⟨m, rfl⟩ : ∃ m, f = m + 1 := ⟨f - 1, by omega⟩
      rw [fX10_skipBlanks_b0]
      dsimp only
      rw [h5, h.1, if_neg (nI_nlt (by omega) (by omega))]
      unfold run
      rw [si_self M 18 5 _ h5]
    | succ d ih =>
      intro s hd hs f hf M h h5
      obtain ⟨m, rfl⟩ : ∃ m, f = m + 1 := ⟨f - 1, by omega⟩
      have q := by_B (T s) (hT s (by omega))
      rw [fX10_skipBlanks_b0]
      dsimp only
      unfold fX10_skipBlanks_b39
      rw [h5, h.1, if_pos (nI_lt (by omega) (by omega)), chk_in (by omega) (by decide), chk_in (by omega) (by decide), ix_nI (by omega), h.2 s (by omega), wr_eq, nI_p1]
      have ihk := ih (s + 1) (by omega) (by omega) m (by omega) (si M 18 5 (nI (s + 1))) (h.w (by decide) (fun _ => by decide)) gi_si_s
      rw [si_si] at ihk
      unfold run
      by_cases c1 : T s = 32
      · rw [if_pos (q.1.mpr c1), if_pos (show isBl (T s) = true from decide_eq_true (Or.inl c1))]
        exact ihk
      · rw [if_neg (fun z => c1 (q.1.mp z))]
        by_cases c2 : T s = 10
        · rw [if_pos (q.2.mpr c2), if_pos (show isBl (T s) = true from decide_eq_true (Or.inr c2))]
          exact ihk
        · rw [if_neg (fun z => c2 (q.2.mp z)), if_neg (show ¬ isBl (T s) = true from fun z => (of_decide_eq_true z).elim c1 c2), si_self M 18 5 _ h5]
  exact key (n - s) s rfl hs FU (FU_gt (by omega)) M h h5
theorem c_spell (h : TxC M T n) (hn : n ≤ 700) {s k : Nat} (hs : s < n) (hL : isL (T s) = true) (hk : k < 16) : fX10_spells k M (nI s) (nI (stop T n s)) = okI M (if wid T n s = some k then 1 else 0) := by
  obtain ⟨a1, a2, a3⟩ := stop_in (T := T) (n := n) (s := s) (by omega)
  have hall : ∀ i, s + i < stop T n s → isL (T (s + i)) = true := fun i hi => run_all (Q := fun k => isL (T k)) (n - s) s (s + i) (by omega) (by rw [← stop_L hs hL]; exact hi)
  have hlen : ∀ k, k < 16 → sLen.getD k 0 < 9 := by decide
  unfold fX10_spells
  rw [if_neg (nI_pos (by omega)), if_neg (ngtL 700 (by omega) (by decide)), pk_sub a1]
  by_cases c : stop T n s - s = sLen.getD k 0
  · rw [if_pos (by rw [c])]
    have key : ∀ d i, i + d = sLen.getD k 0 → ∀ f, d < f → fX10_spells_b28 k f M (nI s) (nI i) = okI M (if allF (fun i => decide (nI (T (s + i)) = sch k i)) d i = true then 1 else 0) := by
      intro d
      induction d with
      | zero =>
        intro i hi f hf
        obtain ⟨m, rfl⟩ : ∃ m, f = m + 1 := ⟨f - 1, by omega⟩
        rw [fX10_spells_b28]
        dsimp only
        rw [if_neg (nI_nlt (by omega) (by omega))]
        rfl
      | succ d ih =>
        intro i hi f hf
        obtain ⟨m, rfl⟩ : ∃ m, f = m + 1 := ⟨f - 1, by omega⟩
        have := hlen k hk
        have hb := h.2 (s + i) (by omega)
        rw [by_lo _ (L_lo (hall i (by omega)))] at hb
        rw [fX10_spells_b28]
        dsimp only
        rw [if_pos (nI_lt (by omega) (by omega)), nadd, chk_in (by omega) (by decide), chk_in (by omega) (by omega), ix_nI (by omega), ix_nI (by omega), hb, nI_p1]
        unfold allF
        by_cases e : nI (T (s + i)) = sch k i
        · rw [if_pos e, if_pos (decide_eq_true e)]
          exact ih (i + 1) (by omega) m (by omega)
        · rw [if_neg e, if_neg (show ¬ decide (nI (T (s + i)) = sch k i) = true from fun z => e (of_decide_eq_true z))]
          rfl
    have kk := key (sLen.getD k 0) 0 (by omega) FU (FU_gt (by have := hlen k hk; omega))
    have kk : fX10_spells_b28 k FU M (nI s) 0 = _ := kk
    rw [kk]
    by_cases w : wid T n s = some k
    · rw [if_pos w]
      have := (wid_is hk).mpr w
      unfold sameW at this
      rw [Bool.and_eq_true] at this
      rw [if_pos this.2]
    · rw [if_neg w]
      rw [if_neg (fun z => w ((wid_is hk).mp (by
        unfold sameW
        rw [Bool.and_eq_true]
        exact ⟨decide_eq_true c, z⟩)))]
  · have := hlen k hk
    rw [if_neg (c_lit (by omega) (by omega) c), if_neg (fun w => c (sameW_is.mp ((wid_is hk).mpr w)).1)]
theorem c_keyw (h : TxC M T n) (hn : n ≤ 700) {s : Nat} (hs : s < n) (hL : isL (T s) = true) : fX10_keywordOf M (nI s) (nI (stop T n s)) = okI M (match wid T n s with
    | none => 137
    | some k => if k < 7 then 137 else nI (121 + k)) := by
  have sp := fun k (hk : k < 16) => c_spell h hn hs hL hk
  unfold fX10_keywordOf
  rw [sp 7 (by decide), bI_ok, sp 8 (by decide), bI_ok, sp 9 (by decide), bI_ok, sp 10 (by decide), bI_ok, sp 11 (by decide), bI_ok, sp 12 (by decide), bI_ok, sp 13 (by decide), bI_ok, sp 14 (by decide), bI_ok, sp 15 (by decide), bI_ok]
  cases hw : wid T n s with
  | none => rfl
  | some k =>
    have hk := wid_lt hw
    match k, hk with
    | 0, _ => rfl
    | 1, _ => rfl
    | 2, _ => rfl
    | 3, _ => rfl
    | 4, _ => rfl
    | 5, _ => rfl
    | 6, _ => rfl
    | 7, _ => rfl
    | 8, _ => rfl
    | 9, _ => rfl
    | 10, _ => rfl
    | 11, _ => rfl
    | 12, _ => rfl
    | 13, _ => rfl
    | 14, _ => rfl
    | 15, _ => rfl
    | k + 16, hk => exact absurd hk (by omega)
theorem c_valw (h : TxC M T n) (hn : n ≤ 700) {s : Nat} (hs : s < n) (hL : isL (T s) = true) : fX10_valueOf M (nI s) (nI (stop T n s)) = okI M (match wid T n s with
    | none => 137
    | some k => if k < 7 then nI (140 + k) else 137) := by
  have sp := fun k (hk : k < 16) => c_spell h hn hs hL hk
  unfold fX10_valueOf
  rw [sp 0 (by decide), bI_ok, sp 1 (by decide), bI_ok, sp 2 (by decide), bI_ok, sp 3 (by decide), bI_ok, sp 4 (by decide), bI_ok, sp 5 (by decide), bI_ok, sp 6 (by decide), bI_ok]
  cases hw : wid T n s with
  | none => rfl
  | some k =>
    have hk := wid_lt hw
    match k, hk with
    | 0, _ => rfl
    | 1, _ => rfl
    | 2, _ => rfl
    | 3, _ => rfl
    | 4, _ => rfl
    | 5, _ => rfl
    | 6, _ => rfl
    | 7, _ => rfl
    | 8, _ => rfl
    | 9, _ => rfl
    | 10, _ => rfl
    | 11, _ => rfl
    | 12, _ => rfl
    | 13, _ => rfl
    | 14, _ => rfl
    | 15, _ => rfl
    | k + 16, hk => exact absurd hk (by omega)
theorem c_cutWord (h : TxC M T n) (hn : n ≤ 700) (hT : ∀ k, k < n → T k < 256) {s z : Nat} (hs : s < n) (hL : isL (T s) = true) (h5 : gi M 18 5 = nI s) (h6 : gi M 18 6 = nI z) (hz : z < 700) : fX10_cutWord M = okV (si (si M 18 5 (nI (stop T n s))) 19 z (nI (syA T n s))) := by
  unfold fX10_cutWord
  rw [h5]
  have fin : ∀ M, TxC M T n → gi M 18 5 = nI (stop T n s) → gi M 18 6 = nI z → fX10_cutWord_b40 M (nI s) = okV (si M 19 z (nI (syA T n s))) := by
    intro M h h5 h6
    unfold fX10_cutWord_b40 fX10_cutWord_b78
    have es : syA T n s = wcd (wid T n s) := by unfold syA; rw [if_pos hs, if_pos hL]
    rw [h5, c_keyw h hn hs hL, bI_ok, h5, c_valw h hn hs hL, bI_ok, h6, es, chk_in hz (by decide), chk_in hz (by decide), ix_nI (by omega), wr_eq, wr_eq]
    cases hw : wid T n s with
    | none => rfl
    | some k =>
      have hk := wid_lt hw
      by_cases c : k < 7
      · show (if (if k < 7 then (137 : Int32) else nI (121 + k)) = 137 then okV (si M 19 z (if k < 7 then nI (140 + k) else 137)) else okV (si M 19 z (if k < 7 then 137 else nI (121 + k)))) = okV (si M 19 z (nI (if k < 7 then 140 + k else 121 + k)))
        rw [if_pos c, if_pos rfl, if_pos c, if_pos c]
      · show (if (if k < 7 then (137 : Int32) else nI (121 + k)) = 137 then okV (si M 19 z (if k < 7 then nI (140 + k) else 137)) else okV (si M 19 z (if k < 7 then 137 else nI (121 + k)))) = okV (si M 19 z (nI (if k < 7 then 140 + k else 121 + k)))
        have e : ¬ nI (121 + k) = (137 : Int32) := c_lit (a := 121 + k) (b := 137) (by omega) (by decide) (by omega)
        rw [if_neg c, if_neg e, if_neg c]
  have key : ∀ d k, n - k = d → s ≤ k → k ≤ n → run (fun k => isL (T k)) d k = stop T n s → ∀ f, d < f → ∀ M, TxC M T n → gi M 18 5 = nI k → gi M 18 6 = nI z → fX10_cutWord_b5 f M (nI s) = okV (si (si M 18 5 (nI (stop T n s))) 19 z (nI (syA T n s))) := by
    intro d
    induction d with
    | zero =>
      intro k hd h1 h2 hr f hf M h h5 h6
      obtain ⟨m, rfl⟩ : ∃ m, f = m + 1 := ⟨f - 1, by omega⟩
      unfold run at hr
      rw [fX10_cutWord_b5]
      dsimp only
      rw [h5, h.1, if_neg (nI_nlt (by omega) (by omega)), fin M h (by rw [h5, hr]) h6, si_self M 18 5 _ (by rw [h5, hr])]
    | succ d ih =>
      intro k hd h1 h2 hr f hf M h h5 h6
      obtain ⟨m, rfl⟩ : ∃ m, f = m + 1 := ⟨f - 1, by omega⟩
      unfold run at hr
      rw [fX10_cutWord_b5]
      dsimp only
      rw [h5, h.1, if_pos (nI_lt (by omega) (by omega)), c_isL h hn hT (by omega), bI_ok]
      by_cases c : isL (T k) = true
      · rw [if_pos c] at hr
        rw [if_pos c, if_neg n10, h5, wr_eq, nI_p1]
        have ihk := ih (k + 1) (by omega) (by omega) (by omega) hr m (by omega) (si M 18 5 (nI (k + 1))) (h.w (by decide) (fun _ => by decide)) gi_si_s ((gi_si_k (by decide)).trans h6)
        rw [si_si] at ihk
        exact ihk
      · rw [if_neg c] at hr
        rw [if_neg c, if_pos rfl, fin M h (by rw [h5, hr]) h6, si_self M 18 5 _ (by rw [h5, hr])]
  exact key (n - s) s rfl (Nat.le_refl _) (by omega) (stop_L hs hL).symm FU (FU_gt (by omega)) M h h5 h6
end

-- ===== words and marks =====
theorem neL (c : Nat) {k : Nat} (h : k ≠ c) (hk : k < 2 ^ 31) (hc : c < 2 ^ 31) : ¬ nI k = (OfNat.ofNat c : Int32) := c_lit hk hc h
theorem eqL (c : Nat) {k : Nat} (h : k = c) : nI k = (OfNat.ofNat c : Int32) := by rw [h]; rfl
theorem sgn_is (v : Nat) : sgn v = 3 ∨ (sgn v = v ∧ 40 ≤ v ∧ v ≤ 61) := by
  unfold sgn
  split
  · exact Or.inr ⟨rfl, by omega, by omega⟩
  · exact Or.inl rfl
theorem wcd_in : ∀ k, k < 16 → 128 ≤ wcd (some k) ∧ wcd (some k) < 147 ∧ wcd (some k) ≠ 137 := by decide
theorem wcd_one : ∀ k, k < 16 → ∀ k', k' < 16 → wcd (some k) = wcd (some k') → k = k' := by decide
section
variable {T : Nat → Nat} {n : Nat} {M : Mem} {s : Nat}
theorem sy_L (hs : s < n) (h : isL (T s) = true) : syA T n s = wcd (wid T n s) ∧ 128 ≤ syA T n s ∧ syA T n s < 147 := by
  have e : syA T n s = wcd (wid T n s) := by unfold syA; rw [if_pos hs, if_pos h]
  refine ⟨e, ?_⟩
  rw [e]
  cases hw : wid T n s with
  | none => decide
  | some k => have := wcd_in k (wid_lt hw); omega
theorem sy_S (hs : s < n) (h : ¬ isL (T s) = true) (h2 : ¬ isD (T s) = true) : syA T n s = sgn (T s) := by unfold syA; rw [if_pos hs, if_neg h, if_neg h2]
theorem sy_kinds (T : Nat → Nat) (n s : Nat) : (kdA T n s = 0 ∧ syA T n s = 0 ∧ ¬ s < n) ∨ (kdA T n s = 1 ∧ 128 ≤ syA T n s ∧ syA T n s < 147 ∧ s < n ∧ isL (T s) = true) ∨ (kdA T n s = 2 ∧ (syA T n s = 1 ∧ stop T n s - s ≤ 4 ∨ syA T n s = 2 ∧ 4 < stop T n s - s) ∧ s < n) ∨ (kdA T n s = 3 ∧ syA T n s = T s ∧ 40 ≤ T s ∧ T s ≤ 61 ∧ s < n) ∨ (kdA T n s = 4 ∧ syA T n s = 3 ∧ s < n) := by
  by_cases hs : s < n
  · by_cases c : isL (T s) = true
    · have := sy_L hs c
      exact Or.inr (Or.inl ⟨by unfold kdA; rw [if_pos hs, if_pos c], this.2.1, this.2.2, hs, c⟩)
    · by_cases c2 : isD (T s) = true
      · refine Or.inr (Or.inr (Or.inl ⟨by unfold kdA; rw [if_pos hs, if_neg c, if_pos c2], ?_, hs⟩))
        rw [(sy_D hs c2).1]
        by_cases c4 : 4 < stop T n s - s
        · rw [if_pos c4]; exact Or.inr ⟨rfl, c4⟩
        · rw [if_neg c4]; exact Or.inl ⟨rfl, by omega⟩
      · have e := sy_S hs c c2
        have ek : kdA T n s = if sgn (T s) = 3 then 4 else 3 := by unfold kdA; rw [if_pos hs, if_neg c, if_neg c2]
        rcases sgn_is (T s) with g | ⟨g, g2, g3⟩
        · rw [if_pos g] at ek
          exact Or.inr (Or.inr (Or.inr (Or.inr ⟨ek, e.trans g, hs⟩)))
        · rw [if_neg (by omega)] at ek
          exact Or.inr (Or.inr (Or.inr (Or.inl ⟨ek, e.trans g, g2, g3, hs⟩)))
  · refine Or.inl ⟨?_, ?_, hs⟩
    · unfold kdA; rw [if_neg hs]
    · unfold syA; rw [if_neg hs]
theorem sy_word {k : Nat} (hk : k < 16) : syA T n s = wcd (some k) ↔ kdA T n s = 1 ∧ wid T n s = some k := by
  have hw := wcd_in k hk
  rcases sy_kinds T n s with ⟨a, b, _⟩ | ⟨a, b, b2, hs, hL⟩ | ⟨a, b, _⟩ | ⟨a, b, b2, b3, _⟩ | ⟨a, b, _⟩
  · exact ⟨fun z => by omega, fun z => by omega⟩
  · rw [(sy_L hs hL).1]
    constructor
    · intro z
      refine ⟨a, ?_⟩
      cases hv : wid T n s with
      | none => rw [hv] at z; exact absurd z.symm hw.2.2
      | some k' => rw [hv] at z; rw [wcd_one k' (wid_lt hv) k hk z]
    · intro z; rw [z.2]
  · exact ⟨fun z => by omega, fun z => by omega⟩
  · exact ⟨fun z => by omega, fun z => by omega⟩
  · exact ⟨fun z => by omega, fun z => by omega⟩
theorem sy_mark {c : Nat} (hc : sgn c = c) (h3 : 40 ≤ c ∧ c ≤ 61) : syA T n s = c ↔ kdA T n s = 3 ∧ T s = c := by
  rcases sy_kinds T n s with ⟨a, b, _⟩ | ⟨a, b, b2, hs, hL⟩ | ⟨a, b, _⟩ | ⟨a, b, b2, b3, _⟩ | ⟨a, b, _⟩
  · exact ⟨fun z => by omega, fun z => by omega⟩
  · exact ⟨fun z => by omega, fun z => by omega⟩
  · exact ⟨fun z => by omega, fun z => by omega⟩
  · exact ⟨fun z => ⟨a, by omega⟩, fun z => by omega⟩
  · exact ⟨fun z => by omega, fun z => by omega⟩
theorem sy_lt : syA T n s < 147 := by rcases sy_kinds T n s with ⟨a, b, _⟩ | ⟨a, b, b2, hs, hL⟩ | ⟨a, b, _⟩ | ⟨a, b, b2, b3, _⟩ | ⟨a, b, _⟩ <;> omega
theorem sLen9 : ∀ k, k < 16 → sLen.getD k 0 < 9 := by decide
theorem r_is0 {k : Nat} (hz : gi M 87 23 ≠ 0) : fX12_is k M = okI M 0 := by
  unfold fX12_is fX12_is_b35 fX12_is_b36
  rw [if_neg hz]
  rfl
theorem r_is39 {k : Nat} {f : Nat} {x : Int32} : fX12_is_b39 k (f + 1) M 0 x = okI M 0 := by
  rw [fX12_is_b39]
  dsimp only
  rw [if_pos rfl]
  rfl
theorem r_isw {k : Nat} (hk : k < 16) (hs : s ≤ n) (hn : n ≤ 700) (h : TxR M T n) (ht : TkR M T n s) (hz : gi M 87 23 = 0) : fX12_is k M = okI M (if syA T n s = wcd (some k) then 1 else 0) := by
  have hl := sLen9 k hk
  obtain ⟨t1, t2, t3, t4, _⟩ := ht
  obtain ⟨a1, a2, a3⟩ := stop_in (T := T) (n := n) (s := s) hs
  have no : fX12_is_b35 k M = okI M 0 := by unfold fX12_is_b35 fX12_is_b36; exact r_is39
  unfold fX12_is
  rw [if_pos hz, t4, t1, t3]
  by_cases ck : kdA T n s = 1
  · have e1 : nI (kdA T n s) = 1 := by rw [ck]; rfl
    rw [if_pos e1, pk_sub a1]
    by_cases cl : stop T n s - s = sLen.getD k 0
    · rw [if_pos (by rw [cl])]
      unfold fX12_is_b36
      have key : ∀ d i, i + d = sLen.getD k 0 → ∀ f, d + 1 < f → fX12_is_b39 k f M 1 (nI i) = okI M (if allF (fun i => decide (nI (T (s + i)) = sch k i)) d i = true then 1 else 0) := by
        intro d
        induction d with
        | zero =>
          intro i hi f hf
          obtain ⟨m, rfl⟩ : ∃ m, f = m + 1 := ⟨f - 1, by omega⟩
          rw [fX12_is_b39]
          dsimp only
          rw [if_neg n10, if_neg (nI_nlt (by omega) (by omega)), chk_tt (by decide)]
          rfl
        | succ d ih =>
          intro i hi f hf
          obtain ⟨m, rfl⟩ : ∃ m, f = m + 1 := ⟨f - 1, by omega⟩
          rw [fX12_is_b39]
          dsimp only
          unfold fX12_is_b75
          rw [if_neg n10, if_pos (nI_lt (by omega) (by omega)), t1, nadd, chk_in (by omega) (by omega), chk_in (by omega) (by decide), ix_nI (by omega), ix_nI (by omega), h.2 (s + i) (by omega), nI_p1]
          unfold allF
          by_cases e : nI (T (s + i)) = sch k i
          · rw [if_pos e.symm, if_pos (decide_eq_true e)]
            exact ih (i + 1) (by omega) m (by omega)
          · rw [if_neg (fun z => e z.symm), if_neg (show ¬ decide (nI (T (s + i)) = sch k i) = true from fun z => e (of_decide_eq_true z))]
            obtain ⟨m', rfl⟩ : ∃ m', m = m' + 1 := ⟨m - 1, by omega⟩
            exact r_is39
      have kk := key (sLen.getD k 0) 0 (by omega) FU (FU_gt (by omega))
      have kk : fX12_is_b39 k FU M 1 0 = _ := kk
      rw [kk]
      by_cases w : wid T n s = some k
      · rw [if_pos ((sy_word hk).mpr ⟨ck, w⟩)]
        have := (wid_is hk).mpr w
        unfold sameW at this
        rw [Bool.and_eq_true] at this
        rw [if_pos this.2]
      · rw [if_neg (fun z => w ((sy_word hk).mp z).2)]
        rw [if_neg (fun z => w ((wid_is hk).mp (by
          unfold sameW
          rw [Bool.and_eq_true]
          exact ⟨decide_eq_true cl, z⟩)))]
    · rw [if_neg (fun z => cl ((nI_eq (by omega) (by omega)).mp z).symm), no, if_neg (fun z => cl (sameW_is.mp ((wid_is hk).mpr ((sy_word hk).mp z).2)).1)]
  · have hkd : kdA T n s ≤ 4 := by rcases sy_kinds T n s with ⟨a, _⟩ | ⟨a, _⟩ | ⟨a, _⟩ | ⟨a, _⟩ | ⟨a, _⟩ <;> omega
    rw [if_neg (neL 1 ck (by omega) (by decide)), no, if_neg (fun z => ck ((sy_word hk).mp z).1)]
theorem r_mk0 {C : Int32} (hz : gi M 87 23 ≠ 0) : fX12_isMarked M C = okI M 0 := by
  unfold fX12_isMarked
  rw [if_neg hz]
theorem r_mkd {c : Nat} {C : Int32} (hC : C = nI c) (hc : sgn c = c ∧ 40 ≤ c ∧ c ≤ 61) (hn : n ≤ 700) (hT : ∀ k, k < n → T k < 256) (h : TxR M T n) (ht : TkR M T n s) (hz : gi M 87 23 = 0) : fX12_isMarked M C = okI M (if syA T n s = c then 1 else 0) := by
  obtain ⟨t1, t2, t3, t4, _⟩ := ht
  have iff := sy_mark (T := T) (n := n) (s := s) hc.1 hc.2
  unfold fX12_isMarked
  rw [if_pos hz, t4, t1]
  by_cases ck : kdA T n s = 3
  · have hs : s < n := by
      rcases sy_kinds T n s with ⟨a, _⟩ | ⟨a, _⟩ | ⟨a, _⟩ | ⟨a, b, _, _, hs⟩ | ⟨a, _⟩
      · omega
      · omega
      · omega
      · exact hs
      · omega
    have e3 : nI (kdA T n s) = 3 := by rw [ck]; rfl
    have := hT s hs
    rw [if_pos e3, chk_in (by omega) (by decide), ix_nI (by omega), h.2 s hs, hC]
    by_cases c2 : T s = c
    · rw [if_pos (by rw [c2]), if_pos (iff.mpr ⟨ck, c2⟩)]
    · rw [if_neg (c_lit (by omega) (by omega) c2), if_neg (fun z => c2 (iff.mp z).2)]
  · have hkd : kdA T n s ≤ 4 := by rcases sy_kinds T n s with ⟨a, _⟩ | ⟨a, _⟩ | ⟨a, _⟩ | ⟨a, _⟩ | ⟨a, _⟩ <;> omega
    rw [if_neg (neL 3 ck (by omega) (by decide)), if_neg (fun z => ck (iff.mp z).1)]
theorem r_which {a nv : Nat} (ha : a = 88 ∧ nv = 5 ∨ a = 89 ∧ nv = 7) (hs : s ≤ n) (hn : n ≤ 700) (h : TxR M T n) (ht : TkR M T n s) (hz : gi M 87 23 = 0) : fX12_which a M = okI M (if 140 ≤ syA T n s ∧ syA T n s < 140 + nv then nI (syA T n s - 140) else -1) := by
  have hv : (kd a).2 = nv := by rcases ha with ⟨rfl, rfl⟩ | ⟨rfl, rfl⟩ <;> rfl
  have hnv : nv ≤ 7 := by omega
  unfold fX12_which
  have key : ∀ d k, k + d = nv → ∀ f, d < f → fX12_which_b2 a f M (nI k) = okI M (if 140 + k ≤ syA T n s ∧ syA T n s < 140 + nv then nI (syA T n s - 140) else -1) := by
    intro d
    induction d with
    | zero =>
      intro k hk f hf
      obtain ⟨m, rfl⟩ : ∃ m, f = m + 1 := ⟨f - 1, by omega⟩
      rw [fX12_which_b2]
      dsimp only
      rw [hv, show Int32.ofNat nv = nI nv from rfl, if_neg (nI_nlt (by omega) (by omega)), if_neg (by omega)]
    | succ d ih =>
      intro k hk f hf
      obtain ⟨m, rfl⟩ : ∃ m, f = m + 1 := ⟨f - 1, by omega⟩
      have ihk := ih (k + 1) (by omega) m (by omega)
      rw [fX12_which_b2]
      dsimp only
      have ew : wcd (some k) = 140 + k := by
        show (if k < 7 then 140 + k else 121 + k) = _
        rw [if_pos (by omega)]
      rw [hv, show Int32.ofNat nv = nI nv from rfl, if_pos (nI_lt (by omega) (by omega)), chk_in (by omega) (by omega), ix_nI (by omega), r_isw (by omega) hs hn h ht hz, bI_ok, nI_p1, ew]
      by_cases c : syA T n s = 140 + k
      · rw [if_pos c, if_neg n10, if_pos ⟨by omega, by omega⟩, show syA T n s - 140 = k by omega]
      · rw [if_neg c, if_pos rfl, ihk]
        by_cases c2 : 140 + (k + 1) ≤ syA T n s ∧ syA T n s < 140 + nv
        · rw [if_pos c2, if_pos ⟨by omega, c2.2⟩]
        · rw [if_neg c2, if_neg (by omega)]
  exact key nv 0 (by omega) FU (FU_gt (by omega))
end

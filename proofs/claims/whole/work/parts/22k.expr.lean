-- ===== both sides read a rule: all of it =====
section
variable {T : Nat → Nat} {n z nv A wi sa : Nat} {C0 R0 : Mem} {M : Mem} {j k p : Nat} {L : List RSt}
theorem r_notF {rr : Mem → Int32 → RS} {x : Int32} (h0 : gi M 87 23 ≠ 0) : fX12_readNot rr M x = okV M := by
  obtain ⟨f, hf⟩ := FU_s
  unfold fX12_readNot
  rw [hf, fX12_readNot_b2]
  dsimp only
  unfold fX12_readNot_b93
  rw [r_is0 h0, bI_ok, if_pos rfl, r_sumF h0, bV_ok, r_mk0 h0, bI_ok, if_pos rfl, r_mk0 h0, bI_ok, if_pos rfl]
  exact r_ntF (q := 0) (by decide) h0 0 0 rfl FU (FU_gt (by decide))
theorem r_orF {rr : Mem → Int32 → RS} {x : Int32} (h0 : gi M 87 23 ≠ 0) : fX12_readExpression_b62 rr M x = okV M := by
  obtain ⟨f, hf⟩ := FU_s
  unfold fX12_readExpression_b62 fX12_readAnd
  rw [r_notF h0, bV_ok, hf, fX12_readAnd_b5]
  dsimp only
  rw [r_is0 h0, bI_ok, if_pos rfl, bV_ok, fX12_readExpression_b67]
  dsimp only
  rw [r_is0 h0, bI_ok, if_pos rfl]
theorem r_exF {r : Nat} {x : Int32} (hr : 1 ≤ r) (h0 : gi M 87 23 ≠ 0) : fX12_readExpression r M x = okV M := by
  obtain ⟨g, rfl⟩ : ∃ g, r = g + 1 := ⟨r - 1, by omega⟩
  rw [fX12_readExpression]
  unfold fX12_readExpressionF
  dsimp only
  rw [if_neg h0]
/-- nothing that begins an expression -/
def noB (y : Nat) : Prop := y ≠ 1 ∧ y ≠ 2 ∧ y < 128 ∧ y ≠ 40
theorem c_andx (X : Ctx T n z nv A wi sa C0 R0) {rc : Mem → Int32 → RS} {x : Int32} (h : ExC T n A C0 M j L) (hj : j ≤ z) (hL : L.length ≤ 700) (hb : noB (syA T n (ps T n j))) : ∃ M', bV (fX5_readAnd rc M x) (fun M1 => fX5_readExpr_b30 rc FU M1 x 0) = okV M' ∧ FxC T n z A C0 M' 1 (ps T n j) := by
  obtain ⟨b1, b2, b3, b4⟩ := hb
  obtain ⟨M', e1, f1⟩ := c_refE (k := 1) X h hj hL (by decide) (K := 1) rfl
  obtain ⟨f, hf⟩ := FU_s
  have f0 := f1.f
  have ep : fX5_readPart rc M x = okV M' := by
    unfold fX5_readPart
    rw [if_pos h.2.2.1.2.2, h.2.2.1.2.1, if_neg (neL 1 b1 (by omega) (by decide)), if_neg (neL 2 b2 (by omega) (by decide)), if_pos (ltL 128 b3 (by decide)), if_neg (neL 40 b4 (by omega) (by decide)), e1, bV_ok]
  have es : fX5_readTest rc M x = okV M' := by
    unfold fX5_readTest fX5_readSum fX5_readProduct
    rw [ep, bV_ok, hf, fX5_readProduct_b7]
    dsimp only
    rw [if_pos (show (0 : Int32) < 700 by decide), if_neg f0, bV_ok, fX5_readSum_b7]
    dsimp only
    rw [if_pos (show (0 : Int32) < 700 by decide), if_neg f0, bV_ok, if_neg f0]
  have en : fX5_readNot rc M x = okV M' := by
    unfold fX5_readNot
    rw [hf, fX5_readNot_b2]
    dsimp only
    unfold fX5_readNot_b28 fX5_readNot_b43
    rw [if_pos (show (0 : Int32) < 6 by decide), h.2.2.1.2.1, if_neg (neL 136 (by omega) (by omega) (by decide)), if_neg (neL 136 (by omega) (by omega) (by decide)), es, bV_ok, hf, fX5_readNot_b50]
    dsimp only
    rw [if_neg (show ¬ (0 : Int32) < 0 by decide)]
  refine ⟨M', ?_, f1⟩
  unfold fX5_readAnd
  rw [en, bV_ok, hf, fX5_readAnd_b7]
  dsimp only
  rw [if_pos (show (0 : Int32) < 700 by decide), if_neg f0, bV_ok, fX5_readExpr_b30]
  dsimp only
  rw [if_pos (show (0 : Int32) < 700 by decide), if_neg f0]
theorem expr_both (X : Ctx T n z nv A wi sa C0 R0) : ∀ r e, e ≤ 6 → 6 - e < r → ∀ Mc Mr j L, ExC T n A C0 Mc j L → ExR T n wi sa R0 Mr j L → j ≤ z → L.length ≤ j → Out T n z nv A wi sa C0 R0 (31 - 5 * e) j L (fX5_readExpr r Mc (nI e)) (fX12_readExpression r Mr (nI e)) := by
  have h7 := X.z7
  have hz := X.1.2.2.2
  intro r
  induction r with
  | zero => intro e _ h; omega
  | succ r ih =>
    intro e he hr Mc Mr j L hc hr2 hj hL
    obtain ⟨s, hs⟩ : ∃ s, s = ps T n j := ⟨_, rfl⟩
    have slt := sy_lt (T := T) (n := n) (s := s)
    have c5 : gi Mc 17 5 = nI (syA T n s) := by rw [hs]; exact hc.2.2.1.2.1
    have r19 : gi Mr 87 19 = nI (kdA T n s) := by rw [hs]; exact hr2.2.2.1.1.2.2.2.1
    have mk := r_mkE X hr2 (c := 40) (C := 40) rfl (by decide)
    rw [← hs] at mk
    rw [fX5_readExpr, fX12_readExpression]
    unfold fX5_readExprF fX12_readExpressionF fX12_readExpression_b33 fX12_readExpression_b38
    dsimp only
    rw [if_pos hr2.2.2.1.2, r19, mk, bI_ok]
    -- the reference's way
    have rmay : ¬ noB (syA T n s) → ∀ (a b : RS), (if nI (kdA T n s) = 2 then a else if nI (kdA T n s) = 1 then a else if (if syA T n s = 40 then (1 : Int32) else 0) = 0 then b else a) = a := by
      intro hb a b
      unfold noB at hb
      rcases sy_kinds T n s with ⟨a1, b1, _⟩ | ⟨a1, b1, _⟩ | ⟨a1, b1, _⟩ | ⟨a1, b1, b2, b3, _⟩ | ⟨a1, b1, _⟩
      · exact absurd ⟨by omega, by omega, by omega, by omega⟩ hb
      · rw [if_neg (neL 2 (by omega) (by omega) (by decide)), if_pos (eqL 1 a1)]
      · rw [if_pos (eqL 2 a1)]
      · rw [if_neg (neL 2 (by omega) (by omega) (by decide)), if_neg (neL 1 (by omega) (by omega) (by decide))]
        by_cases c : syA T n s = 40
        · rw [if_pos c, if_neg n10]
        · exact absurd ⟨by omega, by omega, by omega, c⟩ hb
      · exact absurd ⟨by omega, by omega, by omega, by omega⟩ hb
    have rno : noB (syA T n s) → ∀ (a b : RS), (if nI (kdA T n s) = 2 then a else if nI (kdA T n s) = 1 then a else if (if syA T n s = 40 then (1 : Int32) else 0) = 0 then b else a) = b := by
      intro hb a b
      obtain ⟨q1, q2, q3, q4⟩ := hb
      have hk : kdA T n s ≠ 2 ∧ kdA T n s ≠ 1 ∧ kdA T n s < 9 := by
        rcases sy_kinds T n s with ⟨a1, b1, _⟩ | ⟨a1, b1, _⟩ | ⟨a1, b1, _⟩ | ⟨a1, b1, b2, b3, _⟩ | ⟨a1, b1, _⟩ <;> omega
      rw [if_neg (neL 2 hk.1 (by omega) (by decide)), if_neg (neL 1 hk.2.1 (by omega) (by decide)), if_neg q4, if_pos rfl]
    by_cases hb : noB (syA T n s)
    · -- nothing begins here
      obtain ⟨Mr1, e2, f2⟩ := r_wrE (k := 1) X hr2 (K := 1) rfl
      have f0 := f2.f (by decide)
      rw [rno hb, if_pos rfl, e2, bV_ok, r_orF f0]
      by_cases c6 : e < 6
      · obtain ⟨Mc1, e1, f1⟩ := c_andx X (rc := fX5_readExpr r) (x := nI e) hc hj (by omega) (by rw [← hs]; exact hb)
        rw [if_pos (ltL 6 c6 (by decide))]
        exact Or.inr ⟨Mc1, Mr1, 1, _, e1, rfl, f1, f2⟩
      · obtain ⟨Mc1, e1, f1⟩ := c_refE (k := 1) X hc hj (by omega) (by decide) (K := 1) rfl
        obtain ⟨q1, q2, q3, q4⟩ := hb
        have em : fX5_mayBeginExpr Mc = okI Mc 0 := by
          unfold fX5_mayBeginExpr fX5_isNumber
          rw [c5, if_neg (neL 1 q1 (by omega) (by decide)), if_neg (neL 2 q2 (by omega) (by decide)), bI_ok, if_pos rfl, c5, if_pos (ltL 128 q3 (by decide)), if_neg (neL 40 q4 (by omega) (by decide))]
        unfold fX5_readExpr_b19
        rw [if_neg (nltL 6 (by omega) (by omega)), em, bI_ok, if_pos rfl, e1, bV_ok]
        exact Or.inr ⟨Mc1, Mr1, 1, _, rfl, rfl, f1, f2⟩
    · rw [rmay hb, if_neg n10]
      by_cases c6 : e < 6
      · rw [if_neg (neL 6 (show e ≠ 6 by omega) (by omega) (by decide)), if_pos (ltL 6 c6 (by decide))]
        have HE : Rec T n z nv A wi sa C0 R0 (31 - 5 * (e + 1)) e (fX5_readExpr r) (fX12_readExpression r) := ⟨fun Mc Mr j L a b c d => ih (e + 1) (by omega) (by omega) Mc Mr j L a b c d, fun M x h0 => r_exF (by omega) h0⟩
        have := or_both X c6 (show 1 ≤ 31 - 5 * (e + 1) by omega) HE hc hr2 hj hL
        rw [show 31 - 5 * (e + 1) + 1 + 1 + 1 + 1 + 1 = 31 - 5 * e by omega] at this
        exact this
      · obtain ⟨Mr1, e2, f2⟩ := r_wrE (k := 2) X hr2 (K := 2) rfl
        have f0 := f2.f (by decide)
        obtain ⟨Mc1, e1, f1⟩ := c_refE (k := 2) X hc hj (by omega) (by decide) (K := 2) rfl
        have em : fX5_mayBeginExpr Mc = okI Mc 1 := by
          unfold fX5_mayBeginExpr fX5_isNumber fX5_mayBeginExpr_b26 fX5_isNumber_b16
          rw [c5]
          by_cases q1 : syA T n s = 1
          · rw [if_pos (eqL 1 q1), bI_ok, if_neg n10]
          · rw [if_neg (neL 1 q1 (by omega) (by decide))]
            by_cases q2 : syA T n s = 2
            · rw [if_pos (eqL 2 q2), bI_ok, if_neg n10]
            · rw [if_neg (neL 2 q2 (by omega) (by decide)), bI_ok, if_pos rfl, c5]
              by_cases q3 : syA T n s < 128
              · rw [if_pos (ltL 128 q3 (by decide))]
                by_cases q4 : syA T n s = 40
                · rw [if_pos (eqL 40 q4)]
                · exact absurd ⟨q1, q2, q3, q4⟩ hb
              · rw [if_neg (nltL 128 (by omega) (by omega))]
        unfold fX5_readExpr_b19
        rw [if_pos (eqL 6 (show e = 6 by omega)), e2, bV_ok, r_orF f0, if_neg (nltL 6 (by omega) (by omega)), em, bI_ok, if_neg n10, e1, bV_ok]
        exact Or.inr ⟨Mc1, Mr1, 2, _, rfl, rfl, f1, f2⟩
end

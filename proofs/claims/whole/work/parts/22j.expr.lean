-- ===== both sides read a rule: tests, nots, expressions =====
section
variable {T : Nat → Nat} {n z nv A wi sa : Nat} {C0 R0 : Mem} {M : Mem} {j k p : Nat} {L : List RSt}
section
variable {e m : Nat} {rc rr : Mem → Int32 → RS} {Mc Mr : Mem} {x : Int32}
theorem c_prodF (h0 : gi M 17 6 ≠ 0) : fX5_readProduct rc M x = okV M := by
  obtain ⟨f, hf⟩ := FU_s
  unfold fX5_readProduct
  rw [c_partF h0, bV_ok, hf, fX5_readProduct_b7]
  dsimp only
  rw [if_neg h0]
  split <;> rfl
theorem c_sumF (h0 : gi M 17 6 ≠ 0) : fX5_readSum rc M x = okV M := by
  obtain ⟨f, hf⟩ := FU_s
  unfold fX5_readSum
  rw [c_prodF h0, bV_ok, hf, fX5_readSum_b7]
  dsimp only
  rw [if_neg h0]
  split <;> rfl
theorem c_testF (h0 : gi M 17 6 ≠ 0) : fX5_readTest rc M x = okV M := by
  unfold fX5_readTest
  rw [c_sumF h0, bV_ok, if_neg h0]
theorem r_prodF (h0 : gi M 87 23 ≠ 0) : fX12_readProduct rr M x = okV M := by
  obtain ⟨f, hf⟩ := FU_s
  unfold fX12_readProduct
  rw [r_partF h0, bV_ok, hf, fX12_readProduct_b5]
  dsimp only
  rw [r_mk0 h0, bI_ok, if_pos rfl, r_mk0 h0, bI_ok, if_pos rfl]
theorem r_sumF (h0 : gi M 87 23 ≠ 0) : fX12_readSum rr M x = okV M := by
  obtain ⟨f, hf⟩ := FU_s
  unfold fX12_readSum
  rw [r_prodF h0, bV_ok, hf, fX12_readSum_b5]
  dsimp only
  rw [r_mk0 h0, bI_ok, if_pos rfl, r_mk0 h0, bI_ok, if_pos rfl]
theorem c_ntF (X : Ctx T n z nv A wi sa C0 R0) {q : Nat} (hq : q < 1000) : ∀ d i, i + d = q → ∀ f, d < f → ∀ M, FxC T n z A C0 M k p → ∃ M', fX5_readNot_b50 rc f M (nI q) (nI i) = okV M' ∧ FxC T n z A C0 M' k p := by
  intro d
  induction d with
  | zero =>
    intro i hi f hf M h
    obtain ⟨g, rfl⟩ : ∃ g, f = g + 1 := ⟨f - 1, by omega⟩
    refine ⟨M, ?_, h⟩
    rw [fX5_readNot_b50]
    dsimp only
    rw [if_neg (nI_nlt (by omega) (by omega))]
  | succ d ih =>
    intro i hi f hf M h
    obtain ⟨g, rfl⟩ : ∃ g, f = g + 1 := ⟨f - 1, by omega⟩
    obtain ⟨M1, e1, h1⟩ := c_addF X h (-3)
    rw [fX5_readNot_b50]
    dsimp only
    rw [if_pos (nI_lt (by omega) (by omega)), h.ru X, e1, bV_ok, nI_p1]
    exact ih (i + 1) (by omega) g (by omega) M1 h1
theorem r_ntF {q : Nat} (hq : q < 1000) (h0 : gi M 87 23 ≠ 0) : ∀ d i, i + d = q → ∀ f, d < f → fX12_readNot_b95 rr f M (nI q) (nI i) = okV M := by
  intro d
  induction d with
  | zero =>
    intro i hi f hf
    obtain ⟨g, rfl⟩ : ∃ g, f = g + 1 := ⟨f - 1, by omega⟩
    rw [fX12_readNot_b95]
    dsimp only
    rw [if_neg (nI_nlt (by omega) (by omega))]
  | succ d ih =>
    intro i hi f hf
    obtain ⟨g, rfl⟩ : ∃ g, f = g + 1 := ⟨f - 1, by omega⟩
    rw [fX12_readNot_b95]
    dsimp only
    rw [if_pos (nI_lt (by omega) (by omega)), r_layF h0, bV_ok, nI_p1]
    exact ih (i + 1) (by omega) g (by omega)
/-- q nots are laid -/
theorem nt_both (X : Ctx T n z nv A wi sa C0 R0) {q j3 : Nat} (hq : q < 1000) (hL : L.length ≤ j) (h3 : j < j3) (h4 : j3 ≤ z) : ∀ d i, i + d = q → ∀ f f', d < f → d < f' → ∀ Mc Mr S, ExC T n A C0 Mc j3 (L ++ S) → ExR T n wi sa R0 Mr j3 (L ++ S) → S.length + d + j ≤ j3 → Gd nv m S → Out T n z nv A wi sa C0 R0 m j L (fX5_readNot_b50 rc f Mc (nI q) (nI i)) (fX12_readNot_b95 rr f' Mr (nI q) (nI i)) := by
  have h7 := X.z7
  intro d
  induction d with
  | zero =>
    intro i hi f f' hf hf' Mc Mr S hc hr hS hG
    obtain ⟨g, rfl⟩ : ∃ g, f = g + 1 := ⟨f - 1, by omega⟩
    obtain ⟨g', rfl⟩ : ∃ g, f' = g + 1 := ⟨f' - 1, by omega⟩
    refine Or.inl ⟨Mc, Mr, j3, S, ?_, ?_, hc, hr, h3, h4, by omega, hG⟩
    · rw [fX5_readNot_b50]
      dsimp only
      rw [if_neg (nI_nlt (by omega) (by omega))]
    · rw [fX12_readNot_b95]
      dsimp only
      rw [if_neg (nI_nlt (by omega) (by omega))]
  | succ d ih =>
    intro i hi f f' hf hf' Mc Mr S hc hr hS hG
    obtain ⟨g, rfl⟩ : ∃ g, f = g + 1 := ⟨f - 1, by omega⟩
    obtain ⟨g', rfl⟩ : ∃ g, f' = g + 1 := ⟨f' - 1, by omega⟩
    have hlen : (L ++ S).length = L.length + S.length := List.length_append
    obtain ⟨Mc1, e1, x1⟩ := c_addE (c := (2, 2)) X hc (by omega) (v := -3) rfl
    obtain ⟨Mr1, e2, x2⟩ := r_layE (c := (2, 2)) X hr (by omega) (v := -28) rfl
    rw [List.append_assoc] at x1 x2
    rw [fX5_readNot_b50, fX12_readNot_b95]
    dsimp only
    rw [if_pos (nI_lt (by omega) (by omega)), hc.ru X, e1, bV_ok, nI_p1, if_pos (nI_lt (by omega) (by omega)), e2, bV_ok]
    have hl2 : (S ++ [((2, 2) : RSt)]).length = S.length + 1 := by rw [List.length_append]; rfl
    exact ih (i + 1) (by omega) g g' (by omega) (by omega) Mc1 Mr1 _ x1 x2 (by omega) hG.nt
/-- behind the nots -/
theorem test_both (X : Ctx T n z nv A wi sa C0 R0) {q : Nat} (hq : q ≤ 6) (he : e < 6) (hm : 1 ≤ m) (HE : Rec T n z nv A wi sa C0 R0 m e rc rr) (hc : ExC T n A C0 Mc (j + q) L) (hr : ExR T n wi sa R0 Mr (j + q) L) (hj : j + q ≤ z) (hL : L.length ≤ j) :
    Out T n z nv A wi sa C0 R0 (m + 1 + 1 + 1) j L (fX5_readNot_b43 rc Mc (nI e) (nI q)) (bV (fX12_readSum rr Mr (nI e)) (fun M3 => bI (fX12_isMarked M3 60) (fun M5 v6 => if v6 = 0 then bI (fX12_isMarked M5 61) (fun M7 v8 => if v8 = 0 then fX12_readNot_b93 rr M7 (nI q) else fX12_readNot_b62 rr M7 (nI e) (nI q)) else fX12_readNot_b62 rr M5 (nI e) (nI q)))) := by
  have h7 := X.z7
  have hz := X.1.2.2.2
  unfold fX5_readNot_b43 fX5_readTest fX12_readNot_b93
  have hFU : q < FU := FU_gt (by omega)
  rcases sum_both X he hm HE hc hr hj (by omega) with ⟨Mc2, Mr2, j', S, e3, e4, x3, x4, q1, q2, q3, q4⟩ | ⟨Mc2, Mr2, k, p, e3, e4, f1, f2⟩
  · have hlen : (L ++ S).length = L.length + S.length := List.length_append
    have slt := sy_lt (T := T) (n := n) (s := ps T n j')
    rw [e3, bV_ok, e4, bV_ok, if_pos x3.2.2.1.2.2, x3.2.2.1.2.1, r_mkE X x4 (c := 60) (C := 60) rfl (by decide), bI_ok]
    have two : ∀ (o : Nat) (vc vr : Int32), vc = encC (2, o) → vr = encR (2, o) → o ≤ 8 → o ≠ 2 → syA T n (ps T n j') ≠ 0 → Out T n z nv A wi sa C0 R0 (m + 1 + 1 + 1) j L (bV (fX5_readTest_b46 rc Mc2 (nI e) vc) (fun M5 => fX5_readNot_b50 rc FU M5 (nI q) 0)) (fX12_readNot_b78 rr Mr2 (nI e) (nI q) vr) := by
      intro o vc vr hvc hvr ho1 ho2 hne
      have hj1 := j_lt hz q2 hne
      obtain ⟨Mc3, e5, x5⟩ := c_advE X x3 hj1
      obtain ⟨Mr3, e6, x6⟩ := r_advE X x4
      unfold fX5_readTest_b46 fX12_readNot_b78 fX12_readNot_b93
      rw [e5, bV_ok, e6, bV_ok]
      rcases sum_both X he hm HE x5 x6 (by omega) (by omega) with ⟨Mc4, Mr4, j4, B, e7, e8, x7, x8, p1, p2, p3, p4⟩ | ⟨Mc4, Mr4, k, p, e7, e8, f1, f2⟩
      · have hlen2 : (L ++ S ++ B).length = L.length + S.length + B.length := by rw [List.length_append, hlen]
        obtain ⟨Mc5, e9, x9⟩ := c_addE (c := (2, o)) X x7 (by omega) hvc
        obtain ⟨Mr5, e10, x10⟩ := r_layE (c := (2, o)) X x8 (by omega) hvr
        have ea : L ++ S ++ B ++ [(2, o)] = L ++ (S ++ B ++ [(2, o)]) := by rw [List.append_assoc, List.append_assoc, List.append_assoc]
        rw [ea] at x9 x10
        have hl3 : (S ++ B ++ [(2, o)]).length = S.length + B.length + 1 := by rw [List.length_append, List.length_append]; rfl
        rw [e7, bV_ok, x7.ru X, e9, bV_ok, bV_ok, e8, bV_ok, e10, bV_ok]
        exact nt_both X (by omega) hL (by omega) p2 q 0 (by omega) FU FU hFU hFU Mc5 Mr5 _ x9 x10 (by omega) (Gd.op (q4.mono (by omega)) p4 ho1 ho2)
      · obtain ⟨Mc5, e9, f3⟩ := c_addF X f1 vc
        have f0 := f2.f f1.2.1.2.2
        obtain ⟨Mc6, e10, f4⟩ := c_ntF (rc := rc) X (q := q) (by omega) q 0 (by omega) FU hFU Mc5 f3
        rw [e7, bV_ok, f1.ru X, e9, bV_ok, bV_ok, e8, bV_ok, r_layF f0, bV_ok]
        exact Or.inr ⟨Mc6, Mr4, k, p, e10, r_ntF (by omega) f0 q 0 (by omega) FU hFU, f4, f2⟩
    unfold fX5_readTest_b30 fX12_readNot_b62
    by_cases c : syA T n (ps T n j') = 60
    · rw [if_pos (eqL 60 c), if_pos c, if_neg n10, r_mkE X x4 (c := 60) (C := 60) rfl (by decide), bI_ok, if_pos c, if_neg n10, x3.2.2.1.2.1, if_pos (eqL 60 c)]
      exact two 3 (-4) (-24) rfl rfl (by decide) (by decide) (by omega)
    · rw [if_neg (neL 60 c (by omega) (by decide)), if_neg c, if_pos rfl, r_mkE X x4 (c := 61) (C := 61) rfl (by decide), bI_ok]
      by_cases c2 : syA T n (ps T n j') = 61
      · rw [if_pos (eqL 61 c2), if_pos c2, if_neg n10, r_mkE X x4 (c := 60) (C := 60) rfl (by decide), bI_ok, if_neg c, if_pos rfl, x3.2.2.1.2.1, if_neg (neL 60 c (by omega) (by decide))]
        exact two 4 (-5) (-25) rfl rfl (by decide) (by decide) (by omega)
      · rw [if_neg (neL 61 c2 (by omega) (by decide)), if_neg c2, if_pos rfl, bV_ok]
        exact nt_both X (by omega) hL (by omega) q2 q 0 (by omega) FU FU hFU hFU Mc2 Mr2 S x3 x4 (by omega) (q4.mono (by omega))
  · have f0 := f2.f f1.2.1.2.2
    obtain ⟨Mc6, e10, f4⟩ := c_ntF (rc := rc) X (q := q) (by omega) q 0 (by omega) FU hFU Mc2 f1
    rw [e3, bV_ok, if_neg f1.f, bV_ok, e4, bV_ok, r_mk0 f0, bI_ok, if_pos rfl, r_mk0 f0, bI_ok, if_pos rfl]
    exact Or.inr ⟨Mc6, Mr2, k, p, e10, r_ntF (by omega) f0 q 0 (by omega) FU hFU, f4, f2⟩
theorem not_both (X : Ctx T n z nv A wi sa C0 R0) (he : e < 6) (hm : 1 ≤ m) (HE : Rec T n z nv A wi sa C0 R0 m e rc rr) (hc : ExC T n A C0 Mc j L) (hr : ExR T n wi sa R0 Mr j L) (hj : j ≤ z) (hL : L.length ≤ j) :
    Out T n z nv A wi sa C0 R0 (m + 1 + 1 + 1) j L (fX5_readNot rc Mc (nI e)) (fX12_readNot rr Mr (nI e)) := by
  have h7 := X.z7
  have hz := X.1.2.2.2
  unfold fX5_readNot fX12_readNot
  have key : ∀ d q, q + d = 6 → ∀ f f', d + 1 < f → d + 1 < f' → ∀ Mc Mr, ExC T n A C0 Mc (j + q) L → ExR T n wi sa R0 Mr (j + q) L → j + q ≤ z → Out T n z nv A wi sa C0 R0 (m + 1 + 1 + 1) j L (fX5_readNot_b2 rc f Mc (nI e) (nI q)) (fX12_readNot_b2 rr f' Mr (nI e) (nI q)) := by
    intro d
    induction d with
    | zero =>
      intro q hq f f' hf hf' Mc Mr hc hr hj
      obtain ⟨g, rfl⟩ : ∃ g, f = g + 1 := ⟨f - 1, by omega⟩
      obtain ⟨g', rfl⟩ : ∃ g, f' = g + 1 := ⟨f' - 1, by omega⟩
      have slt := sy_lt (T := T) (n := n) (s := ps T n (j + q))
      rw [fX5_readNot_b2, fX12_readNot_b2]
      dsimp only
      unfold fX5_readNot_b28 fX12_readNot_b22
      have ew : wcd (some 15) = 136 := rfl
      rw [if_neg (nltL 6 (by omega) (by omega)), hc.2.2.1.2.1, r_isE X hr (k := 15) (by decide), bI_ok, ew]
      by_cases c : syA T n (ps T n (j + q)) = 136
      · obtain ⟨Mc1, e1, f1⟩ := c_refE (k := 2) X hc hj (by omega) (by decide) (K := 2) rfl
        obtain ⟨Mr1, e2, f2⟩ := r_wrE (k := 2) X hr (K := 2) rfl
        have f0 := f2.f (by decide)
        have hFU : q < FU := FU_gt (by omega)
        obtain ⟨Mc6, e10, f4⟩ := c_ntF (rc := rc) X (q := q) (by omega) q 0 (by omega) FU hFU Mc1 f1
        obtain ⟨g2, rfl⟩ : ∃ g2, g' = g2 + 1 := ⟨g' - 1, by omega⟩
        rw [if_pos (eqL 136 c), e1, bV_ok, if_pos c, if_neg n10, if_pos (eqL 6 (show q = 6 by omega)), e2, bV_ok, if_neg f0, nI_p1]
        refine Or.inr ⟨Mc6, Mr1, 2, _, ?_, ?_, f4, f2⟩
        · unfold fX5_readNot_b43
          rw [c_testF f1.f, bV_ok]
          exact e10
        · rw [fX12_readNot_b2]
          dsimp only
          unfold fX12_readNot_b93
          rw [r_is0 f0, bI_ok, if_pos rfl, r_sumF f0, bV_ok, r_mk0 f0, bI_ok, if_pos rfl, r_mk0 f0, bI_ok, if_pos rfl]
          exact r_ntF (by omega) f0 (q + 1) 0 (by omega) FU (FU_gt (by omega))
      · rw [if_neg (neL 136 c (by omega) (by decide)), if_neg c, if_pos rfl]
        exact test_both X (by omega) he hm HE hc hr hj hL
    | succ d ih =>
      intro q hq f f' hf hf' Mc Mr hc hr hj
      obtain ⟨g, rfl⟩ : ∃ g, f = g + 1 := ⟨f - 1, by omega⟩
      obtain ⟨g', rfl⟩ : ∃ g, f' = g + 1 := ⟨f' - 1, by omega⟩
      have slt := sy_lt (T := T) (n := n) (s := ps T n (j + q))
      rw [fX5_readNot_b2, fX12_readNot_b2]
      dsimp only
      unfold fX5_readNot_b28 fX12_readNot_b22
      have ew : wcd (some 15) = 136 := rfl
      rw [if_pos (ltL 6 (by omega) (by decide)), hc.2.2.1.2.1, r_isE X hr (k := 15) (by decide), bI_ok, ew]
      by_cases c : syA T n (ps T n (j + q)) = 136
      · have hj1 := j_lt hz hj (by omega)
        obtain ⟨Mc1, e1, x1⟩ := c_advE X hc hj1
        obtain ⟨Mr1, e2, x2⟩ := r_advE X hr
        rw [if_pos (eqL 136 c), e1, bV_ok, if_pos c, if_neg n10, if_neg (neL 6 (show q ≠ 6 by omega) (by omega) (by decide)), if_pos hr.2.2.1.2, e2, bV_ok, nI_p1]
        exact ih (q + 1) (by omega) g g' (by omega) (by omega) Mc1 Mr1 x1 x2 (by omega)
      · rw [if_neg (neL 136 c (by omega) (by decide)), if_neg (neL 136 c (by omega) (by decide)), if_neg c, if_pos rfl]
        exact test_both X (by omega) he hm HE hc hr hj hL
  exact key 6 0 (by omega) FU FU (FU_gt (by omega)) (FU_gt (by omega)) Mc Mr hc hr hj
theorem and_both (X : Ctx T n z nv A wi sa C0 R0) (he : e < 6) (hm : 1 ≤ m) (HE : Rec T n z nv A wi sa C0 R0 m e rc rr) (hc : ExC T n A C0 Mc j L) (hr : ExR T n wi sa R0 Mr j L) (hj : j ≤ z) (hL : L.length ≤ j) :
    Out T n z nv A wi sa C0 R0 (m + 1 + 1 + 1 + 1) j L (fX5_readAnd rc Mc (nI e)) (fX12_readAnd rr Mr (nI e)) := by
  refine bin_both X (m := m + 1 + 1 + 1) (isop := fun y => y = 135) (o := fun _ => 1) (cop := fun M => fX5_readNot rc M (nI e)) (rop := fun M => fX12_readNot rr M (nI e)) (F := fun f M i => fX5_readAnd_b7 rc f M (nI e) (nI i)) (G := fun f M => fX12_readAnd_b5 rr f M (nI e)) ?_ (fun Mc Mr j L a b c d => not_both X he hm HE a b c d) ?_ ?_ ?_ ?_ ?_ ?_ hc hr hj hL
  · intro y hy
    exact ⟨by omega, by decide, by decide⟩
  · intro f M i j L h hi hy
    rw [fX5_readAnd_b7]
    dsimp only
    rw [if_pos (ltL 700 hi (by decide)), if_pos h.2.2.1.2.2, h.2.2.1.2.1, nI_p1, if_pos (eqL 135 hy)]
    rfl
  · intro f M i j L h hy
    have := sy_lt (T := T) (n := n) (s := ps T n j)
    rw [fX5_readAnd_b7]
    dsimp only
    rw [if_pos h.2.2.1.2.2, h.2.2.1.2.1, if_neg (neL 135 hy (by omega) (by decide))]
    split <;> rfl
  · intro f M i h0
    rw [fX5_readAnd_b7]
    dsimp only
    rw [if_neg h0]
    split <;> rfl
  · intro f M j L h hy
    have ew : wcd (some 14) = 135 := rfl
    rw [fX12_readAnd_b5]
    dsimp only
    rw [r_isE X h (k := 14) (by decide), bI_ok, ew, if_pos hy, if_neg n10]
    rfl
  · intro f M j L h hy
    have ew : wcd (some 14) = 135 := rfl
    rw [fX12_readAnd_b5]
    dsimp only
    rw [r_isE X h (k := 14) (by decide), bI_ok, ew, if_neg hy, if_pos rfl]
  · intro f M h0
    rw [fX12_readAnd_b5]
    dsimp only
    rw [r_is0 h0, bI_ok, if_pos rfl]
theorem or_both (X : Ctx T n z nv A wi sa C0 R0) (he : e < 6) (hm : 1 ≤ m) (HE : Rec T n z nv A wi sa C0 R0 m e rc rr) (hc : ExC T n A C0 Mc j L) (hr : ExR T n wi sa R0 Mr j L) (hj : j ≤ z) (hL : L.length ≤ j) :
    Out T n z nv A wi sa C0 R0 (m + 1 + 1 + 1 + 1 + 1) j L (bV (fX5_readAnd rc Mc (nI e)) (fun M1 => fX5_readExpr_b30 rc FU M1 (nI e) 0)) (fX12_readExpression_b62 rr Mr (nI e)) := by
  refine bin_both X (m := m + 1 + 1 + 1 + 1) (isop := fun y => y = 134) (o := fun _ => 0) (cop := fun M => fX5_readAnd rc M (nI e)) (rop := fun M => fX12_readAnd rr M (nI e)) (F := fun f M i => fX5_readExpr_b30 rc f M (nI e) (nI i)) (G := fun f M => fX12_readExpression_b67 rr f M (nI e)) ?_ (fun Mc Mr j L a b c d => and_both X he hm HE a b c d) ?_ ?_ ?_ ?_ ?_ ?_ hc hr hj hL
  · intro y hy
    exact ⟨by omega, by decide, by decide⟩
  · intro f M i j L h hi hy
    rw [fX5_readExpr_b30]
    dsimp only
    rw [if_pos (ltL 700 hi (by decide)), if_pos h.2.2.1.2.2, h.2.2.1.2.1, nI_p1, if_pos (eqL 134 hy)]
    rfl
  · intro f M i j L h hy
    have := sy_lt (T := T) (n := n) (s := ps T n j)
    rw [fX5_readExpr_b30]
    dsimp only
    rw [if_pos h.2.2.1.2.2, h.2.2.1.2.1, if_neg (neL 134 hy (by omega) (by decide))]
    split <;> rfl
  · intro f M i h0
    rw [fX5_readExpr_b30]
    dsimp only
    rw [if_neg h0]
    split <;> rfl
  · intro f M j L h hy
    have ew : wcd (some 13) = 134 := rfl
    rw [fX12_readExpression_b67]
    dsimp only
    rw [r_isE X h (k := 13) (by decide), bI_ok, ew, if_pos hy, if_neg n10]
    rfl
  · intro f M j L h hy
    have ew : wcd (some 13) = 134 := rfl
    rw [fX12_readExpression_b67]
    dsimp only
    rw [r_isE X h (k := 13) (by decide), bI_ok, ew, if_neg hy, if_pos rfl]
  · intro f M h0
    rw [fX12_readExpression_b67]
    dsimp only
    rw [r_is0 h0, bI_ok, if_pos rfl]
end
end

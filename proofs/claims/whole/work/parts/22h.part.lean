-- ===== both sides read a rule: signs, parts =====
section
variable {T : Nat → Nat} {n z nv A wi sa : Nat} {C0 R0 : Mem} {M : Mem} {j k p : Nat} {L : List RSt}
theorem Ctx.z7 (X : Ctx T n z nv A wi sa C0 R0) : z ≤ 700 := by have := X.1.1; have := X.1.2.2.1; omega
theorem c_sgnY (X : Ctx T n z nv A wi sa C0 R0) (h : ExC T n A C0 M j L) (hj : j ≤ z) {c : Nat} {C : Int32} (hC : C = nI c) (hc : c ≠ 0) (hs : syA T n (ps T n j) = c) : ∃ M', fX5_readSign M C = okV M' ∧ ExC T n A C0 M' (j + 1) L := by
  obtain ⟨M', e, h'⟩ := c_advE X h (j_lt X.1.2.2.2 hj (by omega))
  refine ⟨M', ?_, h'⟩
  unfold fX5_readSign fX5_readSign_b13
  rw [h.2.2.1.2.1, hC, if_pos (by rw [hs]), if_pos h.2.2.1.2.2, e, bV_ok]
theorem c_sgnN (X : Ctx T n z nv A wi sa C0 R0) (h : ExC T n A C0 M j L) (hj : j ≤ z) (hL : L.length ≤ 700) {c : Nat} {C : Int32} (hC : C = nI c) (hc : c < 1000) (hs : syA T n (ps T n j) ≠ c) : ∃ M', fX5_readSign M C = okV M' ∧ FxC T n z A C0 M' 1 (ps T n j) := by
  obtain ⟨M', e, h'⟩ := c_refE (k := 1) X h hj hL (by decide) (K := 1) rfl
  refine ⟨M', ?_, h'⟩
  have := sy_lt (T := T) (n := n) (s := ps T n j)
  unfold fX5_readSign fX5_readSign_b13
  rw [h.2.2.1.2.1, hC, if_neg (c_lit (by omega) (by omega) hs), e, bV_ok, if_neg h'.f]
theorem c_sgnF (h0 : gi M 17 6 ≠ 0) (C : Int32) : fX5_readSign M C = okV M := by
  unfold fX5_readSign fX5_readSign_b13
  rw [c_refF h0, bV_ok, if_neg h0]
  split <;> rfl
theorem r_mkY (X : Ctx T n z nv A wi sa C0 R0) (h : ExR T n wi sa R0 M j L) {c : Nat} {C : Int32} (hC : C = nI c) (hc : sgn c = c ∧ 40 ≤ c ∧ c ≤ 61) (hs : syA T n (ps T n j) = c) : ∃ M', fX12_mark M C = okV M' ∧ ExR T n wi sa R0 M' (j + 1) L := by
  obtain ⟨M', e, h'⟩ := r_advE X h
  refine ⟨M', ?_, h'⟩
  unfold fX12_mark fX12_mark_b20
  rw [if_pos h.2.2.1.2, r_mkd hC hc X.1.1 X.1.2.1 (h.tx X) h.2.2.1.1 h.2.2.1.2, bI_ok, if_pos hs, if_neg n10, if_pos h.2.2.1.2, e, bV_ok]
theorem r_mkN (X : Ctx T n z nv A wi sa C0 R0) (h : ExR T n wi sa R0 M j L) {c : Nat} {C : Int32} (hC : C = nI c) (hc : sgn c = c ∧ 40 ≤ c ∧ c ≤ 61) (hs : syA T n (ps T n j) ≠ c) : ∃ M', fX12_mark M C = okV M' ∧ FxR wi sa R0 M' 1 (ps T n j) := by
  obtain ⟨M', e, h'⟩ := r_wrE (k := 1) X h (K := 1) rfl
  refine ⟨M', ?_, h'⟩
  unfold fX12_mark fX12_mark_b20
  rw [if_pos h.2.2.1.2, r_mkd hC hc X.1.1 X.1.2.1 (h.tx X) h.2.2.1.1 h.2.2.1.2, bI_ok, if_neg hs, if_pos rfl, e, bV_ok, if_neg (h'.f (by decide))]
theorem r_mkF (h0 : gi M 87 23 ≠ 0) (C : Int32) : fX12_mark M C = okV M := by
  unfold fX12_mark fX12_mark_b20
  rw [if_neg h0, if_neg h0]
theorem c_partF {rc : Mem → Int32 → RS} {x : Int32} (h0 : gi M 17 6 ≠ 0) : fX5_readPart rc M x = okV M := by
  unfold fX5_readPart
  rw [if_neg h0]
theorem r_partF {rr : Mem → Int32 → RS} {x : Int32} (h0 : gi M 87 23 ≠ 0) : fX12_readPart rr M x = okV M := by
  unfold fX12_readPart
  rw [if_neg h0]
theorem part_both (X : Ctx T n z nv A wi sa C0 R0) {e m : Nat} (he : e < 6) (hm : 1 ≤ m) {rc rr : Mem → Int32 → RS}
    (HE : ∀ Mc Mr j L, ExC T n A C0 Mc j L → ExR T n wi sa R0 Mr j L → j ≤ z → L.length ≤ j → Out T n z nv A wi sa C0 R0 m j L (rc Mc (nI (e + 1))) (rr Mr (nI (e + 1))))
    (HF : ∀ M x, gi M 87 23 ≠ 0 → rr M x = okV M) {Mc Mr : Mem} (hc : ExC T n A C0 Mc j L) (hr : ExR T n wi sa R0 Mr j L) (hj : j ≤ z) (hL : L.length ≤ j) :
    Out T n z nv A wi sa C0 R0 m j L (fX5_readPart rc Mc (nI e)) (fX12_readPart rr Mr (nI e)) := by
  have h7 := X.z7
  have hz := X.1.2.2.2
  have hn := X.1.1
  obtain ⟨s, hs⟩ : ∃ s, s = ps T n j := ⟨_, rfl⟩
  have slt := sy_lt (T := T) (n := n) (s := s)
  have c5 : gi Mc 17 5 = nI (syA T n s) := by rw [hs]; exact hc.2.2.1.2.1
  have r19 : gi Mr 87 19 = nI (kdA T n s) := by rw [hs]; exact hr.2.2.1.1.2.2.2.1
  have bad : syA T n s ≠ 1 → syA T n s ≠ 2 → syA T n s < 128 → syA T n s ≠ 40 → kdA T n s ≠ 2 → kdA T n s ≠ 1 → kdA T n s < 9 → Out T n z nv A wi sa C0 R0 m j L (fX5_readPart rc Mc (nI e)) (fX12_readPart rr Mr (nI e)) := by
    intro b1 b2 b3 b4 b5 b6 b7
    obtain ⟨Mc', e1, f1⟩ := c_refE (k := 1) X hc hj (by omega) (by decide) (K := 1) rfl
    obtain ⟨Mr', e2, f2⟩ := r_mkN X hr (c := 40) (C := 40) rfl (by decide) (by rw [← hs]; exact b4)
    refine Or.inr ⟨Mc', Mr', 1, ps T n j, ?_, ?_, f1, f2⟩
    · unfold fX5_readPart
      rw [if_pos hc.2.2.1.2.2, c5, if_neg (neL 1 b1 (by omega) (by decide)), if_neg (neL 2 b2 (by omega) (by decide)), if_pos (ltL 128 b3 (by decide)), if_neg (neL 40 b4 (by omega) (by decide)), e1, bV_ok]
    · have f0 := f2.f (by decide)
      unfold fX12_readPart
      rw [if_pos hr.2.2.1.2, r19, if_neg (neL 2 b5 (by omega) (by decide)), if_neg (neL 1 b6 (by omega) (by decide)), e2, bV_ok, HF _ _ f0, bV_ok, r_mkF f0, bV_ok]
  rcases sy_kinds T n s with ⟨a, b, _⟩ | ⟨a, b, b2, hsn, hw⟩ | ⟨a, b, hsn⟩ | ⟨a, b, b2, b3, hsn⟩ | ⟨a, b, _⟩
  · exact bad (by omega) (by omega) (by omega) (by omega) (by omega) (by omega) (by omega)
  · -- a word
    have hj1 : j < z := j_lt hz hj (by rw [← hs]; omega)
    have hwh := r_which (a := vaA (gb Mr 5)) (nv := nv) (s := s) (M := Mr) (T := T) (n := n) (by rw [hr.1.1.b]; exact X.2.2.2.1) (by omega) hn (hr.tx X) (by rw [hs]; exact hr.2.2.1.1) hr.2.2.1.2
    have cpre : fX5_readPart rc Mc (nI e) = bV (fX5_readValue Mc (nI (syA T n s) - 140)) (fun M9 => some (M9, .inr none)) := by
      unfold fX5_readPart
      rw [if_pos hc.2.2.1.2.2, c5, if_neg (neL 1 (by omega) (by omega) (by decide)), if_neg (neL 2 (by omega) (by omega) (by decide)), if_neg (nltL 128 (by omega) (by omega))]
    have rpre : fX12_readPart rr Mr (nI e) = bI (fX12_which (vaA (gb Mr 5)) Mr) (fun M7 v8 => if v8 = (-1) then bV (fX12_wrong M7 3) (fun M9 => fX12_readPart_b56 rr M9 v8) else fX12_readPart_b56 rr M7 v8) := by
      unfold fX12_readPart
      rw [if_pos hr.2.2.1.2, r19, if_neg (neL 2 (by omega) (by omega) (by decide)), if_pos (eqL 1 a)]
    have hnv : nv ≤ 7 := by rcases X.2.2.2.1 with ⟨_, q⟩ | ⟨_, q⟩ <;> omega
    rw [cpre, rpre, hwh, bI_ok]
    by_cases cv : 140 ≤ syA T n s ∧ syA T n s < 140 + nv
    · obtain ⟨v, hv⟩ : ∃ v, v = syA T n s - 140 := ⟨_, rfl⟩
      have hvn : v < nv := by omega
      have ev : nI (syA T n s) - 140 = nI v := by rw [hv]; exact pk_sub (show 140 ≤ syA T n s from cv.1)
      obtain ⟨Mc1, e1, x1⟩ := c_addE (c := (1, v)) X hc (by omega) (v := -10 - nI v) rfl
      obtain ⟨Mc2, e2, x2⟩ := c_advE X x1 hj1
      obtain ⟨Mr1, e3, x3⟩ := r_layE (c := (1, v)) X hr (by omega) (v := -1 - nI v) rfl
      obtain ⟨Mr2, e4, x4⟩ := r_advE X x3
      refine Or.inl ⟨Mc2, Mr2, j + 1, [(1, v)], ?_, ?_, x2, x4, by omega, by omega, by show 1 + j ≤ j + 1; omega, (Gd.val hvn).mono hm⟩
      · unfold fX5_readValue
        have g3 : gi Mc 17 3 = nI nv := (hc.2.1 3 (by decide) (by decide)).trans X.2.1.2.2.2.1
        rw [ev, if_neg (nI_pos (by omega)), g3, if_pos (nI_lt hvn (by omega)), hc.ru X, e1, bV_ok, e2, bV_ok, bV_ok]
      · unfold fX12_readPart_b56
        rw [if_pos cv, ← hv, if_neg (nI_nem1 (by omega)), e3, bV_ok, if_pos x3.2.2.1.2, e4, bV_ok]
    · obtain ⟨Mc', e1, f1⟩ := c_refE (k := 3) X hc hj (by omega) (by decide) (K := 3) rfl
      obtain ⟨Mr', e2, f2⟩ := r_wrE (k := 3) X hr (K := 3) rfl
      refine Or.inr ⟨Mc', Mr', 3, ps T n j, ?_, ?_, f1, f2⟩
      · unfold fX5_readValue fX5_readValue_b12
        by_cases c0 : 140 ≤ syA T n s
        · have g3 : gi Mc 17 3 = nI nv := (hc.2.1 3 (by decide) (by decide)).trans X.2.1.2.2.2.1
          rw [show nI (syA T n s) - 140 = nI (syA T n s - 140) from pk_sub (show 140 ≤ syA T n s from c0), if_neg (nI_pos (by omega)), g3, if_neg (nI_nlt (by omega) (by omega)), e1, bV_ok, bV_ok]
        · have := pk_sneg (a := syA T n s) (b := 140) (by omega) (by omega)
          have : nI (syA T n s) - 140 < 0 := this
          rw [if_pos this, e1, bV_ok, bV_ok]
      · have f0 := f2.f (by decide)
        unfold fX12_readPart_b56
        rw [if_neg cv, if_pos rfl, e2, bV_ok, r_layF f0, bV_ok, if_neg f0]
  · -- a number
    have hj1 : j < z := j_lt hz hj (by rw [← hs]; omega)
    obtain ⟨t4, t6, tk⟩ := X.tk hc.1
    obtain ⟨a1, a2, a3, a4, a5⟩ := hr.2.2.1.1
    rw [← hs] at a1 a2 a3 a4 a5
    obtain ⟨o1, o2, o3⟩ := stop_in (T := T) (n := n) (s := s) (by omega)
    have hlt := nmA_le (T := T) (n := n) s
    have rpre : fX12_readPart rr Mr (nI e) = bI (fX12_readNumber Mr 0 9999) (fun M11 v12 => bV (fX12_lay M11 v12) (fun M13 => some (M13, .inr none))) := by
      unfold fX12_readPart
      rw [if_pos hr.2.2.1.2, r19, if_pos (eqL 2 a)]
    rw [rpre]
    rcases b with ⟨b, b4⟩ | ⟨b, b4⟩
    · obtain ⟨Mc1, e1, x1⟩ := c_addE (c := (0, nmA T n s)) X hc (by omega) (v := nI (nmA T n s)) rfl
      obtain ⟨Mc2, e2, x2⟩ := c_advE X x1 hj1
      obtain ⟨Mr1, e3, x3⟩ := r_advE X hr
      obtain ⟨Mr2, e4, x4⟩ := r_layE (c := (0, nmA T n s)) X x3 (by omega) (v := nI (nmA T n s)) rfl
      refine Or.inl ⟨Mc2, Mr2, j + 1, [(0, nmA T n s)], ?_, ?_, x2, x4, by omega, by omega, by show 1 + j ≤ j + 1; omega, (Gd.num (by omega)).mono hm⟩
      · unfold fX5_readPart
        rw [if_pos hc.2.2.1.2.2, c5, if_pos (eqL 1 b), hc.2.2.1.1, c_nmAt t6 tk hz h7 hj, ← hs, bI_ok, hc.ru X, e1, bV_ok, e2, bV_ok]
      · unfold fX12_readNumber fX12_numberNow fX12_numberNow_b54 fX12_numberNow_b59
        rw [if_pos hr.2.2.1.2, r19, if_pos (eqL 2 a), a1, a3, pk_sub o1, if_neg (ngtL 4 b4 (by decide)), a5 a b4, if_neg (nI_pos (by omega)), if_neg (ngtL 9999 (by omega) (by decide)), if_pos hr.2.2.1.2, bI_ok, if_pos hr.2.2.1.2, e3, bV_ok, bI_ok, e4, bV_ok]
    · obtain ⟨Mc', e1, f1⟩ := c_refE (k := 2) X hc hj (by omega) (by decide) (K := 2) rfl
      obtain ⟨Mr', e2, f2⟩ := r_wrE (k := 2) X hr (K := 2) rfl
      have f0 := f2.f (by decide)
      refine Or.inr ⟨Mc', Mr', 2, ps T n j, ?_, ?_, f1, f2⟩
      · unfold fX5_readPart
        rw [if_pos hc.2.2.1.2.2, c5, if_neg (neL 1 (by omega) (by omega) (by decide)), if_pos (eqL 2 b), e1, bV_ok]
      · unfold fX12_readNumber fX12_numberNow fX12_numberNow_b54 fX12_numberNow_b59
        rw [if_pos hr.2.2.1.2, r19, if_pos (eqL 2 a), a1, a3, pk_sub o1, if_pos (gtL 4 b4 (by omega)), e2, bV_ok, if_neg f0, bI_ok, if_neg f0, bI_ok, r_layF f0, bV_ok]
  · -- a sign
    by_cases c40 : syA T n s = 40
    · have hj1 : j < z := j_lt hz hj (by rw [← hs]; omega)
      obtain ⟨Mc1, e1, x1⟩ := c_advE X hc hj1
      obtain ⟨Mr1, e2, x2⟩ := r_mkY X hr (c := 40) (C := 40) rfl (by decide) (by rw [← hs]; exact c40)
      have cpre : fX5_readPart rc Mc (nI e) = bV (rc Mc1 (nI (e + 1))) (fun M5 => bV (fX5_readSign M5 41) (fun M7 => some (M7, .inr none))) := by
        unfold fX5_readPart
        rw [if_pos hc.2.2.1.2.2, c5, if_neg (neL 1 (by omega) (by omega) (by decide)), if_neg (neL 2 (by omega) (by omega) (by decide)), if_pos (ltL 128 (by omega) (by decide)), if_pos (eqL 40 c40), e1, bV_ok, nI_p1]
      have rpre : fX12_readPart rr Mr (nI e) = bV (rr Mr1 (nI (e + 1))) (fun M3 => bV (fX12_mark M3 41) (fun M5 => some (M5, .inr none))) := by
        unfold fX12_readPart
        rw [if_pos hr.2.2.1.2, r19, if_neg (neL 2 (by omega) (by omega) (by decide)), if_neg (neL 1 (by omega) (by omega) (by decide)), e2, bV_ok, nI_p1]
      rw [cpre, rpre]
      rcases HE Mc1 Mr1 (j + 1) L x1 x2 (by omega) (by omega) with ⟨Mc2, Mr2, j', S, e3, e4, x3, x4, q1, q2, q3, q4⟩ | ⟨Mc2, Mr2, k, p, e3, e4, f1, f2⟩
      · have hlen : (L ++ S).length = L.length + S.length := List.length_append
        by_cases c41 : syA T n (ps T n j') = 41
        · obtain ⟨Mc3, e5, x5⟩ := c_sgnY X x3 q2 (c := 41) (C := 41) rfl (by decide) c41
          obtain ⟨Mr3, e6, x6⟩ := r_mkY X x4 (c := 41) (C := 41) rfl (by decide) c41
          have hj2 : j' < z := j_lt hz q2 (by omega)
          exact Or.inl ⟨Mc3, Mr3, j' + 1, S, by rw [e3, bV_ok, e5, bV_ok], by rw [e4, bV_ok, e6, bV_ok], x5, x6, by omega, by omega, by omega, q4⟩
        · obtain ⟨Mc3, e5, x5⟩ := c_sgnN X x3 q2 (by omega) (c := 41) (C := 41) rfl (by decide) c41
          obtain ⟨Mr3, e6, x6⟩ := r_mkN X x4 (c := 41) (C := 41) rfl (by decide) c41
          exact Or.inr ⟨Mc3, Mr3, 1, ps T n j', by rw [e3, bV_ok, e5, bV_ok], by rw [e4, bV_ok, e6, bV_ok], x5, x6⟩
      · exact Or.inr ⟨Mc2, Mr2, k, p, by rw [e3, bV_ok, c_sgnF f1.f, bV_ok], by rw [e4, bV_ok, r_mkF (f2.f f1.2.1.2.2), bV_ok], f1, f2⟩
    · exact bad (by omega) (by omega) (by omega) c40 (by omega) (by omega) (by omega)
  · exact bad (by omega) (by omega) (by omega) (by omega) (by omega) (by omega) (by omega)
end

-- ===== island: both sides =====
section
variable {M : Mem} {X : WX}
/-- the reference's memory, once a text is read, beside the draft -/
def rcR (M M' : Mem) : Prop := (∀ a, a ≠ 87 → (a < 90 ∨ 99 < a) → ∀ k, gi M' a k = gi M a k) ∧ (∀ a, 90 ≤ a → a ≤ 99 → ∀ k, k < low a → gi M' a k = gi M a k) ∧ gl M' 121 0 = gl M 121 0 ∧ (∀ i, i ≠ 5 → gb M' i = gb M i) ∧ (∀ k, 26 < k → gi M' 87 k = gi M 87 k) ∧ gi M' 87 3 = 0 ∧ gi M' 87 16 = nI 0 ∧ gi M' 87 25 = -1
theorem r_fault {p : Nat} {M' : Mem} (hM : RI M X) (hX : WOk X) (h : rcR M M') : RI (si (si M' 87 25 (nI p)) 100 0 (gi M' 100 0 + 1)) (xFlt X p) ∧ FrR M (si (si M' 87 25 (nI p)) 100 0 (gi M' 100 0 + 1)) := by
  obtain ⟨h1, ⟨h2, ⟨h3, h4⟩, ⟨h5, h6⟩, h7⟩, ⟨h8, h9⟩, ⟨h10, h11⟩, h12, h13⟩ := hM
  obtain ⟨r1, r2, r3, r4, r5, r6, r7, r8⟩ := h
  have e : ∀ a, a ≠ 87 → a ≠ 100 → (a < 90 ∨ 99 < a) → ∀ k, gi (si (si M' 87 25 (nI p)) 100 0 (gi M' 100 0 + 1)) a k = gi M a k := fun a q1 q2 q3 k => by rw [gi_si_a q2, gi_si_a q1]; exact r1 a q1 q3 k
  have e7 : ∀ k, 26 < k → gi (si (si M' 87 25 (nI p)) 100 0 (gi M' 100 0 + 1)) 87 k = gi M 87 k := fun k hk => by rw [gi_si_a (by decide), gi_si_k (by omega)]; exact r5 k hk
  refine ⟨⟨?_, ⟨h2.eq (fun k a b => e7 k (by omega)) (e 102 (by decide) (by decide) (by decide)) (e 103 (by decide) (by decide) (by decide)) (e 104 (by decide) (by decide) (by decide)), ⟨(e7 38 (by decide)).trans h3, h4.eq (e 105 (by decide) (by decide) (by decide))⟩, ⟨(e7 39 (by decide)).trans h5, h6.eq (e 112 (by decide) (by decide) (by decide)) (e 113 (by decide) (by decide) (by decide)) (e 114 (by decide) (by decide) (by decide))⟩, fun k hk => ?_⟩, ⟨(e7 51 (by decide)).trans h8, fun L hL => ?_⟩, ⟨?_, fun k hk => absurd hk (Nat.not_lt_zero _)⟩, ?_, (e7 42 (by decide)).trans h13⟩, ⟨fun a ha k => ?_, fun i hi => ?_, ?_⟩⟩
  · refine h1.lo hX.1 (fun a q1 q2 k hk => ?_)
    rw [gi_si_a (by omega), gi_si_a (by omega)]
    exact r2 a q1 q2 k hk
  · show _ = if k = 0 then lR (xL X) 0 + 1 else lR (xL X) k
    by_cases c : k = 0
    · rw [c, gi_si_s, if_pos rfl, r1 100 (by decide) (by decide) 0, h7 0 (by decide)]
    · rw [gi_si_k c, gi_si_a (by decide), if_neg c, r1 100 (by decide) (by decide) k]
      exact h7 k hk
  · obtain ⟨g2, ⟨g3, g4⟩, ⟨g5, g6⟩, g7⟩ := h9 L hL
    exact ⟨g2.at (fun k _ => e 115 (by decide) (by decide) (by decide) _), ⟨(e7 52 (by decide)).trans g3, g4.eq (e 116 (by decide) (by decide) (by decide))⟩, ⟨(e7 53 (by decide)).trans g5, g6.eq (e 117 (by decide) (by decide) (by decide)) (e 118 (by decide) (by decide) (by decide)) (e 119 (by decide) (by decide) (by decide))⟩, fun k hk => (e 120 (by decide) (by decide) (by decide) k).trans (g7 k hk)⟩
  · rw [gi_si_a (by decide), gi_si_k (by decide)]; exact r7
  · rw [gi_si_a (by decide), gi_si_s]; rfl
  · exact e a (by omega) (by omega) (by omega) k
  · exact r4 i (by omega)
  · exact r3
theorem r_new {J : IS} {e mx my j n : Nat} {T : Nat → Nat} {R0 M' : Mem} (hM : RI M X) (h : rcR M M') (hr : RLn T n R0 M' j J mx my) (hJ : JOk J) : ∃ M2, fX12_takeOver M' = okV M2 ∧ gi M2 87 3 = 0 ∧ RI M2 (xNew X J e mx my) ∧ FrR M M2 := by
  obtain ⟨h1, ⟨h2, ⟨h3, h4⟩, ⟨h5, h6⟩, h7⟩, ⟨h8, h9⟩, ⟨h10, h11⟩, h12, h13⟩ := hM
  obtain ⟨r1, r2, r3, r4, r5, r6, r7, r8⟩ := h
  obtain ⟨M2, e2, I2, D2, ⟨q38, q39, q51⟩, qk, F2⟩ := r_over hr hJ ((r5 42 (by decide)).trans h13)
  refine ⟨M2, e2, (qk 3 (by decide)).trans r6, ⟨I2, ⟨D2, ⟨q38, fun k hk => absurd hk (Nat.not_lt_zero _)⟩, ⟨q39, fun k hk => absurd hk (Nat.not_lt_zero _)⟩, fun k hk => ?_⟩, ⟨q51, fun L hL => by cases hL⟩, ⟨(qk 16 (by decide)).trans r7, fun k hk => absurd hk (Nat.not_lt_zero _)⟩, (qk 25 (by decide)).trans r8, ?_⟩, ⟨fun a ha k => ?_, fun i hi => ?_, ?_⟩⟩
  · rw [F2.i (by decide), r1 100 (by decide) (by decide)]
    exact h7 k hk
  · rw [qk 42 (by decide), r5 42 (by decide)]; exact h13
  · rw [F2.i (by simp only [List.mem_cons, List.not_mem_nil, or_false]; omega)]
    exact r1 a (by omega) (by omega) k
  · rw [F2.b i]; exact r4 i (by omega)
  · rw [F2.l (by decide)]; exact r3
theorem isB_A (b : Bool) : isB (isA b) = b := by cases b <;> rfl
theorem c_isle {D e mx my : Nat} {J : IS} {b1 b3 : Bool} {M' : Mem} (hM : CI M X) (hD : isA (gb M 1) = D) (h : rcC D M M') (h7 : gi M' 17 7 = -1) (hI : IsC D M' J mx my b1 b3) (hJ : JOk J) : ∃ M1, bV (fX0_begin (isA (gb (sb (sb (si M' 1 1 0) 0 (isB (isA (gb (si M' 1 1 0) 1)))) 1 (isB (isA (gb (si M' 1 1 0) 0)))) 0)) (sb (sb (si M' 1 1 0) 0 (isB (isA (gb (si M' 1 1 0) 1)))) 1 (isB (isA (gb (si M' 1 1 0) 0))))) (fun M6 => bV (fX3_takeShares 39 M6 (-1)) (fun M8 => wr (si M8 0 9 0) (fun M10 => some (M10, .inr (some (.int 0)))))) = okI M1 0 ∧ CI M1 (xNew X J e mx my) ∧ FrC M M1 := by
  obtain ⟨⟨h1, h0⟩, ⟨h2, h3, h4, h5⟩, _, _, _⟩ := hM
  obtain ⟨r1, r2, r3⟩ := h
  have hD3 : D = 3 ∨ D = 24 := by rw [← hD]; cases gb M 1 <;> decide
  have hk := hJ.1
  obtain ⟨M5, hM5⟩ : ∃ M5, M5 = sb (sb (si M' 1 1 0) 0 (isB (isA (gb (si M' 1 1 0) 1)))) 1 (isB (isA (gb (si M' 1 1 0) 0))) := ⟨_, rfl⟩
  have g0 : gb M5 0 = gb M 1 := by rw [hM5, isB_A, isB_A]; show gb M' 1 = gb M 1; exact r3
  have g1 : gb M5 1 = gb M 0 := by rw [hM5, isB_A, isB_A]; show gb M' 0 = gb M 0; exact r2
  have p5 : ∀ a, a ≠ 1 → ∀ k, gi M5 a k = gi M' a k := fun a ha k => by rw [hM5, gi_sb, gi_sb, gi_si_a ha]
  have p1 : gi M5 1 1 = 0 := by rw [hM5, gi_sb, gi_sb, gi_si_s]
  rw [← hM5, g0, hD]
  obtain ⟨M6, e6, D6, ⟨q1, q2, q3⟩, F6⟩ := c_begin (M := M5) (D := D) (mx := mx) (my := my) hD3 (by rw [p5 D (by omega)]; exact hI.2.1) (by rw [p5 D (by omega)]; exact hI.2.2.1)
  have I6 : ICn M6 J := by
    show IC (isA (gb M6 0)) M6 J
    rw [F6.b 0, g0, hD]
    refine (hI.1.eqD (M' := M5) (fun a a1 a2 k => p5 a (by omega) k)).eqD (fun a a1 a2 k => F6.i ?_ k)
    simp only [List.mem_cons, List.not_mem_nil, or_false]
    omega
  obtain ⟨M8, e8, D8, F8⟩ := c_take (ab := none) I6 hk D6 (S00_ok hk.1.1) (by decide) (fun _ c => by cases c)
  have e8 : fX3_takeShares 39 M6 (-1) = okV M8 := e8
  rw [e6, bV_ok, e8, bV_ok, wr_eq]
  have F8' : Fr [13, 16, 23, 34, 37, 41] M6 M8 := F8
  have f8 : ∀ a, a ≠ 13 → a ≠ 16 → a ≠ 23 → a ≠ 34 → a ≠ 37 → a ≠ 41 → ∀ k, gi M8 a k = gi M6 a k := fun a b1 b2 b3 b4 b5 b6 k => F8'.i (by simp only [List.mem_cons, List.not_mem_nil, or_false]; omega) k
  have f6 : ∀ a, a < 39 ∨ 45 < a ∨ a = 44 → ∀ k, gi M6 a k = gi M5 a k := fun a ha k => F6.i (by simp only [List.mem_cons, List.not_mem_nil, or_false]; omega) k
  have I8 : ICn M8 J := I6.fr F8 (scrA_is (a := 39) (by decide)).1
  refine ⟨_, rfl, ⟨⟨?_, ?_⟩, ⟨D8.eq (fun k => gi_si_a (by decide)) (fun k => gi_si_a (by decide)) (fun k => gi_si_a (by decide)) (fun k => gi_si_a (by decide)), ⟨0, by decide, ?_, ?_, fun k hk => absurd hk (Nat.not_lt_zero _)⟩, ⟨?_, fun k hk => absurd hk (Nat.not_lt_zero _)⟩, fun k hk => ?_⟩, ⟨gi_si_s, fun L hL => by cases hL⟩, ⟨?_, fun k hk => absurd hk (Nat.not_lt_zero _)⟩, ?_⟩, fun a ha k => ?_⟩
  · exact I8.fr (l := [0]) (Fr.rf.wi (by decide)) (by unfold apart; decide)
  · show gb M8 1 = !gb M8 0
    rw [F8'.b 1, F8'.b 0, F6.b 1, F6.b 0, g0, g1, h0, Bool.not_not]
  · rw [gi_si_a (by decide), f8 43 (by decide) (by decide) (by decide) (by decide) (by decide) (by decide)]; exact q1
  · rw [gi_si_a (by decide), f8 43 (by decide) (by decide) (by decide) (by decide) (by decide) (by decide)]; exact q2
  · rw [gi_si_a (by decide), f8 45 (by decide) (by decide) (by decide) (by decide) (by decide) (by decide)]; exact q3
  · rw [gi_si_a (by decide), f8 49 (by decide) (by decide) (by decide) (by decide) (by decide) (by decide), f6 49 (by decide), p5 49 (by decide), r1 49 (by decide) (by omega)]
    exact h5 k hk
  · rw [gi_si_a (by decide), f8 1 (by decide) (by decide) (by decide) (by decide) (by decide) (by decide), f6 1 (by decide)]; exact p1
  · rw [gi_si_a (by decide), f8 17 (by decide) (by decide) (by decide) (by decide) (by decide) (by decide), f6 17 (by decide), p5 17 (by decide)]; exact h7
  · rw [gi_si_a (by omega), f8 a (by omega) (by omega) (by omega) (by omega) (by omega) (by omega), f6 a (by omega), p5 a (by omega)]
    exact r1 a (by omega) (by omega) k
theorem a_island (hX : WOk X) (x : Int32) : AgW (fun M => fX11_island M x) (fun M => fX12_island M x) kB X := by
  intro Mc Mr hC hR
  have hN := hX.2.2.2.2.1.1
  have hT := hX.2.2.2.2.1.2
  rcases h_cases x (xN X + 1) (by omega) with ⟨n, hn, rfl⟩ | hx
  · obtain ⟨D, hD⟩ : ∃ D, isA (gb Mc 1) = D := ⟨_, rfl⟩
    have hD3 : D = 3 ∨ D = 24 := by rw [← hD]; cases gb Mc 1 <;> decide
    obtain ⟨C0, z, ec, tx, tk, ib, cl0, o1, o2, o3⟩ := c_ready (T := xT X) (n := n) (M := Mc) hD3 (fun k hk => hC.2.2.2.1.2 k (by omega)) (by omega) (fun k hk => hT k (by omega))
    obtain ⟨B, hB⟩ : ∃ B, B = si (si (si (si (si (si Mr 87 3 0) 87 16 0) 87 18 (nI n)) 87 17 0) 87 23 0) 87 25 (-1) := ⟨_, rfl⟩
    have b87 : ∀ k, 26 < k → gi B 87 k = gi Mr 87 k := fun k hk => by rw [hB, gi_si_k (by omega), gi_si_k (by omega), gi_si_k (by omega), gi_si_k (by omega), gi_si_k (by omega), gi_si_k (by omega)]
    have FB : Fr [87] Mr B := by rw [hB]; exact (((((Fr.rf.wi (by decide)).wi (by decide)).wi (by decide)).wi (by decide)).wi (by decide)).wi (by decide)
    obtain ⟨R0, Mr1, er, txr, rl0, FR0, low0⟩ := r_ready (T := xT X) (n := n) (M := B) ⟨z, tx⟩ (by rw [hB, gi_si_k (by decide), gi_si_k (by decide), gi_si_k (by decide), gi_si_s]) (by rw [hB, gi_si_k (by decide), gi_si_k (by decide), gi_si_s]; rfl) (by rw [hB, gi_si_k (by decide), gi_si_s]) (fun k hk => by rw [FB.i (by decide)]; exact hR.2.2.2.1.2 k (by omega))
    have LX0 : LX (xT X) n z D C0 R0 := ⟨tx, tk, ib, hD3, txr⟩
    -- what both sides keep
    have keepC : ∀ M', HC D C0 M' → rcC D Mc M' := fun M' h => ⟨fun a q1 q2 k => (h.1 a (by omega) q2 k).trans (o1 a q1 q2 k), h.2.1.trans o2, h.2.2.1.trans o3⟩
    have keepR : ∀ M', HR R0 M' → rcR Mr M' := by
      intro M' h
      have b3 : gi B 87 3 = 0 := by rw [hB, gi_si_k (by decide), gi_si_k (by decide), gi_si_k (by decide), gi_si_k (by decide), gi_si_k (by decide), gi_si_s]
      have b16 : gi B 87 16 = nI 0 := by rw [hB, gi_si_k (by decide), gi_si_k (by decide), gi_si_k (by decide), gi_si_k (by decide), gi_si_s]; rfl
      have b25 : gi B 87 25 = -1 := by rw [hB, gi_si_s]
      have z87 : ∀ k, k < 17 ∨ k = 25 ∨ 26 < k → gi M' 87 k = gi B 87 k := fun k hk => (h.2.2.2.2 k (by omega) (by omega) (by omega) (by omega) (by omega) (by omega) (by omega) (by omega)).trans (FR0.i (by decide) k)
      refine ⟨fun a q1 q2 k => ?_, fun a q1 q2 k hk => ?_, ?_, fun i hi => ?_, fun k hk => (z87 k (by omega)).trans (b87 k hk), (z87 3 (by decide)).trans b3, (z87 16 (by decide)).trans b16, (z87 25 (by decide)).trans b25⟩
      · rw [h.1 a q1 q2 k, FR0.i (by rw [List.mem_singleton]; omega), FB.i (by rw [List.mem_singleton]; exact q1)]
      · rw [h.2.2.2.1 a q1 q2 k hk]
        by_cases c : a = 90
        · subst c
          rw [low0 k hk, FB.i (by decide)]
        · rw [FR0.i (by rw [List.mem_singleton]; exact c), FB.i (by rw [List.mem_singleton]; omega)]
      · rw [h.2.1, FR0.l (by decide), FB.l (by decide)]
      · rw [h.2.2.1 i hi, FR0.b i, FB.b i]
    have cpre : fX11_island Mc (nI n) = bI (fX5_read_b46 D FU C0 (nI 0)) (fun M1 v2 => wr (si M1 1 1 0) (fun M3 => if v2 = 0 then wr (sb M3 0 (isB (isA (gb M3 1)))) (fun M4 => wr (sb M4 1 (isB (isA (gb M3 0)))) (fun M5 => bV (fX0_begin (isA (gb M5 0)) M5) (fun M6 => bV (fX3_takeShares 39 M6 (-1)) (fun M8 => wr (si M8 0 9 0) (fun M10 => some (M10, .inr (some (.int 0)))))))) else wr (si M3 49 0 ((gi M3 49 0) + 1)) (fun M11 => some (M11, .inr (some (.int v2)))))) := by
      unfold fX11_island
      rw [if_neg (nI_pos (by omega)), hC.2.2.2.1.1, if_neg (nI_nlt (by omega) (by omega)), hD, ec]
    have rpre : fX12_island Mr (nI n) = fX12_island_b102 FU Mr1 (nI (fl J00 false false)) := by
      unfold fX12_island
      have g16 : gi (si Mr 87 3 0) 87 16 = nI (xN X) := (gi_si_k (by decide)).trans hR.2.2.2.1.1
      rw [wr_eq, if_neg (nI_pos (by omega)), g16, if_neg (nI_nlt (by omega) (by omega)), wr_eq, wr_eq, wr_eq, wr_eq, wr_eq, ← hB, er]
      rfl
    show ∃ X', WOk X' ∧ ((∃ v M1 M2, (fX11_island Mc (nI n) = okI M1 v ∧ CI M1 X' ∧ FrC Mc M1) ∧ fX12_island Mr (nI n) = okI M2 v ∧ gi M2 87 3 = 0 ∧ RI M2 X' ∧ FrR Mr M2) ∨ ∃ x M1 M2 w, ((x = 1 ∨ x = 2) ∧ kB x ≠ 0) ∧ (fX11_island Mc (nI n) = some (M1, .inl x) ∧ CI M1 X' ∧ FrC Mc M1) ∧ fX12_island Mr (nI n) = okI M2 w ∧ gi M2 87 3 = kB x ∧ RI M2 X' ∧ FrR Mr M2)
    rw [cpre, rpre]
    rcases text_loop LX0 z 0 (by omega) FU FU (FU_gt (by have := tx.2.2.1; omega)) (FU_gt (by have := tx.2.2.1; omega)) 0 C0 Mr1 J00 10 10 false false cl0 rl0 (by omega) (by omega) J00_ok with ⟨Mc2, Mr2, j, J, mx, my, b1, b3, e1, e2, hc, hr, hJ⟩ | ⟨Mc2, Mr2, k, p, e1, e2, fc, fr, hk⟩
    · obtain ⟨e, he1, he2⟩ := hJ.2.1
      obtain ⟨M1, x1, x2, x3⟩ := c_isle (e := e) hC hD (keepC Mc2 hc.1) hc.2.1 hc.2.2.2 hJ
      obtain ⟨M2, y1, y2, y3, y4⟩ := r_new (e := e) hR (keepR Mr2 hr.1) hr hJ
      refine ⟨xNew X J e mx my, xNew_ok X hJ ⟨he2, he1⟩, Or.inl ⟨0, M1, M2, ⟨?_, x2, x3⟩, ?_, y2, y3, y4⟩⟩
      · rw [e1, bI_ok, wr_eq, if_pos rfl, wr_eq, wr_eq]
        exact x1
      · rw [e2]
        unfold fX12_island_b125
        rw [if_pos hr.2.1.2, y1, bV_ok]
    · have rc := keepR Mr2 fr.1
      obtain ⟨y1, y2⟩ := r_fault (p := p) hR hX rc
      have cc := c_fault (p := p) hC hD (keepC Mc2 fc.1) fc.2.2
      have hk0 : ¬ nI k = 0 := nIk0 hk.1 (by omega)
      refine ⟨xFlt X p, xFlt_ok hX p, Or.inl ⟨nI k, _, _, ⟨?_, cc, fun a ha i => ?_⟩, ?_, ?_, y1, y2⟩⟩
      · rw [e1, bI_ok, wr_eq, if_neg hk0, wr_eq, gi_si_a (show (49 : Nat) ≠ 1 by decide)]
      · rw [gi_si_a (by omega), gi_si_a (by omega)]
        exact (keepC Mc2 fc.1).1 a (by omega) (by omega) i
      · rw [e2]
        unfold fX12_island_b125
        rw [if_neg (fr.f hk), fr.2.2, wr_eq, gi_si_a (show (100 : Nat) ≠ 87 by decide), wr_eq, gi_si_a (show (87 : Nat) ≠ 100 by decide), gi_si_k (show (23 : Nat) ≠ 25 by decide), fr.2.1]
      · rw [gi_si_a (by decide), gi_si_k (by decide)]; exact rc.2.2.2.2.2.1
  · refine ⟨X, hX, Or.inr ⟨2, Mc, si (si Mr 87 3 0) 87 3 (kB 2), 0, ⟨Or.inr rfl, by decide⟩, ⟨?_, hC, FrC.rf⟩, ?_, gi_si_s, hR.z.z, FrR.rf.z.z⟩⟩
    · show fX11_island Mc x = _
      unfold fX11_island fX11_island_b15
      by_cases c : x < 0
      · rw [if_pos c]
      · rw [if_neg c, hC.2.2.2.1.1, if_pos (by
          have := Int32.le_iff_toInt_le.mp (hx.resolve_left c)
          rw [nI_toInt (by omega)] at this
          rw [Int32.lt_iff_toInt_lt, nI_toInt (by omega)]
          omega)]
    · show fX12_island Mr x = _
      unfold fX12_island fX12_island_b17
      have g16 : gi (si Mr 87 3 0) 87 16 = nI (xN X) := (gi_si_k (by decide)).trans hR.2.2.2.1.1
      rw [wr_eq]
      by_cases c : x < 0
      · rw [if_pos c, x1x]
        rfl
      · rw [if_neg c, g16, if_pos (by
          have := Int32.le_iff_toInt_le.mp (hx.resolve_left c)
          rw [nI_toInt (by omega)] at this
          rw [Int32.lt_iff_toInt_lt, nI_toInt (by omega)]
          omega), x1x]
        rfl
end

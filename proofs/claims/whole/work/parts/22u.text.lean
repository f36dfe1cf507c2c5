-- ===== both sides read a text =====
section
variable {T : Nat → Nat} {n z D : Nat} {C0 R0 M Mc Mr : Mem} {j : Nat} {J : IS} {mx my : Nat} {b1 b3 : Bool}
/-- a text is refused: the fault and its place are told -/
def CE (D : Nat) (C0 M : Mem) (k p : Nat) : Prop := HC D C0 M ∧ gi M 17 6 = nI k ∧ gi M 17 7 = nI p
def TOut (T : Nat → Nat) (n z D : Nat) (C0 R0 : Mem) (cr rr : RS) : Prop :=
  (∃ Mc Mr j J mx my b1 b3, cr = okI Mc 0 ∧ rr = fX12_island_b125 Mr ∧ CL T n D C0 Mc j J mx my b1 b3 ∧ RLn T n R0 Mr j J mx my ∧ JOk J) ∨
  ∃ Mc Mr k p, cr = okI Mc (nI k) ∧ rr = fX12_island_b125 Mr ∧ CE D C0 Mc k p ∧ RX R0 Mr k p ∧ 1 ≤ k ∧ k ≤ 5
theorem text_loop (X : LX T n z D C0 R0) : ∀ d j, z - j ≤ d → ∀ f f', d + 1 < f → d + 1 < f' → ∀ i Mc Mr J mx my b1 b3, CL T n D C0 Mc j J mx my b1 b3 → RLn T n R0 Mr j J mx my → i ≤ j → j ≤ z → JOk J → TOut T n z D C0 R0 (fX5_read_b46 D f Mc (nI i)) (fX12_island_b102 f' Mr (nI (fl J b1 b3))) := by
  have h7 : z ≤ 700 := by have := X.1.1; have := X.1.2.2.1; omega
  have stop0 : ∀ f f' i j Mc Mr J mx my b1 b3, CL T n D C0 Mc j J mx my b1 b3 → RLn T n R0 Mr j J mx my → i ≤ 700 → JOk J → syA T n (ps T n j) = 0 → TOut T n z D C0 R0 (fX5_read_b46 D (f + 1) Mc (nI i)) (fX12_island_b102 (f' + 1) Mr (nI (fl J b1 b3))) := by
    intro f f' i j Mc Mr J mx my b1 b3 hc hr hi hJ hs
    have hk : kdA T n (ps T n j) = 0 := by rcases sy_kinds T n (ps T n j) with ⟨a1, b1, _⟩ | ⟨a1, b1, _⟩ | ⟨a1, b1, _⟩ | ⟨a1, b1, b2, b3, _⟩ | ⟨a1, b1, _⟩ <;> omega
    refine Or.inl ⟨Mc, Mr, j, J, mx, my, b1, b3, ?_, ?_, hc, hr, hJ⟩
    · rw [fX5_read_b46]
      dsimp only
      rw [if_neg (ngtL 700 hi (by decide)), if_pos hc.2.2.1.2.2, hc.2.2.1.2.1, hs, if_pos (show nI 0 = 0 from rfl)]
      unfold fX5_read_b77
      rw [if_pos hc.2.2.1.2.2, hc.2.2.1.2.2]
    · rw [fX12_island_b102]
      dsimp only
      rw [if_pos hr.2.1.2, hr.2.1.1.2.2.2.1, hk, if_pos (show nI 0 = 0 from rfl)]
  intro d
  induction d with
  | zero =>
    intro j hd f f' hf hf' i Mc Mr J mx my b1 b3 hc hr hi hj hJ
    obtain ⟨g, rfl⟩ : ∃ g, f = g + 1 := ⟨f - 1, by omega⟩
    obtain ⟨g', rfl⟩ : ∃ g, f' = g + 1 := ⟨f' - 1, by omega⟩
    refine stop0 g g' i j Mc Mr J mx my b1 b3 hc hr (by omega) hJ ?_
    rw [show j = z by omega]
    exact sy_z X.1.2.2.2
  | succ d ih =>
    intro j hd f f' hf hf' i Mc Mr J mx my b1 b3 hc hr hi hj hJ
    obtain ⟨g, rfl⟩ : ∃ g, f = g + 1 := ⟨f - 1, by omega⟩
    obtain ⟨g', rfl⟩ : ∃ g, f' = g + 1 := ⟨f' - 1, by omega⟩
    by_cases c : syA T n (ps T n j) = 0
    · exact stop0 g g' i j Mc Mr J mx my b1 b3 hc hr (by omega) hJ c
    · have hj1 := j_lt X.1.2.2.2 hj c
      have slt := sy_lt (T := T) (n := n) (s := ps T n j)
      have hk : kdA T n (ps T n j) ≠ 0 ∧ kdA T n (ps T n j) < 9 := by rcases sy_kinds T n (ps T n j) with ⟨a1, b1, _⟩ | ⟨a1, b1, _⟩ | ⟨a1, b1, _⟩ | ⟨a1, b1, b2, b3, _⟩ | ⟨a1, b1, _⟩ <;> omega
      rw [fX5_read_b46, fX12_island_b102]
      dsimp only
      rw [if_neg (ngtL 700 (by omega) (by decide)), if_pos hc.2.2.1.2.2, hc.2.2.1.2.1, if_neg (neL 0 c (by omega) (by decide)), if_pos hr.2.1.2, hr.2.1.1.2.2.2.1, if_neg (neL 0 hk.1 (by omega) (by decide)), nI_p1]
      rcases line_both X hc hr hj1 hJ with ⟨Mc2, Mr2, j', J', mx', my', b1', b3', e1, e2, hc', hr', q1, q2, hJ'⟩ | ⟨Mc2, Mr2, k, p, w, e1, e2, fc, fr, hk⟩
      · rw [e1, bV_ok, e2, bI_ok]
        exact ih j' (by omega) g g' (by omega) (by omega) (i + 1) Mc2 Mr2 J' mx' my' b1' b3' hc' hr' (by omega) q2 hJ'
      · rw [e1, bV_ok, e2, bI_ok]
        obtain ⟨g2, rfl⟩ : ∃ g2, g = g2 + 1 := ⟨g - 1, by omega⟩
        obtain ⟨g3, rfl⟩ : ∃ g2, g' = g2 + 1 := ⟨g' - 1, by omega⟩
        have e77 : fX5_read_b77 D Mc2 = okI (si Mc2 17 7 (nI p)) (nI k) := by
          obtain ⟨j2, hj2, s4, sp⟩ := fc.2.2
          have t := fc.1.tk X
          unfold fX5_read_b77
          rw [if_neg (fc.f hk), s4, c_stAt t.1 t.2.1 t.2.2 X.1.2.2.2 h7 hj2, bI_ok, wr_eq, gi_si_k (by decide), fc.2.1, sp]
        refine Or.inr ⟨si Mc2 17 7 (nI p), Mr2, k, p, ?_, ?_, ⟨fc.1.w (Or.inl rfl), by rw [gi_si_k (by decide)]; exact fc.2.1, gi_si_s⟩, fr, hk⟩
        · rw [fX5_read_b46]
          dsimp only
          rw [if_neg (fc.f hk), e77]
          split <;> rfl
        · rw [fX12_island_b102]
          dsimp only
          rw [if_neg (fr.f hk)]
/-- nothing is told -/
def J00 : IS := ((0, 0, 0), fun _ _ => 0, 4, [], [])
theorem J00_ok : JOk J00 := ⟨⟨⟨by decide, by decide, by decide⟩, ⟨by decide, by decide⟩, Or.inl rfl, Or.inl rfl⟩, ⟨4, by decide, rfl⟩, fun p hp => absurd hp (Nat.not_lt_zero _)⟩
theorem isA_B {D : Nat} (hD : D = 3 ∨ D = 24) : isA (isB D) = D := by rcases hD with rfl | rfl <;> rfl
/-- the class is ready to read -/
theorem c_ready (hD : D = 3 ∨ D = 24) (hb : ∀ k, k < n → gi M 2 k = byC (T k)) (hn : n ≤ 700) (hT : ∀ k, k < n → T k < 256) : ∃ C0 z, fX5_read D M (nI n) = fX5_read_b46 D FU C0 (nI 0) ∧ Txt T n z ∧ TkS C0 T n z ∧ isA (gb C0 2) = D ∧ CL T n D C0 C0 0 J00 10 10 false false ∧ (∀ a, a < 17 ∨ 21 < a → (a < D ∨ D + 13 < a) → ∀ k, gi C0 a k = gi M a k) ∧ gb C0 0 = gb M 0 ∧ gb C0 1 = gb M 1 := by
  unfold fX5_read fX2_clear fX6_clear
  rw [wr_eq, wr_eq, wr_eq, wr_eq, wr_eq, wr_eq, wr_eq, wr_eq, wr_eq, bV_ok, wr_eq, bV_ok, bV_ok, wr_eq, wr_eq, wr_eq]
  obtain ⟨M1, hM1⟩ : ∃ M1, M1 = si (si (sb (si (si (si (si (si (si (si (si (si (si M D 9 0) D 10 0) D 11 0) D 12 10) D 13 10) D 14 4) D 15 0) D 16 0) (D + 8) 2 0) (D + 11) 2 0) 2 (isB D)) 17 6 0) 17 7 (-1) := ⟨_, rfl⟩
  rw [← hM1]
  have o1 : ∀ a k, a ≠ 17 → (a < D ∨ D + 13 < a) → gi M1 a k = gi M a k := fun a k h1 h2 => by
    rw [hM1, gi_si_a h1, gi_si_a h1, gi_sb]
    rw [gi_si_a (by omega), gi_si_a (by omega), gi_si_a (by omega), gi_si_a (by omega), gi_si_a (by omega), gi_si_a (by omega), gi_si_a (by omega), gi_si_a (by omega), gi_si_a (by omega), gi_si_a (by omega)]
  have g9 : gi M1 D 9 = 0 ∧ gi M1 D 10 = 0 ∧ gi M1 D 11 = 0 ∧ gi M1 D 12 = 10 ∧ gi M1 D 13 = 10 ∧ gi M1 D 14 = 4 ∧ gi M1 D 15 = 0 ∧ gi M1 D 16 = 0 := by
    have e : ∀ k, gi M1 D k = gi (si (si (si (si (si (si (si (si M D 9 0) D 10 0) D 11 0) D 12 10) D 13 10) D 14 4) D 15 0) D 16 0) D k := fun k => by
      rw [hM1, gi_si_a (by omega), gi_si_a (by omega), gi_sb, gi_si_a (by omega), gi_si_a (by omega)]
    rw [e, e, e, e, e, e, e, e]
    refine ⟨?_, ?_, ?_, ?_, ?_, ?_, ?_, gi_si_s⟩
    · rw [gi_si_k (by decide), gi_si_k (by decide), gi_si_k (by decide), gi_si_k (by decide), gi_si_k (by decide), gi_si_k (by decide), gi_si_k (by decide), gi_si_s]
    · rw [gi_si_k (by decide), gi_si_k (by decide), gi_si_k (by decide), gi_si_k (by decide), gi_si_k (by decide), gi_si_k (by decide), gi_si_s]
    · rw [gi_si_k (by decide), gi_si_k (by decide), gi_si_k (by decide), gi_si_k (by decide), gi_si_k (by decide), gi_si_s]
    · rw [gi_si_k (by decide), gi_si_k (by decide), gi_si_k (by decide), gi_si_k (by decide), gi_si_s]
    · rw [gi_si_k (by decide), gi_si_k (by decide), gi_si_k (by decide), gi_si_s]
    · rw [gi_si_k (by decide), gi_si_k (by decide), gi_si_s]
    · rw [gi_si_k (by decide), gi_si_s]
  have g8 : gi M1 (D + 8) 2 = 0 := by rw [hM1, gi_si_a (by omega), gi_si_a (by omega), gi_sb, gi_si_a (by omega), gi_si_s]
  have g11 : gi M1 (D + 11) 2 = 0 := by rw [hM1, gi_si_a (by omega), gi_si_a (by omega), gi_sb, gi_si_s]
  have g6 : gi M1 17 6 = 0 := by rw [hM1, gi_si_k (by decide), gi_si_s]
  have g7 : gi M1 17 7 = -1 := by rw [hM1, gi_si_s]
  have gb1 : gb M1 0 = gb M 0 ∧ gb M1 1 = gb M 1 ∧ gb M1 2 = isB D := by rw [hM1]; exact ⟨rfl, rfl, rfl⟩
  obtain ⟨M2, z, e2, F2, q4, q6, qk, hz, hzn⟩ := c_cut (T := T) (n := n) (M := M1) (fun k hk => by rw [o1 2 k (by decide) (by omega)]; exact hb k hk) hn hT
  have tx : Txt T n z := ⟨hn, hT, hzn, hz⟩
  have tk2 : TkS (si M2 17 4 0) T n z := TkS.w ⟨q4, q6, qk⟩ (by decide)
  have es : fX10_symbolAt (si M2 17 4 0) 0 = okI (si M2 17 4 0) (nI (syA T n (ps T n 0))) := c_symAt tk2.2.1 tk2.2.2 hz (by omega) (show 0 ≤ z by omega)
  rw [e2, bV_ok, wr_eq, es, bI_ok, wr_eq]
  have o2 : ∀ a, a < 17 ∨ 21 < a → ∀ k, gi (si (si M2 17 4 0) 17 5 (nI (syA T n (ps T n 0)))) a k = gi M1 a k := fun a ha k => by
    rw [gi_si_a (by omega), gi_si_a (by omega), F2.i (by simp only [List.mem_cons, List.not_mem_nil, or_false]; omega)]
  have o17 : ∀ k, k ≠ 4 → k ≠ 5 → gi (si (si M2 17 4 0) 17 5 (nI (syA T n (ps T n 0)))) 17 k = gi M1 17 k := fun k h4 h5 => by
    rw [gi_si_k h5, gi_si_k h4, F2.i (by decide)]
  have eD : ∀ a, D ≤ a → a ≤ D + 13 → ∀ k, gi (si (si M2 17 4 0) 17 5 (nI (syA T n (ps T n 0)))) a k = gi M1 a k := fun a h1 h2 k => o2 a (by omega) k
  refine ⟨_, z, rfl, tx, tk2.w (by decide), ?_, ⟨⟨fun _ _ _ _ => rfl, rfl, rfl, rfl⟩, (o17 7 (by decide) (by decide)).trans g7, ⟨?_, gi_si_s, (o17 6 (by decide) (by decide)).trans g6⟩, IsC.eq (M := M1) ⟨?_, g9.2.2.2.1, g9.2.2.2.2.1, g9.2.2.2.2.2.2.1, g9.2.2.2.2.2.2.2⟩ eD⟩, fun a h1 h2 k => (o2 a h1 k).trans (o1 a k (by omega) h2), ?_, ?_⟩
  · show isA (gb M2 2) = D
    rw [F2.b 2, gb1.2.2]
    exact isA_B hD
  · rw [gi_si_k (by decide), gi_si_s]; rfl
  · exact ⟨⟨g9.1, g9.2.1, g9.2.2.1, g9.2.2.2.2.2.1⟩, fun i hi => absurd hi (Nat.not_lt_zero _), fun i hi => absurd hi (Nat.not_lt_zero _), fun i hi => absurd hi (Nat.not_lt_zero _), ⟨g8, fun i hi => absurd hi (Nat.not_lt_zero _)⟩, g11, fun i hi => absurd hi (Nat.not_lt_zero _)⟩
  · show gb M2 0 = gb M 0
    rw [F2.b 0]; exact gb1.1
  · show gb M2 1 = gb M 1
    rw [F2.b 1]; exact gb1.2.1
def t0 (i : Nat) : Int32 := if i = 3 then 4 else if i = 4 then 10 else if i = 5 then 10 else 0
/-- the reference is ready to read -/
theorem r_ready (hz : ∃ z, Txt T n z) (h18 : gi M 87 18 = nI n) (h17 : gi M 87 17 = nI 0) (h23 : gi M 87 23 = 0) (hb : ∀ k, k < n → gi M 101 k = nI (T k)) : ∃ R0 Mr, fX12_island_b50 FU M 0 = fX12_island_b102 FU Mr 0 ∧ TxR R0 T n ∧ RLn T n R0 Mr 0 J00 10 10 ∧ Fr [90] M R0 ∧ ∀ k, k < 8 → gi R0 90 k = gi M 90 k := by
  obtain ⟨z, tx⟩ := hz
  obtain ⟨M1, ⟨F1, l1, u1⟩, e1⟩ := loopI (fun f M k (_ : Nat) => fX12_island_b50 f M (nI k)) (fun k M' _ => Fr [90] M M' ∧ (∀ i, i < 8 → gi M' 90 i = gi M 90 i) ∧ ∀ i, i < k → gi M' 90 (8 + i) = t0 i) 8 (fun _ a => a) (fun M _ => bV (fX12_stepOn M) (fun M9 => fX12_island_b102 FU M9 0))
    (by
      intro f M1 k a ⟨F1, l1, u1⟩ hk
      have fin : ∀ v, v = t0 k → fX12_island_b89 (fX12_island_b50 f) M1 (nI k) v (8 + nI k) = fX12_island_b50 f (si M1 90 (8 + k) v) (nI (k + 1)) := by
        intro v _
        unfold fX12_island_b89
        rw [show (8 : Int32) + nI k = nI (8 + k) from nadd 8 k, chk_in (by omega) (by decide), ix_nI (by omega), wr_eq, nI_p1]
      have step : fX12_island_b50 (f + 1) M1 (nI k) = fX12_island_b50 f (si M1 90 (8 + k) (t0 k)) (nI (k + 1)) := by
        rw [fX12_island_b50]
        dsimp only
        unfold fX12_island_b83
        rw [if_pos (ltL 8 hk (by decide))]
        by_cases c3 : k = 3
        · rw [if_pos (eqL 3 c3)]
          exact (fin 4 (by rw [c3]; rfl)).trans (by rw [c3]; rfl)
        · rw [if_neg (neL 3 c3 (by omega) (by decide))]
          by_cases c4 : k = 4
          · rw [if_pos (eqL 4 c4)]
            exact (fin 10 (by rw [c4]; rfl)).trans (by rw [c4]; rfl)
          · rw [if_neg (neL 4 c4 (by omega) (by decide))]
            have e0 : t0 k = if k = 5 then 10 else 0 := by unfold t0; rw [if_neg c3, if_neg c4]
            by_cases c5 : k = 5
            · rw [if_pos (eqL 5 c5)]
              exact (fin 10 (by rw [c5]; rfl)).trans (by rw [c5]; rfl)
            · rw [if_neg (neL 5 c5 (by omega) (by decide))]
              rw [if_neg c5] at e0
              rw [e0]
              exact fin 0 e0.symm
      refine ⟨si M1 90 (8 + k) (t0 k), ⟨F1.wi (by decide), fun i hi => by rw [gi_si_k (by omega)]; exact l1 i hi, fun i hi => ?_⟩, step⟩
      by_cases e : i = k
      · rw [e, gi_si_s]
      · rw [gi_si_k (by omega)]; exact u1 i (by omega))
    (by
      intro f M1 a _
      rw [fX12_island_b50]
      dsimp only
      rw [if_neg (show ¬ nI 8 < 8 by decide)])
    8 0 (by omega) FU (FU_gt (by omega)) M 0 ⟨Fr.rf, fun _ _ => rfl, fun i hi => by omega⟩
  have txr : TxR M1 T n := ⟨(F1.i (by decide) _).trans h18, fun k hk => (F1.i (by decide) _).trans (hb k hk)⟩
  obtain ⟨Mr, e2, K, tk⟩ := r_step tx.1 tx.2.1 (Nat.zero_le _) txr ((F1.i (by decide) _).trans h17)
  have hself : HR M1 M1 := ⟨fun _ _ _ _ => rfl, rfl, fun _ _ => rfl, fun _ _ _ _ _ => rfl, fun _ _ _ _ _ _ _ _ _ => rfl⟩
  have u : ∀ i, i < 8 → gi Mr 90 (8 + i) = t0 i := fun i hi => (K.1.i (by decide) _).trans (u1 i hi)
  have e1 : fX12_island_b50 FU M 0 = bV (fX12_stepOn M1) (fun M9 => fX12_island_b102 FU M9 0) := e1
  refine ⟨M1, Mr, ?_, txr, ⟨hself.kr K, ⟨tk, ?_⟩, ⟨u 0 (by decide), u 1 (by decide), u 2 (by decide), u 3 (by decide), u 4 (by decide), u 5 (by decide), u 6 (by decide), u 7 (by decide)⟩, fun i hi => absurd hi (Nat.not_lt_zero _), fun i hi => absurd hi (Nat.not_lt_zero _), fun i hi => absurd hi (Nat.not_lt_zero _), fun i hi => absurd hi (Nat.not_lt_zero _), fun i hi => absurd hi (Nat.not_lt_zero _)⟩, F1, l1⟩
  · rw [e1, e2, bV_ok]
  · rw [K.2 23 (by decide) (by decide) (by decide) (by decide) (by decide), F1.i (by decide)]
    exact h23
end

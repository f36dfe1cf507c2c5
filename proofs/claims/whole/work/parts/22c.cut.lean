-- ===== the class cuts the text: numbers, all of it =====
section
variable {T : Nat → Nat} {n : Nat} {M : Mem}
theorem sy_D {s : Nat} (hs : s < n) (hD : isD (T s) = true) : syA T n s = (if 4 < stop T n s - s then 2 else 1) ∧ nmA T n s = nmr T s (stop T n s - s) := by
  constructor
  · unfold syA
    rw [if_pos hs, if_neg (fun z => LD z hD), if_pos hD]
  · unfold nmA
    rw [if_pos ⟨hs, hD⟩]
theorem dg_step {v d : Nat} (hd : 48 ≤ d) : 10 * nI v + nI d - 48 = nI (10 * v + d - 48) := by
  rw [show 10 * nI v = nI (10 * v) from pk_mul 10 v, nadd]
  exact pk_sub (show 48 ≤ 10 * v + d by omega)
theorem c_cutNum (h : TxC M T n) (hn : n ≤ 700) (hT : ∀ k, k < n → T k < 256) {s z : Nat} (hs : s < n) (hD : isD (T s) = true) (h5 : gi M 18 5 = nI s) (h6 : gi M 18 6 = nI z) (hz : z < 700) : fX10_cutNumber M = okV (si (si (si M 18 5 (nI (stop T n s))) 19 z (nI (syA T n s))) 21 z (nI (nmA T n s))) := by
  obtain ⟨a1, a2, a3⟩ := stop_in (T := T) (n := n) (s := s) (by omega)
  obtain ⟨e1, e2⟩ := sy_D hs hD
  unfold fX10_cutNumber
  have fin : ∀ M, gi M 18 6 = nI z → fX10_cutNumber_b65 M (nI (stop T n s - s)) (nI (nmr T s (stop T n s - s))) = okV (si (si M 19 z (nI (syA T n s))) 21 z (nI (nmA T n s))) := by
    intro M h6
    unfold fX10_cutNumber_b65 fX10_cutNumber_b83
    rw [e1, e2]
    by_cases c : 4 < stop T n s - s
    · rw [if_pos (gtL 4 c (by omega)), if_pos c, h6, chk_in hz (by decide), ix_nI (by omega), wr_eq, gi_si_a (show (18 : Nat) ≠ 19 by decide), h6, chk_in hz (by decide), ix_nI (by omega), wr_eq]
      rfl
    · rw [if_neg (ngtL 4 (by omega) (by decide)), if_neg c, h6, chk_in hz (by decide), ix_nI (by omega), wr_eq, gi_si_a (show (18 : Nat) ≠ 19 by decide), h6, chk_in hz (by decide), ix_nI (by omega), wr_eq]
      rfl
  have key : ∀ d c, n - (s + c) = d → s + c ≤ n → run (fun k => isD (T k)) d (s + c) = stop T n s → ∀ f, d < f → ∀ M, TxC M T n → gi M 18 5 = nI (s + c) → gi M 18 6 = nI z → fX10_cutNumber_b4 f M (nI c) (nI (nmr T s c)) = okV (si (si (si M 18 5 (nI (stop T n s))) 19 z (nI (syA T n s))) 21 z (nI (nmA T n s))) := by
    intro d
    induction d with
    | zero =>
      intro c hd h2 hr f hf M h h5 h6
      obtain ⟨m, rfl⟩ : ∃ m, f = m + 1 := ⟨f - 1, by omega⟩
      unfold run at hr
      rw [fX10_cutNumber_b4]
      dsimp only
      have ec : c = stop T n s - s := by omega
      rw [h5, h.1, if_neg (nI_nlt (by omega) (by omega)), ec, fin M h6, si_self M 18 5 _ (by rw [h5, hr])]
    | succ d ih =>
      intro c hd h2 hr f hf M h h5 h6
      obtain ⟨m, rfl⟩ : ∃ m, f = m + 1 := ⟨f - 1, by omega⟩
      unfold run at hr
      rw [fX10_cutNumber_b4]
      dsimp only
      unfold fX10_cutNumber_b49
      rw [h5, h.1, if_pos (nI_lt (by omega) (by omega)), c_isD h hn hT (by omega), bI_ok]
      by_cases cd : isD (T (s + c)) = true
      · have hd48 := (of_decide_eq_true cd).1
        rw [if_pos cd] at hr
        have hb := h.2 (s + c) (by omega)
        rw [by_lo _ (D_lo cd)] at hb
        rw [if_pos cd, if_neg n10, h5, chk_in (by omega) (by decide), ix_nI (by omega), hb, dg_step hd48, wr_eq, wr_eq, nI_p1, nI_p1]
        have ihk := ih (c + 1) (by omega) (by omega) hr m (by omega) (si M 18 5 (nI (s + c + 1))) (h.w (by decide) (fun _ => by decide)) gi_si_s ((gi_si_k (by decide)).trans h6)
        rw [si_si] at ihk
        have en : nmr T s (c + 1) = if c < 4 then 10 * nmr T s c + T (s + c) - 48 else nmr T s c := rfl
        rw [en] at ihk
        by_cases c4 : c < 4
        · rw [if_pos (ltL 4 c4 (by decide))]
          rw [if_pos c4] at ihk
          exact ihk
        · rw [if_neg (nltL 4 (by omega) (by omega))]
          rw [if_neg c4] at ihk
          exact ihk
      · rw [if_neg cd] at hr
        have ec : c = stop T n s - s := by omega
        rw [if_neg cd, if_pos rfl, ec, fin M h6, si_self M 18 5 _ (by rw [h5, hr])]
  exact key (n - s) 0 (by omega) (by omega) (stop_D hs hD).symm FU (FU_gt (by omega)) M h h5 h6
set_option maxRecDepth 10000 in
theorem by_sg : ∀ v, v < 256 → (if byC v = 40 then byC v else if byC v = 41 then byC v else if byC v = 42 then byC v else if byC v = 43 then byC v else if byC v = 45 then byC v else if byC v = 47 then byC v else if byC v = 59 then byC v else if byC v = 60 then byC v else if byC v = 61 then byC v else 3) = nI (sgn v) := by decide
theorem okI_ite {c : Prop} [Decidable c] {a b : Int32} : (if c then okI M a else okI M b) = okI M (if c then a else b) := by split <;> rfl
theorem c_sign {v : Nat} (hv : v < 256) : fX10_signOf M (byC v) = okI M (nI (sgn v)) := by
  rw [← by_sg v hv]
  unfold fX10_signOf
  rw [← okI_ite, ← okI_ite, ← okI_ite, ← okI_ite, ← okI_ite, ← okI_ite, ← okI_ite, ← okI_ite, ← okI_ite]
theorem c_cutOne (h : TxC M T n) (hn : n ≤ 700) (hT : ∀ k, k < n → T k < 256) {s z : Nat} (hs : s < n) (h5 : gi M 18 5 = nI s) (h6 : gi M 18 6 = nI z) (hz : z < 700) : ∃ M', fX10_cutOne M = okV M' ∧ Fr [18, 19, 20, 21] M M' ∧ gi M' 18 5 = nI (stop T n s) ∧ gi M' 18 4 = gi M 18 4 ∧ gi M' 18 6 = nI z ∧ (gi M' 19 z = nI (syA T n s) ∧ gi M' 20 z = nI s ∧ gi M' 21 z = nI (nmA T n s)) ∧ ∀ i, i ≠ z → gi M' 19 i = gi M 19 i ∧ gi M' 20 i = gi M 20 i ∧ gi M' 21 i = gi M 21 i := by
  unfold fX10_cutOne
  rw [h6, chk_in hz (by decide), ix_nI (by omega), wr_eq, h5]
  have g6 : gi (si M 20 z (nI s)) 18 6 = nI z := (gi_si_a (by decide)).trans h6
  rw [g6, chk_in hz (by decide), ix_nI (by omega), wr_eq]
  obtain ⟨M2, hM2⟩ : ∃ M2, M2 = si (si M 20 z (nI s)) 21 z 0 := ⟨_, rfl⟩
  rw [← hM2]
  have F2 : Fr [18, 19, 20, 21] M M2 := by rw [hM2]; exact (Fr.rf.wi (by decide)).wi (by decide)
  have t2 : TxC M2 T n := by rw [hM2]; exact (h.w (by decide) (fun z => by cases z)).w (by decide) (fun z => by cases z)
  have p18 : ∀ k, gi M2 18 k = gi M 18 k := fun k => by rw [hM2, gi_si_a (by decide), gi_si_a (by decide)]
  have p19 : ∀ k, gi M2 19 k = gi M 19 k := fun k => by rw [hM2, gi_si_a (by decide), gi_si_a (by decide)]
  have p20 : gi M2 20 z = nI s := by rw [hM2, gi_si_a (by decide), gi_si_s]
  have p21 : gi M2 21 z = 0 := by rw [hM2, gi_si_s]
  have po : ∀ i, i ≠ z → gi M2 20 i = gi M 20 i ∧ gi M2 21 i = gi M 21 i := fun i hi => by
    rw [hM2, gi_si_a (by decide), gi_si_k hi, gi_si_k hi, gi_si_a (by decide)]
    exact ⟨rfl, rfl⟩
  have q5 : gi M2 18 5 = nI s := (p18 5).trans h5
  have q6 : gi M2 18 6 = nI z := (p18 6).trans h6
  rw [q5, c_isL t2 hn hT hs, bI_ok]
  by_cases cL : isL (T s) = true
  · rw [if_pos cL, if_neg n10, c_cutWord t2 hn hT hs cL q5 q6 hz, bV_ok]
    have en : nmA T n s = 0 := by unfold nmA; rw [if_neg (fun z => LD cL z.2)]
    refine ⟨_, rfl, (F2.wi (by decide)).wi (by decide), ?_, ?_, ?_, ⟨gi_si_s, ?_, ?_⟩, fun i hi => ⟨?_, ?_, ?_⟩⟩
    · rw [gi_si_a (by decide), gi_si_s]
    · rw [gi_si_a (by decide), gi_si_k (by decide), p18]
    · rw [gi_si_a (by decide), gi_si_k (by decide)]; exact q6
    · rw [gi_si_a (by decide), gi_si_a (by decide), p20]
    · rw [gi_si_a (by decide), gi_si_a (by decide), p21, en]
      rfl
    · rw [gi_si_k hi, gi_si_a (by decide), p19]
    · rw [gi_si_a (by decide), gi_si_a (by decide)]; exact (po i hi).1
    · rw [gi_si_a (by decide), gi_si_a (by decide)]; exact (po i hi).2
  · rw [if_neg cL, if_pos rfl, q5, c_isD t2 hn hT hs, bI_ok]
    by_cases cD : isD (T s) = true
    · rw [if_pos cD, if_neg n10, c_cutNum t2 hn hT hs cD q5 q6 hz, bV_ok]
      refine ⟨_, rfl, ((F2.wi (by decide)).wi (by decide)).wi (by decide), ?_, ?_, ?_, ⟨?_, ?_, gi_si_s⟩, fun i hi => ⟨?_, ?_, ?_⟩⟩
      · rw [gi_si_a (by decide), gi_si_a (by decide), gi_si_s]
      · rw [gi_si_a (by decide), gi_si_a (by decide), gi_si_k (by decide), p18]
      · rw [gi_si_a (by decide), gi_si_a (by decide), gi_si_k (by decide)]; exact q6
      · rw [gi_si_a (by decide), gi_si_s]
      · rw [gi_si_a (by decide), gi_si_a (by decide), gi_si_a (by decide), p20]
      · rw [gi_si_a (by decide), gi_si_k hi, gi_si_a (by decide), p19]
      · rw [gi_si_a (by decide), gi_si_a (by decide), gi_si_a (by decide)]; exact (po i hi).1
      · rw [gi_si_k hi, gi_si_a (by decide), gi_si_a (by decide)]; exact (po i hi).2
    · have es : syA T n s = sgn (T s) := by unfold syA; rw [if_pos hs, if_neg cL, if_neg cD]
      have en : nmA T n s = 0 := by unfold nmA; rw [if_neg (fun z => cD z.2)]
      have eo : stop T n s = s + 1 := by unfold stop; rw [if_pos hs, if_neg cL, if_neg cD]
      rw [if_neg cD, if_pos rfl, q5, chk_in (by omega) (by decide), ix_nI (by omega), t2.2 s hs, c_sign (hT s hs), bI_ok, q6, chk_in hz (by decide), ix_nI (by omega), wr_eq, gi_si_a (show (18 : Nat) ≠ 19 by decide), q5, wr_eq, nI_p1, es, en, eo]
      refine ⟨_, rfl, (F2.wi (by decide)).wi (by decide), gi_si_s, ?_, ?_, ⟨?_, ?_, ?_⟩, fun i hi => ⟨?_, ?_, ?_⟩⟩
      · rw [gi_si_k (by decide), gi_si_a (by decide), p18]
      · rw [gi_si_k (by decide), gi_si_a (by decide)]; exact q6
      · rw [gi_si_a (by decide), gi_si_s]
      · rw [gi_si_a (by decide), gi_si_a (by decide), p20]
      · rw [gi_si_a (by decide), gi_si_a (by decide), p21]
        rfl
      · rw [gi_si_a (by decide), gi_si_k hi, p19]
      · rw [gi_si_a (by decide), gi_si_a (by decide)]; exact (po i hi).1
      · rw [gi_si_a (by decide), gi_si_a (by decide)]; exact (po i hi).2
/-- z tokens lie in the rows -/
def TkC (M : Mem) (T : Nat → Nat) (n z : Nat) : Prop := ∀ i, i < z → ps T n i < n ∧ gi M 19 i = nI (syA T n (ps T n i)) ∧ gi M 20 i = nI (ps T n i) ∧ gi M 21 i = nI (nmA T n (ps T n i))
theorem c_cut (hb : ∀ k, k < n → gi M 2 k = byC (T k)) (hn : n ≤ 700) (hT : ∀ k, k < n → T k < 256) : ∃ M' z, fX10_cut M (nI n) = okV M' ∧ Fr [18, 19, 20, 21] M M' ∧ gi M' 18 4 = nI n ∧ gi M' 18 6 = nI z ∧ TkC M' T n z ∧ ps T n z = n ∧ z ≤ n := by
  unfold fX10_cut
  rw [if_neg (ngtL 700 hn (by decide)), wr_eq, wr_eq, wr_eq]
  obtain ⟨M1, hM1⟩ : ∃ M1, M1 = si (si (si M 18 4 (nI n)) 18 5 0) 18 6 0 := ⟨_, rfl⟩
  rw [← hM1]
  have F1 : Fr [18, 19, 20, 21] M M1 := by rw [hM1]; exact ((Fr.rf.wi (by decide)).wi (by decide)).wi (by decide)
  have t1 : TxC M1 T n := ⟨by rw [hM1, gi_si_k (by decide), gi_si_k (by decide), gi_si_s], fun k hk => by rw [F1.i (by decide)]; exact hb k hk⟩
  have q5 : gi M1 18 5 = nI 0 := by rw [hM1, gi_si_k (by decide), gi_si_s]; rfl
  have q6 : gi M1 18 6 = nI 0 := by rw [hM1, gi_si_s]; rfl
  rw [c_skip hn hT t1 q5 (Nat.zero_le _), bV_ok]
  have key : ∀ d z, n - ps T n z ≤ d → z ≤ ps T n z → ∀ f, d < f → ∀ M2, Fr [18, 19, 20, 21] M M2 → TxC M2 T n → gi M2 18 5 = nI (ps T n z) → gi M2 18 6 = nI z → TkC M2 T n z → ∃ M' z', fX10_cut_b27 f M2 = okV M' ∧ Fr [18, 19, 20, 21] M M' ∧ gi M' 18 4 = nI n ∧ gi M' 18 6 = nI z' ∧ TkC M' T n z' ∧ ps T n z' = n ∧ z' ≤ n := by
    intro d
    induction d with
    | zero =>
      intro z hd hz f hf M2 F2 t2 h5 h6 k2
      obtain ⟨m, rfl⟩ : ∃ m, f = m + 1 := ⟨f - 1, by omega⟩
      have hp := ps_le (T := T) (n := n) z
      refine ⟨M2, z, ?_, F2, t2.1, h6, k2, by omega, by omega⟩
      rw [fX10_cut_b27]
      dsimp only
      rw [h5, t2.1, if_neg (nI_nlt (by omega) (by omega))]
    | succ d ih =>
      intro z hd hz f hf M2 F2 t2 h5 h6 k2
      obtain ⟨m, rfl⟩ : ∃ m, f = m + 1 := ⟨f - 1, by omega⟩
      have hp := ps_le (T := T) (n := n) z
      rw [fX10_cut_b27]
      dsimp only
      by_cases c : ps T n z < n
      · have hx := ps_next c
        obtain ⟨M3, e3, F3, a5, a4, a6, ⟨b1, b2, b3⟩, bo⟩ := c_cutOne t2 hn hT c h5 h6 (by omega)
        have t3 : TxC (si M3 18 6 (nI (z + 1))) T n := ⟨(gi_si_k (by decide)).trans (a4.trans t2.1), fun k hk => by rw [gi_si_a (by decide), F3.i (by decide)]; exact t2.2 k hk⟩
        have s5 : gi (si M3 18 6 (nI (z + 1))) 18 5 = nI (stop T n (ps T n z)) := (gi_si_k (by decide)).trans a5
        rw [h5, t2.1, if_pos (nI_lt c (by omega)), h6, if_pos (ltL 700 (by omega) (by decide)), e3, bV_ok, a6, wr_eq, nI_p1, c_skip hn hT t3 s5 (stop_in hp).2.1, bV_ok]
        refine ih (z + 1) (by omega) (by omega) m (by omega) _ (((F2.tr F3).wi (by decide)).wi (by decide)) (t3.w (by decide) (fun _ => by decide)) gi_si_s ?_ (fun i hi => ?_)
        · rw [gi_si_k (by decide), gi_si_s]
        · rw [gi_si_a (by decide), gi_si_a (by decide), gi_si_a (by decide), gi_si_a (by decide), gi_si_a (by decide), gi_si_a (by decide)]
          by_cases e : i = z
          · subst e; exact ⟨c, b1, b2, b3⟩
          · obtain ⟨o1, o2, o3⟩ := bo i e
            rw [o1, o2, o3]
            exact k2 i (by omega)
      · rw [h5, t2.1, if_neg (nI_nlt (by omega) (by omega))]
        exact ⟨M2, z, rfl, F2, t2.1, h6, k2, by omega, by omega⟩
  exact key n 0 (by omega) (by omega) FU (FU_gt (by omega)) _ (F1.wi (by decide)) (t1.w (by decide) (fun _ => by decide)) gi_si_s ((gi_si_k (by decide)).trans q6) (fun i hi => by omega)
end

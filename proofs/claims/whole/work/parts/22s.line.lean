-- ===== both sides read a line: a rule =====
section
variable {T : Nat → Nat} {n z D : Nat} {C0 R0 M Mc Mr : Mem} {j : Nat} {J : IS} {mx my : Nat} {b1 b3 : Bool}
def rlC (T : Nat → Nat) (n : Nat) (M : Mem) (j A nv : Nat) : Mem := si (sb (sb (movC T n M (j + 1)) 3 (ruB1 A)) 4 (ruB2 A)) 17 3 (nI nv)
def rlR (M : Mem) (x : Int32) (s : Nat) : Mem := sb (si M 87 26 x) 5 (vaB s)
def which4 (D A nv wi sa sv : Nat) (x : Int32) : Prop := (A = D + 8 ∧ nv = 5 ∧ wi = 14 ∧ sa = 98 ∧ sv = 88 ∧ x = 0) ∨ (A = D + 11 ∧ nv = 7 ∧ wi = 15 ∧ sa = 99 ∧ sv = 89 ∧ x = 1)
theorem ru_A {A : Nat} (h : A = 11 ∨ A = 14 ∨ A = 32 ∨ A = 35) : ruA (ruB1 A) (ruB2 A) = A := by rcases h with rfl | rfl | rfl | rfl <;> rfl
theorem gi_rlC {A nv a k : Nat} (ha : a ≠ 17) : gi (rlC T n M j A nv) a k = gi M a k := by
  unfold rlC
  rw [gi_si_a ha, gi_sb, gi_sb]
  exact movC_o ha
theorem rule_raw (X : LX T n z D C0 R0) {A nv wi sa sv : Nat} {x : Int32} (hw : which4 D A nv wi sa sv x) (hc : CL T n D C0 Mc j J mx my b1 b3) (hr : RLn T n R0 Mr (j + 1) J mx my) (hj : j < z) (h0 : gi Mc A 2 = 0) (h1 : gi Mr 90 wi = 0) :
    Out T n z nv A wi sa (rlC T n Mc j A nv) (rlR Mr x sv) 31 (j + 1) [] (fX5_readExpr FR (rlC T n Mc j A nv) 0) (fX12_readExpression FR (rlR Mr x sv) 0) := by
  have hD := X.2.2.2.1
  have hA : A = 11 ∨ A = 14 ∨ A = 32 ∨ A = 35 := by unfold which4 at hw; omega
  have hA2 : D ≤ A ∧ A ≤ D + 12 := by unfold which4 at hw; omega
  have tkM := (hc.1.tk X)
  have c1 := hc.mov X (j + 1)
  have txM := hr.1.tx X
  have gR : ∀ a k, ¬ (a = 87 ∧ k = 26) → gi (rlR Mr x sv) a k = gi Mr a k := fun a k h => by
    unfold rlR
    rw [gi_sb, gi_si, if_neg h]
  have ctx : Ctx T n z nv A wi sa (rlC T n Mc j A nv) (rlR Mr x sv) := by
    refine ⟨X.1, ⟨(gi_rlC (by decide)).trans tkM.1, (gi_rlC (by decide)).trans tkM.2.1, fun i hi => ?_, ?_, ?_, hA⟩, ⟨(gR 87 18 (by decide)).trans txM.1, fun k hk => (gR 101 k (by omega)).trans (txM.2 k hk)⟩, ?_, ?_⟩
    · rw [gi_rlC (by decide), gi_rlC (by decide), gi_rlC (by decide)]
      exact tkM.2.2 i hi
    · exact gi_si_s
    · exact ru_A hA
    · unfold rlR
      rcases hw with ⟨_, a, _, _, rfl, _⟩ | ⟨_, a, _, _, rfl, _⟩
      · exact Or.inl ⟨rfl, a⟩
      · exact Or.inr ⟨rfl, a⟩
    · have e26 : gi (rlR Mr x sv) 87 26 = x := by unfold rlR; rw [gi_sb, gi_si_s]
      rw [e26]
      rcases hw with ⟨_, _, a, b, _, c⟩ | ⟨_, _, a, b, _, c⟩
      · exact Or.inl ⟨c, a, b⟩
      · exact Or.inr ⟨c, a, b⟩
  have xc : ExC T n A (rlC T n Mc j A nv) (rlC T n Mc j A nv) (j + 1) [] := by
    refine ⟨Fr.rf, fun _ _ _ => rfl, ⟨?_, ?_, ?_⟩, ?_, fun i hi => ?_⟩
    · unfold rlC; rw [gi_si_k (by decide), gi_sb, gi_sb]; exact c1.2.2.1.1
    · unfold rlC; rw [gi_si_k (by decide), gi_sb, gi_sb]; exact c1.2.2.1.2.1
    · unfold rlC; rw [gi_si_k (by decide), gi_sb, gi_sb]; exact c1.2.2.1.2.2
    · rw [gi_rlC (by omega), h0]; rfl
    · exact absurd hi (Nat.not_lt_zero _)
  have xr : ExR T n wi sa (rlR Mr x sv) (rlR Mr x sv) (j + 1) [] := by
    refine ⟨⟨Fr.rf, fun _ _ => rfl, fun _ _ => rfl⟩, fun _ _ _ _ _ _ => rfl, ?_, ?_, fun i hi => ?_⟩
    · obtain ⟨⟨a1, a2, a3, a4, a5⟩, a6⟩ := hr.2.1
      exact ⟨⟨(gR 87 21 (by decide)).trans a1, (gR 87 17 (by decide)).trans a2, (gR 87 22 (by decide)).trans a3, (gR 87 19 (by decide)).trans a4, fun p q => (gR 87 20 (by decide)).trans (a5 p q)⟩, (gR 87 23 (by decide)).trans a6⟩
    · rw [gR 90 wi (by omega), h1]; rfl
    · exact absurd hi (Nat.not_lt_zero _)
  exact expr_both ctx FR 0 (by decide) (by decide) _ _ (j + 1) [] xc xr (by omega) (Nat.zero_le _)
/-- what follows for the island in the making -/
theorem rule_ok (X : LX T n z D C0 R0) {A nv wi sa sv : Nat} {x : Int32} (hw : which4 D A nv wi sa sv x) (hc : CL T n D C0 Mc j J mx my b1 b3) (hr : RLn T n R0 Mr (j + 1) J mx my) {Mc2 Mr2 : Mem} {j' : Nat} {S : List RSt} (xc : ExC T n A (rlC T n Mc j A nv) Mc2 j' S) (xr : ExR T n wi sa (rlR Mr x sv) Mr2 j' S) :
    (HC D C0 Mc2 ∧ gi Mc2 17 7 = -1 ∧ AtC T n Mc2 j' ∧ ∀ a k, D ≤ a → a ≤ D + 13 → a ≠ A → a ≠ A + 1 → gi Mc2 a k = gi Mc a k) ∧ (HR R0 Mr2 ∧ AtR T n Mr2 j' ∧ ∀ a k, 90 ≤ a → a ≤ 99 → a ≠ sa → ¬ (a = 90 ∧ k = wi) → gi Mr2 a k = gi Mr a k) := by
  have hD := X.2.2.2.1
  have hA2 : D ≤ A ∧ A ≤ D + 12 := by unfold which4 at hw; omega
  have hx : (wi = 14 ∨ wi = 15) ∧ (sa = 98 ∨ sa = 99) := by unfold which4 at hw; omega
  have gR : ∀ a k, ¬ (a = 87 ∧ k = 26) → gi (rlR Mr x sv) a k = gi Mr a k := fun a k h => by
    unfold rlR
    rw [gi_sb, gi_si, if_neg h]
  obtain ⟨F, h17, hat, _⟩ := xc
  obtain ⟨⟨G, G90, Gsa⟩, h87, atr, _⟩ := xr
  have bC : ∀ i, i ≠ 3 → i ≠ 4 → gb Mc2 i = gb Mc i := fun i h3 h4 => by
    rw [F.b i]
    show (if i = 4 then ruB2 A else if i = 3 then ruB1 A else gb (movC T n Mc (j + 1)) i) = gb Mc i
    rw [if_neg h4, if_neg h3]
    rfl
  refine ⟨⟨⟨fun a q1 q2 k => ?_, (bC 0 (by decide) (by decide)).trans hc.1.2.1, (bC 1 (by decide) (by decide)).trans hc.1.2.2.1, (bC 2 (by decide) (by decide)).trans hc.1.2.2.2⟩, ?_, hat, fun a k q1 q2 q3 q4 => ?_⟩, ⟨fun a q1 q2 k => ?_, ?_, fun i hi => ?_, fun a q1 q2 k hk => ?_, fun k a1 a2 a3 a4 a5 a6 a7 a8 => ?_⟩, atr, fun a k q1 q2 q3 q4 => ?_⟩
  · rw [F.i (nin q1 (by omega) (by omega)), gi_rlC q1]
    exact hc.1.1 a q1 q2 k
  · rw [h17 7 (by decide) (by decide)]
    unfold rlC
    rw [gi_si_k (by decide), gi_sb, gi_sb]
    exact (hc.mov X (j + 1)).2.1
  · rw [F.i (nin (by omega) q3 q4), gi_rlC (by omega)]
  · rw [G.i (by simp only [List.mem_cons, List.not_mem_nil, or_false]; omega), gR a k (by omega)]
    exact hr.1.1 a q1 q2 k
  · rw [G.l (by simp only [List.mem_cons, List.not_mem_nil, or_false]; omega)]
    exact hr.1.2.1
  · rw [G.b i]
    show (if i = 5 then vaB sv else gb Mr i) = gb R0 i
    rw [if_neg hi]
    exact hr.1.2.2.1 i hi
  · have hlow : low 90 = 8 := rfl
    by_cases c : a = 90
    · subst c
      rw [G90 k (by omega), gR 90 k (by omega)]
      exact hr.1.2.2.2.1 90 q1 q2 k hk
    · by_cases c2 : a = sa
      · have hk7 : k < 700 := by
          rcases hx.2 with e | e
          · rw [c2, e] at hk; exact hk
          · rw [c2, e] at hk; exact hk
        rw [c2, Gsa k hk7, gR sa k (by omega), ← c2]
        exact hr.1.2.2.2.1 a q1 q2 k hk
      · rw [G.i (by simp only [List.mem_cons, List.not_mem_nil, or_false]; omega), gR a k (by omega)]
        exact hr.1.2.2.2.1 a q1 q2 k hk
  · rw [h87 k a1 a2 a3 a4 a5, gR 87 k (by omega)]
    exact hr.1.2.2.2.2 k a1 a2 a3 a4 a5 a6 a7 a8
  · by_cases c : a = 90
    · subst c
      rw [G90 k (by omega), gR 90 k (by omega)]
    · rw [G.i (by simp only [List.mem_cons, List.not_mem_nil, or_false]; omega), gR a k (by omega)]
theorem rule_x (X : LX T n z D C0 R0) {A nv wi sa sv : Nat} {x : Int32} (hw : which4 D A nv wi sa sv x) (hc : CL T n D C0 Mc j J mx my b1 b3) (hr : RLn T n R0 Mr (j + 1) J mx my) {Mc2 Mr2 : Mem} {k p : Nat} (fc : FxC T n z A (rlC T n Mc j A nv) Mc2 k p) (fr : FxR wi sa (rlR Mr x sv) Mr2 k p) : CX T n z D C0 Mc2 k p ∧ RX R0 Mr2 k p ∧ 1 ≤ k ∧ k ≤ 5 := by
  have hD := X.2.2.2.1
  have hA2 : D ≤ A ∧ A ≤ D + 12 := by unfold which4 at hw; omega
  have hx : (wi = 14 ∨ wi = 15) ∧ (sa = 98 ∨ sa = 99) := by unfold which4 at hw; omega
  have gR : ∀ a k, ¬ (a = 87 ∧ k = 26) → gi (rlR Mr x sv) a k = gi Mr a k := fun a k h => by
    unfold rlR
    rw [gi_sb, gi_si, if_neg h]
  obtain ⟨F, ⟨f6, f7, hk⟩, _⟩ := fc
  obtain ⟨⟨G, G90, Gsa⟩, h87, r6, r7⟩ := fr
  have bC : ∀ i, i ≠ 3 → i ≠ 4 → gb Mc2 i = gb Mc i := fun i h3 h4 => by
    rw [F.b i]
    show (if i = 4 then ruB2 A else if i = 3 then ruB1 A else gb (movC T n Mc (j + 1)) i) = gb Mc i
    rw [if_neg h4, if_neg h3]
    rfl
  refine ⟨⟨⟨fun a q1 q2 k => ?_, (bC 0 (by decide) (by decide)).trans hc.1.2.1, (bC 1 (by decide) (by decide)).trans hc.1.2.2.1, (bC 2 (by decide) (by decide)).trans hc.1.2.2.2⟩, f6, f7⟩, ⟨⟨fun a q1 q2 k => ?_, ?_, fun i hi => ?_, fun a q1 q2 k hk => ?_, fun k a1 a2 a3 a4 a5 a6 a7 a8 => ?_⟩, r6, r7⟩, hk⟩
  · rw [F.i (nin q1 (by omega) (by omega)), gi_rlC q1]
    exact hc.1.1 a q1 q2 k
  · rw [G.i (by simp only [List.mem_cons, List.not_mem_nil, or_false]; omega), gR a k (by omega)]
    exact hr.1.1 a q1 q2 k
  · rw [G.l (by simp only [List.mem_cons, List.not_mem_nil, or_false]; omega)]
    exact hr.1.2.1
  · rw [G.b i]
    show (if i = 5 then vaB sv else gb Mr i) = gb R0 i
    rw [if_neg hi]
    exact hr.1.2.2.1 i hi
  · have hlow : low 90 = 8 := rfl
    by_cases c : a = 90
    · subst c
      rw [G90 k (by omega), gR 90 k (by omega)]
      exact hr.1.2.2.2.1 90 q1 q2 k hk
    · by_cases c2 : a = sa
      · have hk7 : k < 700 := by
          rcases hx.2 with e | e
          · rw [c2, e] at hk; exact hk
          · rw [c2, e] at hk; exact hk
        rw [c2, Gsa k hk7, gR sa k (by omega), ← c2]
        exact hr.1.2.2.2.1 a q1 q2 k hk
      · rw [G.i (by simp only [List.mem_cons, List.not_mem_nil, or_false]; omega), gR a k (by omega)]
        exact hr.1.2.2.2.1 a q1 q2 k hk
  · rw [h87 k a1 a2 a3 a4 a5 a6 a7, gR 87 k (by omega)]
    exact hr.1.2.2.2.2 k a1 a2 a3 a4 a5 a6 a7 a8
theorem c_rule (X : LX T n z D C0 R0) {A nv : Nat} {x2 : Int32} (hx : x2 = nI nv) (hc : CL T n D C0 Mc j J mx my b1 b3) (hj : j < z) (h0 : gi Mc A 2 = 0) : fX5_readRule A Mc x2 = bV (fX5_readExpr FR (rlC T n Mc j A nv) 0) (fun M7 => some (M7, .inr none)) := by
  unfold fX5_readRule fX6_isTold
  rw [h0, if_neg (show ¬ (0 : Int32) < 0 by decide), bI_ok, if_pos rfl, advC (hc.1.tk X) X.1 hc.2.2.1 hj, bV_ok, wr_eq, wr_eq, hx]
  rfl
theorem worth_both (X : LX T n z D C0 R0) (hc : CL T n D C0 Mc j J mx my b1 b3) (hr : RLn T n R0 Mr (j + 1) J mx my) (hj : j < z) (hJ : JOk J) (hW : iW J = []) (Kc Kr : Mem → RS) :
    LOut T n z D C0 R0 j (fl (setWl J [(0, 0)]) b1 b3) Kc Kr (bV (fX5_readRule (D + 8) Mc 5) Kc) (bV (fX12_sayRule Mr 0) Kr) := by
  have h7 : z ≤ 700 := by have := X.1.1; have := X.1.2.2.1; omega
  have hw : which4 D (D + 8) 5 14 98 88 0 := Or.inl ⟨rfl, rfl, rfl, rfl, rfl, rfl⟩
  have h0 : gi Mc (D + 8) 2 = 0 := by rw [hc.2.2.2.1.2.2.2.2.1.1, hW]; rfl
  have h1 : gi Mr 90 14 = 0 := by rw [hr.2.2.1.2.2.2.2.2.2.1, hW]; rfl
  have er : fX12_sayRule Mr 0 = bV (fX12_readExpression FR (rlR Mr 0 88) 0) (fun M3 => some (M3, .inr none)) := by
    unfold fX12_sayRule fX12_sayRule_b21
    rw [chk_tt (by decide), wr_eq, if_pos rfl, wr_eq]
    rfl
  rw [c_rule X (nv := 5) (x2 := 5) rfl hc hj h0, er]
  rcases rule_raw X hw hc hr hj h0 h1 with ⟨Mc2, Mr2, j', S, e1, e2, x1, x2, q1, q2, q3, q4⟩ | ⟨Mc2, Mr2, k, p, e1, e2, f1, f2⟩
  · rw [List.nil_append] at x1 x2
    obtain ⟨⟨a1, a2, a3, a4⟩, a5, a6, a7⟩ := rule_ok X hw hc hr x1 x2
    obtain ⟨⟨i1, i2, i3, i4⟩, r1, r2, r3, ⟨r4, r5⟩, r6, r7⟩ := hc.2.2.2.1
    obtain ⟨m1, m2, m3, m4⟩ := hc.2.2.2.2
    obtain ⟨⟨s1, s2, s3, s4, s5, s6, s7, s8⟩, t1, t2, t3, t4, t5⟩ := hr.2.2
    have hne := q4.ne (Nat.le_refl 31)
    rw [e1, bV_ok, bV_ok, e2, bV_ok, bV_ok]
    refine Or.inl ⟨Mc2, Mr2, j', setWl J S, mx, my, b1, b3, rfl, rfl, ⟨a1, a2, a3, ⟨⟨?_, ?_, ?_, ?_⟩, fun i hi => ?_, fun i hi => ?_, fun i hi => ?_, x1.2.2.2, ?_, fun i hi => ?_⟩, ?_, ?_, ?_, ?_⟩, ⟨a5, a6, ⟨?_, ?_, ?_, ?_, ?_, ?_, x2.2.2.2.1, ?_⟩, fun i hi => ?_, fun i hi => ?_, fun i hi => ?_, x2.2.2.2.2, fun i hi => ?_⟩, by omega, q2, hJ.W (by omega) q4.wf, ?_⟩
    · rw [a4 D 9 (by omega) (by omega) (by omega) (by omega)]; exact i1
    · rw [a4 D 10 (by omega) (by omega) (by omega) (by omega)]; exact i2
    · rw [a4 D 11 (by omega) (by omega) (by omega) (by omega)]; exact i3
    · rw [a4 D 14 (by omega) (by omega) (by omega) (by omega)]; exact i4
    · rw [a4 (D + 1) i (by omega) (by omega) (by omega) (by omega), a4 (D + 2) i (by omega) (by omega) (by omega) (by omega), a4 (D + 3) i (by omega) (by omega) (by omega) (by omega)]; exact r1 i hi
    · rw [a4 (D + 4) i (by omega) (by omega) (by omega) (by omega), a4 (D + 5) i (by omega) (by omega) (by omega) (by omega), a4 (D + 6) i (by omega) (by omega) (by omega) (by omega)]; exact r2 i hi
    · rw [a4 (D + 7) i (by omega) (by omega) (by omega) (by omega)]; exact r3 i hi
    · rw [a4 (D + 11) 2 (by omega) (by omega) (by omega) (by omega)]; exact r6
    · rw [a4 (D + 11 + 1) i (by omega) (by omega) (by omega) (by omega)]; exact r7 i hi
    · rw [a4 D 12 (by omega) (by omega) (by omega) (by omega)]; exact m1
    · rw [a4 D 13 (by omega) (by omega) (by omega) (by omega)]; exact m2
    · rw [a4 D 15 (by omega) (by omega) (by omega) (by omega)]; exact m3
    · rw [a4 D 16 (by omega) (by omega) (by omega) (by omega)]; exact m4
    · rw [a7 90 8 (by decide) (by decide) (by decide) (by decide)]; exact s1
    · rw [a7 90 9 (by decide) (by decide) (by decide) (by decide)]; exact s2
    · rw [a7 90 10 (by decide) (by decide) (by decide) (by decide)]; exact s3
    · rw [a7 90 11 (by decide) (by decide) (by decide) (by decide)]; exact s4
    · rw [a7 90 12 (by decide) (by decide) (by decide) (by decide)]; exact s5
    · rw [a7 90 13 (by decide) (by decide) (by decide) (by decide)]; exact s6
    · rw [a7 90 15 (by decide) (by decide) (by decide) (by decide)]; exact s8
    · rw [a7 91 _ (by decide) (by decide) (by decide) (by omega), a7 92 _ (by decide) (by decide) (by decide) (by omega), a7 93 _ (by decide) (by decide) (by decide) (by omega)]; exact t1 i hi
    · rw [a7 94 _ (by decide) (by decide) (by decide) (by omega), a7 95 _ (by decide) (by decide) (by decide) (by omega), a7 96 _ (by decide) (by decide) (by decide) (by omega)]; exact t2 i hi
    · rw [a7 97 _ (by decide) (by decide) (by decide) (by omega)]; exact t3 i hi
    · rw [a7 99 _ (by decide) (by decide) (by decide) (by omega)]; exact t5 i hi
    · unfold fl
      have e3 : iW (setWl J S) = S := rfl
      have e4 : iW (setWl J [(0, 0)]) = [(0, 0)] := rfl
      rw [e3, e4, decide_eq_true hne]
      rfl
  · obtain ⟨a1, a2, a3⟩ := rule_x X hw hc hr f1 f2
    rw [e1, bV_ok, bV_ok, e2, bV_ok, bV_ok]
    exact Or.inr ⟨Mc2, Mr2, k, p, rfl, rfl, a1, a2, a3⟩
theorem yields_both (X : LX T n z D C0 R0) (hc : CL T n D C0 Mc j J mx my b1 b3) (hr : RLn T n R0 Mr (j + 1) J mx my) (hj : j < z) (hJ : JOk J) (hY : iY J = []) (Kc Kr : Mem → RS) :
    LOut T n z D C0 R0 j (fl (setYl J [(0, 0)]) b1 b3) Kc Kr (bV (fX5_readRule (D + 11) Mc 7) Kc) (bV (fX12_sayRule Mr 1) Kr) := by
  have h7 : z ≤ 700 := by have := X.1.1; have := X.1.2.2.1; omega
  have hw : which4 D (D + 11) 7 15 99 89 1 := Or.inr ⟨rfl, rfl, rfl, rfl, rfl, rfl⟩
  have h0 : gi Mc (D + 11) 2 = 0 := by rw [hc.2.2.2.1.2.2.2.2.2.1, hY]; rfl
  have h1 : gi Mr 90 15 = 0 := by rw [hr.2.2.1.2.2.2.2.2.2.2, hY]; rfl
  have er : fX12_sayRule Mr 1 = bV (fX12_readExpression FR (rlR Mr 1 89) 0) (fun M3 => some (M3, .inr none)) := by
    unfold fX12_sayRule fX12_sayRule_b21
    rw [chk_tt (by decide), wr_eq, if_neg n10, wr_eq]
    rfl
  rw [c_rule X (nv := 7) (x2 := 7) rfl hc hj h0, er]
  rcases rule_raw X hw hc hr hj h0 h1 with ⟨Mc2, Mr2, j', S, e1, e2, x1, x2, q1, q2, q3, q4⟩ | ⟨Mc2, Mr2, k, p, e1, e2, f1, f2⟩
  · rw [List.nil_append] at x1 x2
    obtain ⟨⟨a1, a2, a3, a4⟩, a5, a6, a7⟩ := rule_ok X hw hc hr x1 x2
    obtain ⟨⟨i1, i2, i3, i4⟩, r1, r2, r3, ⟨r4, r5⟩, r6, r7⟩ := hc.2.2.2.1
    obtain ⟨m1, m2, m3, m4⟩ := hc.2.2.2.2
    obtain ⟨⟨s1, s2, s3, s4, s5, s6, s7, s8⟩, t1, t2, t3, t4, t5⟩ := hr.2.2
    have hne := q4.ne (Nat.le_refl 31)
    rw [e1, bV_ok, bV_ok, e2, bV_ok, bV_ok]
    refine Or.inl ⟨Mc2, Mr2, j', setYl J S, mx, my, b1, b3, rfl, rfl, ⟨a1, a2, a3, ⟨⟨?_, ?_, ?_, ?_⟩, fun i hi => ?_, fun i hi => ?_, fun i hi => ?_, ⟨?_, fun i hi => ?_⟩, x1.2.2.2⟩, ?_, ?_, ?_, ?_⟩, ⟨a5, a6, ⟨?_, ?_, ?_, ?_, ?_, ?_, ?_, x2.2.2.2.1⟩, fun i hi => ?_, fun i hi => ?_, fun i hi => ?_, fun i hi => ?_, x2.2.2.2.2⟩, by omega, q2, hJ.Y (by omega) q4.wf, ?_⟩
    · rw [a4 D 9 (by omega) (by omega) (by omega) (by omega)]; exact i1
    · rw [a4 D 10 (by omega) (by omega) (by omega) (by omega)]; exact i2
    · rw [a4 D 11 (by omega) (by omega) (by omega) (by omega)]; exact i3
    · rw [a4 D 14 (by omega) (by omega) (by omega) (by omega)]; exact i4
    · rw [a4 (D + 1) i (by omega) (by omega) (by omega) (by omega), a4 (D + 2) i (by omega) (by omega) (by omega) (by omega), a4 (D + 3) i (by omega) (by omega) (by omega) (by omega)]; exact r1 i hi
    · rw [a4 (D + 4) i (by omega) (by omega) (by omega) (by omega), a4 (D + 5) i (by omega) (by omega) (by omega) (by omega), a4 (D + 6) i (by omega) (by omega) (by omega) (by omega)]; exact r2 i hi
    · rw [a4 (D + 7) i (by omega) (by omega) (by omega) (by omega)]; exact r3 i hi
    · rw [a4 (D + 8) 2 (by omega) (by omega) (by omega) (by omega)]; exact r4
    · rw [a4 (D + 8 + 1) i (by omega) (by omega) (by omega) (by omega)]; exact r5 i hi
    · rw [a4 D 12 (by omega) (by omega) (by omega) (by omega)]; exact m1
    · rw [a4 D 13 (by omega) (by omega) (by omega) (by omega)]; exact m2
    · rw [a4 D 15 (by omega) (by omega) (by omega) (by omega)]; exact m3
    · rw [a4 D 16 (by omega) (by omega) (by omega) (by omega)]; exact m4
    · rw [a7 90 8 (by decide) (by decide) (by decide) (by decide)]; exact s1
    · rw [a7 90 9 (by decide) (by decide) (by decide) (by decide)]; exact s2
    · rw [a7 90 10 (by decide) (by decide) (by decide) (by decide)]; exact s3
    · rw [a7 90 11 (by decide) (by decide) (by decide) (by decide)]; exact s4
    · rw [a7 90 12 (by decide) (by decide) (by decide) (by decide)]; exact s5
    · rw [a7 90 13 (by decide) (by decide) (by decide) (by decide)]; exact s6
    · rw [a7 90 14 (by decide) (by decide) (by decide) (by decide)]; exact s7
    · rw [a7 91 _ (by decide) (by decide) (by decide) (by omega), a7 92 _ (by decide) (by decide) (by decide) (by omega), a7 93 _ (by decide) (by decide) (by decide) (by omega)]; exact t1 i hi
    · rw [a7 94 _ (by decide) (by decide) (by decide) (by omega), a7 95 _ (by decide) (by decide) (by decide) (by omega), a7 96 _ (by decide) (by decide) (by decide) (by omega)]; exact t2 i hi
    · rw [a7 97 _ (by decide) (by decide) (by decide) (by omega)]; exact t3 i hi
    · rw [a7 98 _ (by decide) (by decide) (by decide) (by omega)]; exact t4 i hi
    · unfold fl
      have e3 : iY (setYl J S) = S := rfl
      have e4 : iY (setYl J [(0, 0)]) = [(0, 0)] := rfl
      rw [e3, e4, decide_eq_true hne]
      rfl
  · obtain ⟨a1, a2, a3⟩ := rule_x X hw hc hr f1 f2
    rw [e1, bV_ok, bV_ok, e2, bV_ok, bV_ok]
    exact Or.inr ⟨Mc2, Mr2, k, p, rfl, rfl, a1, a2, a3⟩
end

-- ===== both sides read a rule: single moves =====
theorem getD_snoc {L : List RSt} {c : RSt} {i : Nat} (hi : i < (L ++ [c]).length) : (L ++ [c]).getD i (0, 0) = if i < L.length then L.getD i (0, 0) else c := by
  rw [List.length_append] at hi
  have hi : i < L.length + 1 := hi
  by_cases h : i < L.length
  · rw [if_pos h, List.getD_eq_getElem?_getD, List.getD_eq_getElem?_getD, List.getElem?_append_left h]
  · rw [if_neg h, List.getD_eq_getElem?_getD, List.getElem?_append_right (by omega), show i - L.length = 0 by omega]
    rfl
section
variable {T : Nat → Nat} {n z nv A wi sa : Nat} {C0 R0 : Mem} {M : Mem} {j k p : Nat} {L : List RSt} {c : RSt}
theorem ExC.ru (X : Ctx T n z nv A wi sa C0 R0) (h : ExC T n A C0 M j L) : ruA (gb M 3) (gb M 4) = A := by
  rw [h.1.b, h.1.b]; exact X.2.1.2.2.2.2.1
theorem FxC.ru (X : Ctx T n z nv A wi sa C0 R0) (h : FxC T n z A C0 M k p) : ruA (gb M 3) (gb M 4) = A := by
  rw [h.1.b, h.1.b]; exact X.2.1.2.2.2.2.1
theorem nIk0 {k : Nat} (h : 1 ≤ k) (h2 : k < 2 ^ 31) : nI k ≠ 0 := neL 0 (by omega) h2 (by decide)
theorem FxC.f (h : FxC T n z A C0 M k p) : gi M 17 6 ≠ 0 := by rw [h.2.1.1]; exact nIk0 h.2.1.2.2.1 (by have := h.2.1.2.2.2; omega)
theorem FxR.f (h : FxR wi sa R0 M k p) (hk : 1 ≤ k ∧ k ≤ 5) : gi M 87 23 ≠ 0 := by rw [h.2.2.1]; exact nIk0 hk.1 (by omega)
theorem c_advE (X : Ctx T n z nv A wi sa C0 R0) (h : ExC T n A C0 M j L) (hj : j < z) : ∃ M', fX5_advance M = okV M' ∧ ExC T n A C0 M' (j + 1) L := by
  obtain ⟨t4, t6, tk⟩ := X.tk h.1
  have hz := X.1.2.2
  have hA := X.2.1.2.2.2.2.2
  obtain ⟨h1, h2, ⟨a1, a2, a3⟩, b1, b2⟩ := h
  refine ⟨_, c_adv t6 tk hz.2 (by have := X.1.1; omega) hj a1, (h1.wi in0).wi in0, fun k k4 k5 => ?_, ⟨?_, gi_si_s, ?_⟩, ?_, fun i hi => ?_⟩
  · rw [gi_si_k k5, gi_si_k k4]; exact h2 k k4 k5
  · rw [gi_si_k (by decide), gi_si_s]
  · rw [gi_si_k (by decide), gi_si_k (by decide)]; exact a3
  · rw [gi_si_a (by omega), gi_si_a (by omega)]; exact b1
  · rw [gi_si_a (by omega), gi_si_a (by omega)]; exact b2 i hi
theorem c_refE (X : Ctx T n z nv A wi sa C0 R0) (h : ExC T n A C0 M j L) (hj : j ≤ z) (hL : L.length ≤ 700) (hk : 1 ≤ k ∧ k ≤ 5) {K : Int32} (hK : K = nI k) : ∃ M', fX5_refuseAs M K = okV M' ∧ FxC T n z A C0 M' k (ps T n j) := by
  have hA := X.2.1.2.2.2.2.2
  obtain ⟨h1, h2, ⟨a1, a2, a3⟩, b1, b2⟩ := h
  refine ⟨_, c_ref a3 K, h1.wi in0, ⟨?_, ⟨j, hj, ?_, rfl⟩, hk.1, hk.2⟩, L.length, hL, ?_⟩
  · rw [gi_si_s, hK]
  · rw [gi_si_k (by decide)]; exact a1
  · rw [gi_si_a (by omega)]; exact b1
theorem c_addE (X : Ctx T n z nv A wi sa C0 R0) (h : ExC T n A C0 M j L) (hL : L.length < 700) {v : Int32} (hv : v = encC c) : ∃ M', fX6_add A M v = okV M' ∧ ExC T n A C0 M' j (L ++ [c]) := by
  have hA := X.2.1.2.2.2.2.2
  obtain ⟨h1, h2, ⟨a1, a2, a3⟩, b1, b2⟩ := h
  unfold fX6_add
  rw [b1, if_pos (ltL 700 hL (by decide)), chk_in hL (by decide), ix_nI (by omega), wr_eq, gi_si_a (show A ≠ A + 1 by omega), b1, wr_eq, nI_p1]
  refine ⟨_, rfl, (h1.wi in2).wi in1, fun k k4 k5 => ?_, ⟨?_, ?_, ?_⟩, ?_, fun i hi => ?_⟩
  · rw [gi_si_a (by omega), gi_si_a (by omega)]; exact h2 k k4 k5
  · rw [gi_si_a (by omega), gi_si_a (by omega)]; exact a1
  · rw [gi_si_a (by omega), gi_si_a (by omega)]; exact a2
  · rw [gi_si_a (by omega), gi_si_a (by omega)]; exact a3
  · rw [gi_si_s, List.length_append]; rfl
  · rw [gi_si_a (by omega), getD_snoc hi]
    have hi : i < L.length + 1 := by rw [List.length_append] at hi; exact hi
    by_cases e : i < L.length
    · rw [if_pos e, gi_si_k (by omega)]; exact b2 i e
    · rw [if_neg e, show i = L.length by omega, gi_si_s, hv]
theorem c_addF (X : Ctx T n z nv A wi sa C0 R0) (h : FxC T n z A C0 M k p) (v : Int32) : ∃ M', fX6_add A M v = okV M' ∧ FxC T n z A C0 M' k p := by
  have hA := X.2.1.2.2.2.2.2
  have hh := h
  obtain ⟨h1, ⟨a1, ⟨j, hj, a4, a5⟩, a3⟩, l, hl, b1⟩ := h
  unfold fX6_add
  by_cases c : l < 700
  · rw [b1, if_pos (ltL 700 c (by decide)), chk_in c (by decide), ix_nI (by omega), wr_eq, gi_si_a (show A ≠ A + 1 by omega), b1, wr_eq, nI_p1]
    refine ⟨_, rfl, (h1.wi in2).wi in1, ⟨?_, ⟨j, hj, ?_, a5⟩, a3⟩, l + 1, by omega, gi_si_s⟩
    · rw [gi_si_a (by omega), gi_si_a (by omega)]; exact a1
    · rw [gi_si_a (by omega), gi_si_a (by omega)]; exact a4
  · rw [b1, if_neg (nltL 700 (by omega) (by omega))]
    exact ⟨M, rfl, hh⟩
theorem Ctx.rx (X : Ctx T n z nv A wi sa C0 R0) : (wi = 14 ∨ wi = 15) ∧ (sa = 98 ∨ sa = 99) := by
  rcases X.2.2.2.2 with ⟨_, a, b⟩ | ⟨_, a, b⟩
  · exact ⟨Or.inl a, Or.inl b⟩
  · exact ⟨Or.inr a, Or.inr b⟩
theorem FrL.w (hs : FrL wi sa R0 M) (hx : sa = 98 ∨ sa = 99) {k : Nat} {v : Int32} : FrL wi sa R0 (si M 87 k v) := ⟨hs.1.wi List.mem_cons_self, fun j hj => by rw [gi_si_a (by decide)]; exact hs.2.1 j hj, fun j hj => by rw [gi_si_a (by omega)]; exact hs.2.2 j hj⟩
theorem FrL.kr {M' : Mem} (hs : FrL wi sa R0 M) (hx : sa = 98 ∨ sa = 99) (K : KR M M') : FrL wi sa R0 M' := by
  refine ⟨hs.1.tr (K.1.mono (fun a ha => by rw [List.mem_singleton.mp ha]; exact List.mem_cons_self)), fun j hj => ?_, fun j hj => ?_⟩
  · rw [K.1.i (by decide)]; exact hs.2.1 j hj
  · rw [K.1.i (by rw [List.mem_singleton]; omega)]; exact hs.2.2 j hj
theorem FrL.tx (X : Ctx T n z nv A wi sa C0 R0) (hs : FrL wi sa R0 M) (h18 : gi M 87 18 = gi R0 87 18) : TxR M T n := by
  obtain ⟨_, hx⟩ := X.rx
  refine ⟨h18.trans X.2.2.1.1, fun k hk => ?_⟩
  rw [hs.1.i (by simp only [List.mem_cons, List.not_mem_nil, or_false]; omega)]
  exact X.2.2.1.2 k hk
theorem ExR.tx (X : Ctx T n z nv A wi sa C0 R0) (h : ExR T n wi sa R0 M j L) : TxR M T n := h.1.tx X (h.2.1 18 (by decide) (by decide) (by decide) (by decide) (by decide))
theorem RlR.kr {M' : Mem} (h : RlR wi sa M L) (hx : sa = 98 ∨ sa = 99) (F : Fr [87] M M') : RlR wi sa M' L := ⟨(F.i (by decide) _).trans h.1, fun i hi => (F.i (by rw [List.mem_singleton]; omega) _).trans (h.2 i hi)⟩
theorem r_advE (X : Ctx T n z nv A wi sa C0 R0) (h : ExR T n wi sa R0 M j L) : ∃ M', fX12_stepOn M = okV M' ∧ ExR T n wi sa R0 M' (j + 1) L := by
  have tx := h.tx X
  obtain ⟨_, hx⟩ := X.rx
  obtain ⟨h1, h2, ⟨⟨a1, a2, a3, a4, a5⟩, a6⟩, b⟩ := h
  obtain ⟨M', e, K, t⟩ := r_step X.1.1 X.1.2.1 (stop_in (ps_le j)).2.1 tx a2
  refine ⟨M', e, h1.kr hx K, fun k q1 q2 q3 q4 q5 => (K.2 k q1 q2 q3 q4 q5).trans (h2 k q1 q2 q3 q4 q5), ⟨t, ?_⟩, b.kr hx K.1⟩
  exact (K.2 23 (by decide) (by decide) (by decide) (by decide) (by decide)).trans a6
theorem r_wrE (X : Ctx T n z nv A wi sa C0 R0) (h : ExR T n wi sa R0 M j L) {K : Int32} (hK : K = nI k) : ∃ M', fX12_wrong M K = okV M' ∧ FxR wi sa R0 M' k (ps T n j) := by
  obtain ⟨_, hx⟩ := X.rx
  obtain ⟨h1, h2, ⟨⟨a1, a2, a3, a4, a5⟩, a6⟩, b⟩ := h
  refine ⟨_, r_wr a6 K, (h1.w hx).w hx, fun k q1 q2 q3 q4 q5 q6 q7 => ?_, ?_, ?_⟩
  · rw [gi_si_k q7, gi_si_k q6]; exact h2 k q1 q2 q3 q4 q5
  · rw [gi_si_k (by decide), gi_si_s, hK]
  · rw [gi_si_s, a1]
theorem r_layE (X : Ctx T n z nv A wi sa C0 R0) (h : ExR T n wi sa R0 M j L) (hL : L.length < 700) {v : Int32} (hv : v = encR c) : ∃ M', fX12_lay M v = okV M' ∧ ExR T n wi sa R0 M' j (L ++ [c]) := by
  obtain ⟨hw, hx⟩ := X.rx
  have X2 := X.2.2.2.2
  obtain ⟨h1, h2, ⟨⟨a1, a2, a3, a4, a5⟩, a6⟩, b1, b2⟩ := h
  have h26 := h2 26 (by decide) (by decide) (by decide) (by decide) (by decide)
  have core : fX12_lay_b44 M v (nI wi) sa = okV (si (si M sa (700 + L.length) v) 90 wi (nI (L.length + 1))) := by
    unfold fX12_lay_b44
    rw [chk_in (by omega) (by decide), ix_nI (by omega), b1, show (700 : Int32) + nI L.length = nI (700 + L.length) from nadd 700 _, chk_in (by omega) (by decide), ix_nI (by omega), wr_eq, chk_in (by omega) (by decide), chk_in (by omega) (by decide), gi_si_a (show (90 : Nat) ≠ sa by omega), b1, nI_p1, wr_eq]
  have e : fX12_lay M v = okV (si (si M sa (700 + L.length) v) 90 wi (nI (L.length + 1))) := by
    unfold fX12_lay fX12_lay_b24
    rw [if_pos a6, h26]
    rcases X2 with ⟨q, rfl, rfl⟩ | ⟨q, rfl, rfl⟩
    · rw [q, if_pos rfl, if_pos rfl]
      exact core
    · rw [q, if_neg n10, if_neg n10]
      exact core
  have m1 : sa ∈ [87, 90, sa] := List.mem_cons_of_mem _ (List.mem_cons_of_mem _ List.mem_cons_self)
  have m2 : 90 ∈ [87, 90, sa] := List.mem_cons_of_mem _ List.mem_cons_self
  refine ⟨_, e, ⟨(h1.1.wi m1).wi m2, fun k hk => ?_, fun k hk => ?_⟩, fun k q1 q2 q3 q4 q5 => ?_, ⟨⟨?_, ?_, ?_, ?_, fun x y => ?_⟩, ?_⟩, ?_, fun i hi => ?_⟩
  · rw [gi_si_k hk, gi_si_a (by omega)]; exact h1.2.1 k hk
  · rw [gi_si_a (by omega), gi_si_k (by omega)]; exact h1.2.2 k hk
  · rw [gi_si_a (by decide), gi_si_a (by omega)]; exact h2 k q1 q2 q3 q4 q5
  · rw [gi_si_a (by decide), gi_si_a (by omega)]; exact a1
  · rw [gi_si_a (by decide), gi_si_a (by omega)]; exact a2
  · rw [gi_si_a (by decide), gi_si_a (by omega)]; exact a3
  · rw [gi_si_a (by decide), gi_si_a (by omega)]; exact a4
  · rw [gi_si_a (by decide), gi_si_a (by omega)]; exact a5 x y
  · rw [gi_si_a (by decide), gi_si_a (by omega)]; exact a6
  · rw [gi_si_s, List.length_append]; rfl
  · rw [gi_si_a (by omega), getD_snoc hi]
    have hi : i < L.length + 1 := by rw [List.length_append] at hi; exact hi
    by_cases e : i < L.length
    · rw [if_pos e, gi_si_k (by omega)]; exact b2 i e
    · rw [if_neg e, show i = L.length by omega, gi_si_s, hv]
theorem r_layF (h0 : gi M 87 23 ≠ 0) (v : Int32) : fX12_lay M v = okV M := by
  unfold fX12_lay
  rw [if_neg h0]
end

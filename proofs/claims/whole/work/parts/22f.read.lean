-- ===== both sides read a rule: where they stand =====
section
variable (T : Nat → Nat) (n z nv A wi sa : Nat) (C0 R0 : Mem)
def Ctx : Prop :=
  (n ≤ 700 ∧ (∀ k, k < n → T k < 256) ∧ z ≤ n ∧ ps T n z = n) ∧
  (gi C0 18 4 = nI n ∧ gi C0 18 6 = nI z ∧ TkC C0 T n z ∧ gi C0 17 3 = nI nv ∧ ruA (gb C0 3) (gb C0 4) = A ∧ (A = 11 ∨ A = 14 ∨ A = 32 ∨ A = 35)) ∧
  (TxR R0 T n ∧ (vaA (gb R0 5) = 88 ∧ nv = 5 ∨ vaA (gb R0 5) = 89 ∧ nv = 7) ∧ (gi R0 87 26 = 0 ∧ wi = 14 ∧ sa = 98 ∨ gi R0 87 26 = 1 ∧ wi = 15 ∧ sa = 99))
def RlC (M : Mem) (L : List RSt) : Prop := gi M A 2 = nI L.length ∧ ∀ i, i < L.length → gi M (A + 1) i = encC (L.getD i (0, 0))
def RlR (M : Mem) (L : List RSt) : Prop := gi M 90 wi = nI L.length ∧ ∀ i, i < L.length → gi M sa (700 + i) = encR (L.getD i (0, 0))
def AtC (M : Mem) (j : Nat) : Prop := gi M 17 4 = nI j ∧ gi M 17 5 = nI (syA T n (ps T n j)) ∧ gi M 17 6 = 0
def ExC (M : Mem) (j : Nat) (L : List RSt) : Prop := Fr [17, A, A + 1] C0 M ∧ (∀ k, k ≠ 4 → k ≠ 5 → gi M 17 k = gi C0 17 k) ∧ AtC T n M j ∧ RlC A M L
/-- the token at hand begins at p -/
def StC (M : Mem) (p : Nat) : Prop := ∃ j, j ≤ z ∧ gi M 17 4 = nI j ∧ ps T n j = p
def FxC (M : Mem) (k p : Nat) : Prop := Fr [17, A, A + 1] C0 M ∧ (gi M 17 6 = nI k ∧ StC T n z M p ∧ 1 ≤ k ∧ k ≤ 5) ∧ ∃ l, l ≤ 700 ∧ gi M A 2 = nI l
def AtR (M : Mem) (j : Nat) : Prop := TkR M T n (ps T n j) ∧ gi M 87 23 = 0
/-- the reference's cells beside the token's and the rule's stand -/
def FrL (M : Mem) : Prop := Fr [87, 90, sa] R0 M ∧ (∀ k, k ≠ wi → gi M 90 k = gi R0 90 k) ∧ ∀ k, k < 700 → gi M sa k = gi R0 sa k
def ExR (M : Mem) (j : Nat) (L : List RSt) : Prop := FrL wi sa R0 M ∧ (∀ k, k ≠ 17 → k ≠ 19 → k ≠ 20 → k ≠ 21 → k ≠ 22 → gi M 87 k = gi R0 87 k) ∧ AtR T n M j ∧ RlR wi sa M L
def FxR (M : Mem) (k p : Nat) : Prop := FrL wi sa R0 M ∧ (∀ k, k ≠ 17 → k ≠ 19 → k ≠ 20 → k ≠ 21 → k ≠ 22 → k ≠ 23 → k ≠ 24 → gi M 87 k = gi R0 87 k) ∧ gi M 87 23 = nI k ∧ gi M 87 24 = nI p
/-- steps that put one value on a stack, with at most m places -/
def Gd (m : Nat) (S : List RSt) : Prop := ∀ d rest, d + m ≤ 31 → wfs nv rest (d + 1) = true → wfs nv (S ++ rest) d = true
def Out (m j : Nat) (L : List RSt) (cr rr : RS) : Prop :=
  (∃ Mc Mr j' S, cr = okV Mc ∧ rr = okV Mr ∧ ExC T n A C0 Mc j' (L ++ S) ∧ ExR T n wi sa R0 Mr j' (L ++ S) ∧ j < j' ∧ j' ≤ z ∧ S.length + j ≤ j' ∧ Gd nv m S) ∨
  ∃ Mc Mr k p, cr = okV Mc ∧ rr = okV Mr ∧ FxC T n z A C0 Mc k p ∧ FxR wi sa R0 Mr k p
end
theorem Gd.mono {nv m m' : Nat} {S : List RSt} (h : Gd nv m S) (hm : m ≤ m') : Gd nv m' S := fun d rest hd => h d rest (by omega)
theorem Gd.num {nv v : Nat} (h : v ≤ 9999) : Gd nv 1 [(0, v)] := fun d rest hd hw => by
  show wfs nv ((0, v) :: rest) d = true
  unfold wfs
  rw [if_pos rfl, hw, decide_eq_true h, decide_eq_true (show d < 31 by omega)]
  rfl
theorem Gd.val {nv v : Nat} (h : v < nv) : Gd nv 1 [(1, v)] := fun d rest hd hw => by
  show wfs nv ((1, v) :: rest) d = true
  unfold wfs
  rw [if_neg (show ¬ (1 : Nat) = 0 by decide), if_pos rfl, hw, decide_eq_true h, decide_eq_true (show d < 31 by omega)]
  rfl
theorem Gd.op {nv m o : Nat} {S B : List RSt} (hS : Gd nv (m + 1) S) (hB : Gd nv m B) (ho : o ≤ 8) (h2 : o ≠ 2) : Gd nv (m + 1) (S ++ B ++ [(2, o)]) := fun d rest hd hw => by
  rw [List.append_assoc, List.append_assoc]
  refine hS d _ hd (hB (d + 1) _ (by omega) ?_)
  show wfs nv ((2, o) :: rest) (d + 1 + 1) = true
  unfold wfs
  rw [if_neg (show ¬ (2 : Nat) = 0 by decide), if_neg (show ¬ (2 : Nat) = 1 by decide), if_pos rfl, if_neg h2, decide_eq_true ho, decide_eq_true (show 2 ≤ d + 1 + 1 by omega)]
  exact hw
theorem Gd.nt {nv m : Nat} {S : List RSt} (hS : Gd nv m S) : Gd nv m (S ++ [(2, 2)]) := fun d rest hd hw => by
  rw [List.append_assoc]
  refine hS d _ hd ?_
  show wfs nv ((2, 2) :: rest) (d + 1) = true
  unfold wfs
  rw [if_neg (by decide), if_neg (by decide), if_pos rfl, if_pos rfl, decide_eq_true (show 1 ≤ d + 1 by omega)]
  exact hw
theorem Gd.wf {nv : Nat} {S : List RSt} (hS : Gd nv 31 S) : wfs nv S 0 = true := by
  have := hS 0 [] (by omega) rfl
  rw [List.append_nil] at this
  exact this
theorem Gd.ne {nv m : Nat} {S : List RSt} (hm : m ≤ 31) (hS : Gd nv m S) : S ≠ [] := fun e => by
  have := (hS.mono hm).wf
  rw [e] at this
  cases this
section
variable {T : Nat → Nat} {n z nv A wi sa : Nat} {C0 R0 : Mem}
theorem nin {x A : Nat} (h1 : x ≠ 17) (h2 : x ≠ A) (h3 : x ≠ A + 1) : x ∉ [17, A, A + 1] := by
  simp only [List.mem_cons, List.not_mem_nil, or_false]
  omega
theorem in0 {A : Nat} : 17 ∈ [17, A, A + 1] := List.mem_cons_self
theorem in1 {A : Nat} : A ∈ [17, A, A + 1] := List.mem_cons_of_mem _ List.mem_cons_self
theorem in2 {A : Nat} : A + 1 ∈ [17, A, A + 1] := List.mem_cons_of_mem _ (List.mem_cons_of_mem _ List.mem_cons_self)
/-- the tokens stand -/
theorem Ctx.tk (X : Ctx T n z nv A wi sa C0 R0) {M : Mem} (F : Fr [17, A, A + 1] C0 M) : gi M 18 4 = nI n ∧ gi M 18 6 = nI z ∧ TkC M T n z := by
  obtain ⟨_, ⟨a, b, c, _, _, hA⟩, _⟩ := X
  refine ⟨(F.i (nin (by decide) (by omega) (by omega)) _).trans a, (F.i (nin (by decide) (by omega) (by omega)) _).trans b, fun i hi => ?_⟩
  rw [F.i (nin (by decide) (by omega) (by omega)), F.i (nin (by decide) (by omega) (by omega)), F.i (nin (by decide) (by omega) (by omega))]
  exact c i hi
end
section
variable {T : Nat → Nat} {n z : Nat} {M : Mem}
theorem sy_z (hz : ps T n z = n) : syA T n (ps T n z) = 0 := by rw [hz]; unfold syA; rw [if_neg (by omega)]
theorem j_lt {j : Nat} (hz : ps T n z = n) (hj : j ≤ z) (h : syA T n (ps T n j) ≠ 0) : j < z := by
  by_cases c : j = z
  · rw [c] at h; exact absurd (sy_z hz) h
  · omega
theorem c_symAt (h6 : gi M 18 6 = nI z) (ht : TkC M T n z) (hz : ps T n z = n) (h7 : z ≤ 700) {j : Nat} (hj : j ≤ z) : fX10_symbolAt M (nI j) = okI M (nI (syA T n (ps T n j))) := by
  unfold fX10_symbolAt
  rw [if_neg (nI_pos (by omega)), h6]
  by_cases c : j < z
  · rw [if_pos (nI_lt c (by omega)), chk_in (by omega) (by decide), ix_nI (by omega), (ht j c).2.1]
  · rw [if_neg (nI_nlt (by omega) (by omega)), show j = z by omega, sy_z hz]
    rfl
theorem c_stAt (h4 : gi M 18 4 = nI n) (h6 : gi M 18 6 = nI z) (ht : TkC M T n z) (hz : ps T n z = n) (h7 : z ≤ 700) {j : Nat} (hj : j ≤ z) : fX10_startAt M (nI j) = okI M (nI (ps T n j)) := by
  unfold fX10_startAt
  rw [if_neg (nI_pos (by omega)), h6, h4]
  by_cases c : j < z
  · rw [if_pos (nI_lt c (by omega)), chk_in (by omega) (by decide), ix_nI (by omega), (ht j c).2.2.1]
  · rw [if_neg (nI_nlt (by omega) (by omega)), show j = z by omega, hz]
theorem c_nmAt (h6 : gi M 18 6 = nI z) (ht : TkC M T n z) (hz : ps T n z = n) (h7 : z ≤ 700) {j : Nat} (hj : j ≤ z) : fX10_numberAt M (nI j) = okI M (nI (nmA T n (ps T n j))) := by
  unfold fX10_numberAt
  rw [if_neg (nI_pos (by omega)), h6]
  by_cases c : j < z
  · rw [if_pos (nI_lt c (by omega)), chk_in (by omega) (by decide), ix_nI (by omega), (ht j c).2.2.2]
  · have e : nmA T n n = 0 := by unfold nmA; rw [if_neg (fun q => by omega)]
    rw [if_neg (nI_nlt (by omega) (by omega)), show j = z by omega, hz, e]
    rfl
theorem c_adv (h6 : gi M 18 6 = nI z) (ht : TkC M T n z) (hz : ps T n z = n) (h7 : z ≤ 700) {j : Nat} (hj : j < z) (h4 : gi M 17 4 = nI j) : fX5_advance M = okV (si (si M 17 4 (nI (j + 1))) 17 5 (nI (syA T n (ps T n (j + 1))))) := by
  unfold fX5_advance
  rw [h4, wr_eq, nI_p1, gi_si_s, c_symAt (T := T) (n := n) (z := z) ((gi_si_a (by decide)).trans h6) (fun i hi => by
    rw [gi_si_a (by decide), gi_si_a (by decide), gi_si_a (by decide)]
    exact ht i hi) hz h7 (show j + 1 ≤ z by omega), bI_ok, wr_eq]
theorem c_ref (h0 : gi M 17 6 = 0) (x : Int32) : fX5_refuseAs M x = okV (si M 17 6 x) := by
  unfold fX5_refuseAs
  rw [if_pos h0, wr_eq]
theorem c_refF (h0 : gi M 17 6 ≠ 0) (x : Int32) : fX5_refuseAs M x = okV M := by
  unfold fX5_refuseAs
  rw [if_neg h0]
theorem r_wr (h0 : gi M 87 23 = 0) (x : Int32) : fX12_wrong M x = okV (si (si M 87 23 x) 87 24 (gi M 87 21)) := by
  unfold fX12_wrong
  rw [if_pos h0, wr_eq, wr_eq, gi_si_k (show (21 : Nat) ≠ 23 by decide)]
theorem r_wrF (h0 : gi M 87 23 ≠ 0) (x : Int32) : fX12_wrong M x = okV M := by
  unfold fX12_wrong
  rw [if_neg h0]
end

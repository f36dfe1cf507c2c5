-- ===== both sides read a line: the island in the making =====
def up (f : Nat → Nat → Int32) (a k : Nat) (v : Int32) : Nat → Nat → Int32 := fun b i => if b = a ∧ i = k then v else f b i
theorem up_s {f : Nat → Nat → Int32} {a k : Nat} {v : Int32} : up f a k v a k = v := if_pos ⟨rfl, rfl⟩
theorem up_a {f : Nat → Nat → Int32} {a k b i : Nat} {v : Int32} (h : b ≠ a) : up f a k v b i = f b i := if_neg (fun z => h z.1)
theorem up_k {f : Nat → Nat → Int32} {a k b i : Nat} {v : Int32} (h : i ≠ k) : up f a k v b i = f b i := if_neg (fun z => h z.2)
theorem IC.eqD {D : Nat} {M M' : Mem} {J : IS} (h : IC D M J) (e : ∀ a, D ≤ a → a ≤ D + 13 → ∀ k, gi M' a k = gi M a k) : IC D M' J := by
  have e0 := e D (by omega) (by omega)
  have e1 := e (D + 1) (by omega) (by omega)
  have e2 := e (D + 2) (by omega) (by omega)
  have e3 := e (D + 3) (by omega) (by omega)
  have e4 := e (D + 4) (by omega) (by omega)
  have e5 := e (D + 5) (by omega) (by omega)
  have e6 := e (D + 6) (by omega) (by omega)
  have e7 := e (D + 7) (by omega) (by omega)
  have e8 := e (D + 8) (by omega) (by omega)
  have e9 := e (D + 8 + 1) (by omega) (by omega)
  have e11 := e (D + 11) (by omega) (by omega)
  have e12 := e (D + 11 + 1) (by omega) (by omega)
  unfold IC at h ⊢
  simp only [e0, e1, e2, e3, e4, e5, e6, e7, e8, e9, e11, e12]
  exact h
def b01 (b : Bool) : Int32 := if b = true then 1 else 0
section
variable (T : Nat → Nat) (n z D : Nat) (C0 R0 : Mem)
def HC (M : Mem) : Prop := (∀ a, a ≠ 17 → (a < D ∨ D + 13 < a) → ∀ k, gi M a k = gi C0 a k) ∧ gb M 0 = gb C0 0 ∧ gb M 1 = gb C0 1 ∧ gb M 2 = gb C0 2
def IsC (M : Mem) (J : IS) (mx my : Nat) (b1 b3 : Bool) : Prop := IC D M J ∧ gi M D 12 = nI mx ∧ gi M D 13 = nI my ∧ gi M D 15 = b01 b1 ∧ gi M D 16 = b01 b3
def CL (M : Mem) (j : Nat) (J : IS) (mx my : Nat) (b1 b3 : Bool) : Prop := HC D C0 M ∧ gi M 17 7 = -1 ∧ AtC T n M j ∧ IsC D M J mx my b1 b3
def CX (M : Mem) (k p : Nat) : Prop := HC D C0 M ∧ gi M 17 6 = nI k ∧ StC T n z M p
def LX : Prop := Txt T n z ∧ TkS C0 T n z ∧ isA (gb C0 2) = D ∧ (D = 3 ∨ D = 24) ∧ TxR R0 T n
def low (a : Nat) : Nat := if a ≤ 93 then 8 else if a ≤ 96 then 9 else if a = 97 then 10 else 700
def HR (M : Mem) : Prop := (∀ a, a ≠ 87 → (a < 90 ∨ 99 < a) → ∀ k, gi M a k = gi R0 a k) ∧ gl M 121 0 = gl R0 121 0 ∧ (∀ i, i ≠ 5 → gb M i = gb R0 i) ∧ (∀ a, 90 ≤ a → a ≤ 99 → ∀ k, k < low a → gi M a k = gi R0 a k) ∧ ∀ k, k ≠ 17 → k ≠ 19 → k ≠ 20 → k ≠ 21 → k ≠ 22 → k ≠ 23 → k ≠ 24 → k ≠ 26 → gi M 87 k = gi R0 87 k
def IsR (M : Mem) (J : IS) (mx my : Nat) : Prop :=
  (gi M 90 8 = nI (iH J) ∧ gi M 90 9 = nI (iP J) ∧ gi M 90 10 = nI (iN J) ∧ gi M 90 11 = iE J ∧ gi M 90 12 = nI mx ∧ gi M 90 13 = nI my ∧ gi M 90 14 = nI (iW J).length ∧ gi M 90 15 = nI (iY J).length) ∧
  (∀ k, k < iH J → gi M 91 (8 + k) = iA J 0 k ∧ gi M 92 (8 + k) = iA J 1 k ∧ gi M 93 (8 + k) = iA J 2 k) ∧
  (∀ k, k < iP J → gi M 94 (9 + k) = iA J 3 k ∧ gi M 95 (9 + k) = iA J 4 k ∧ gi M 96 (9 + k) = iA J 5 k) ∧
  (∀ k, k < iN J → gi M 97 (10 + k) = iA J 6 k) ∧
  (∀ k, k < (iW J).length → gi M 98 (700 + k) = encR ((iW J).getD k (0, 0))) ∧
  (∀ k, k < (iY J).length → gi M 99 (700 + k) = encR ((iY J).getD k (0, 0)))
def RLn (M : Mem) (j : Nat) (J : IS) (mx my : Nat) : Prop := HR R0 M ∧ AtR T n M j ∧ IsR M J mx my
def RX (M : Mem) (k p : Nat) : Prop := HR R0 M ∧ gi M 87 23 = nI k ∧ gi M 87 24 = nI p
def JOk (J : IS) : Prop := IOk J ∧ (∃ e, e ≤ 9999 ∧ iE J = nI e) ∧ ∀ p, p < iP J → ∃ a b, a ≤ 20 ∧ b ≤ 20 ∧ iA J 3 p = nI a ∧ iA J 4 p = nI b
def fl (J : IS) (b1 b3 : Bool) : Nat := b1.toNat + 2 * (decide (0 < iN J)).toNat + 4 * b3.toNat + 8 * (decide (iW J ≠ [])).toNat + 16 * (decide (iY J ≠ [])).toNat
/-- a line's inside is read: both stand alike, or both refuse alike -/
def LOut (j tt : Nat) (Kc Kr : Mem → RS) (cr rr : RS) : Prop :=
  (∃ Mc Mr j' J mx my b1 b3, cr = Kc Mc ∧ rr = Kr Mr ∧ CL T n D C0 Mc j' J mx my b1 b3 ∧ RLn T n R0 Mr j' J mx my ∧ j < j' ∧ j' ≤ z ∧ JOk J ∧ fl J b1 b3 = tt) ∨
  ∃ Mc Mr k p, cr = Kc Mc ∧ rr = Kr Mr ∧ CX T n z D C0 Mc k p ∧ RX R0 Mr k p ∧ 1 ≤ k ∧ k ≤ 5
end
section
variable {T : Nat → Nat} {n z D : Nat} {C0 R0 M : Mem} {j : Nat} {J : IS} {mx my : Nat} {b1 b3 : Bool}
theorem HC.w (h : HC D C0 M) {a k : Nat} {v : Int32} (ha : a = 17 ∨ (D ≤ a ∧ a ≤ D + 13)) : HC D C0 (si M a k v) := ⟨fun b q1 q2 i => by rw [gi_si_a (by omega)]; exact h.1 b q1 q2 i, h.2⟩
theorem HC.tk (h : HC D C0 M) (X : LX T n z D C0 R0) : TkS M T n z := by
  obtain ⟨_, t, _, hD, _⟩ := X
  refine ⟨(h.1 18 (by decide) (by omega) _).trans t.1, (h.1 18 (by decide) (by omega) _).trans t.2.1, fun i hi => ?_⟩
  rw [h.1 19 (by decide) (by omega), h.1 20 (by decide) (by omega), h.1 21 (by decide) (by omega)]
  exact t.2.2 i hi
theorem HC.is (h : HC D C0 M) (X : LX T n z D C0 R0) : isA (gb M 2) = D := by rw [h.2.2.2]; exact X.2.2.1
theorem IsC.eq {M' : Mem} (h : IsC D M J mx my b1 b3) (e : ∀ a, D ≤ a → a ≤ D + 13 → ∀ k, gi M' a k = gi M a k) : IsC D M' J mx my b1 b3 := by
  have e0 := e D (by omega) (by omega)
  unfold IsC
  rw [e0, e0, e0, e0]
  exact ⟨h.1.eqD e, h.2⟩
theorem CL.mov (X : LX T n z D C0 R0) (h : CL T n D C0 M j J mx my b1 b3) (j' : Nat) : CL T n D C0 (movC T n M j') j' J mx my b1 b3 := by
  have hD := X.2.2.2.1
  refine ⟨(h.1.w (Or.inl rfl)).w (Or.inl rfl), ?_, movC_at h.2.2.1, h.2.2.2.eq (fun a q1 q2 k => ?_)⟩
  · unfold movC
    rw [gi_si_k (by decide), gi_si_k (by decide)]; exact h.2.1
  · unfold movC
    rw [gi_si_a (by omega), gi_si_a (by omega)]
theorem CL.flt (_ : LX T n z D C0 R0) (h : CL T n D C0 M j J mx my b1 b3) (hj : j ≤ z) (k : Nat) : CX T n z D C0 (fltC M k (ps T n j)) k (ps T n j) := ⟨h.1.w (Or.inl rfl), gi_si_s, j, hj, (gi_si_k (by decide)).trans h.2.2.1.1, rfl⟩
theorem fltC_D {k p a i : Nat} (ha : a ≠ 17) : gi (fltC M k p) a i = gi M a i := by
  unfold fltC
  rw [gi_si_a ha]
theorem CX.w {k p : Nat} (h : CX T n z D C0 M k p) (hD : D = 3 ∨ D = 24) {a i : Nat} {v : Int32} (ha : D ≤ a ∧ a ≤ D + 13) : CX T n z D C0 (si M a i v) k p := ⟨h.1.w (Or.inr ha), by rw [gi_si_a (by omega)]; exact h.2.1, by obtain ⟨j, q1, q2, q3⟩ := h.2.2; exact ⟨j, q1, (gi_si_a (by omega)).trans q2, q3⟩⟩
theorem HR.w (h : HR R0 M) {a k : Nat} {v : Int32} (ha : 90 ≤ a ∧ a ≤ 99) (hk : low a ≤ k) : HR R0 (si M a k v) := by
  refine ⟨fun b q1 q2 i => by rw [gi_si_a (by omega)]; exact h.1 b q1 q2 i, h.2.1, h.2.2.1, fun b q1 q2 i hi => ?_, fun i a1 a2 a3 a4 a5 a6 a7 a8 => by rw [gi_si_a (by omega)]; exact h.2.2.2.2 i a1 a2 a3 a4 a5 a6 a7 a8⟩
  rw [gi_si, if_neg (fun q => by rw [q.1] at hi; omega)]
  exact h.2.2.2.1 b q1 q2 i hi
theorem HR.m (h : HR R0 M) {k : Nat} {v : Int32} (hk : k = 17 ∨ k = 19 ∨ k = 20 ∨ k = 21 ∨ k = 22 ∨ k = 23 ∨ k = 24 ∨ k = 26) : HR R0 (si M 87 k v) := by
  refine ⟨fun b q1 q2 i => by rw [gi_si_a (by omega)]; exact h.1 b q1 q2 i, h.2.1, h.2.2.1, fun b q1 q2 i hi => by rw [gi_si_a (by omega)]; exact h.2.2.2.1 b q1 q2 i hi, fun i a1 a2 a3 a4 a5 a6 a7 a8 => ?_⟩
  rw [gi_si_k (by omega)]; exact h.2.2.2.2 i a1 a2 a3 a4 a5 a6 a7 a8
theorem HR.kr {M' : Mem} (h : HR R0 M) (K : KR M M') : HR R0 M' := by
  refine ⟨fun b q1 q2 i => ?_, (K.1.l (by decide) 0).trans h.2.1, fun i hi => (K.1.b i).trans (h.2.2.1 i hi), fun b q1 q2 i hi => ?_, fun i a1 a2 a3 a4 a5 a6 a7 a8 => (K.2 i a1 a2 a3 a4 a5).trans (h.2.2.2.2 i a1 a2 a3 a4 a5 a6 a7 a8)⟩
  · rw [K.1.i (by rw [List.mem_singleton]; exact q1)]; exact h.1 b q1 q2 i
  · rw [K.1.i (by rw [List.mem_singleton]; omega)]; exact h.2.2.2.1 b q1 q2 i hi
theorem HR.tx (h : HR R0 M) (X : LX T n z D C0 R0) : TxR M T n := by
  refine ⟨(h.2.2.2.2 18 (by decide) (by decide) (by decide) (by decide) (by decide) (by decide) (by decide) (by decide)).trans X.2.2.2.2.1, fun k hk => ?_⟩
  rw [h.1 101 (by decide) (by decide)]
  exact X.2.2.2.2.2 k hk
theorem IsR.eq {M' : Mem} (h : IsR M J mx my) (e : ∀ a, 90 ≤ a → a ≤ 99 → ∀ k, gi M' a k = gi M a k) : IsR M' J mx my := by
  unfold IsR at h ⊢
  simp only [e 90 (by decide) (by decide), e 91 (by decide) (by decide), e 92 (by decide) (by decide), e 93 (by decide) (by decide), e 94 (by decide) (by decide), e 95 (by decide) (by decide), e 96 (by decide) (by decide), e 97 (by decide) (by decide), e 98 (by decide) (by decide), e 99 (by decide) (by decide)]
  exact h
end

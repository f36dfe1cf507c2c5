-- ===== rules: steps, their values, the class's and the reference's stack =====
abbrev RSt : Type := Nat × Nat
/-- two values joined: 0 or, 1 and, 3 less, 4 equal, 5 plus, 6 minus, 7 times, 8 by -/
def jn (o : Nat) (l r : Int32) : Int32 :=
  if o = 0 then (if l = 0 then (if r = 0 then 0 else 1) else 1)
  else if o = 1 then (if l = 0 then 0 else if r = 0 then 0 else 1)
  else if o = 3 then (if l < r then 1 else 0)
  else if o = 4 then (if l = r then 1 else 0)
  else if o = 5 then l + r
  else if o = 6 then l - r
  else if o = 7 then l * r
  else (if r = 0 then 0 else l / r)
def stp (v : Nat → Int32) (c : RSt) (s : List Int32) : List Int32 :=
  if c.1 = 0 then nI c.2 :: s
  else if c.1 = 1 then v c.2 :: s
  else if c.2 = 2 then (match s with
    | x :: t => (if x = 0 then 1 else 0) :: t
    | [] => [])
  else (match s with
    | r :: l :: t => jn c.2 l r :: t
    | t => t)
def evs (v : Nat → Int32) : List RSt → List Int32 → List Int32
  | [], s => s
  | c :: cs, s => evs v cs (stp v c s)
/-- a row of steps that leaves one value on a stack of d, with at most 31 on it -/
def wfs (nv : Nat) : List RSt → Nat → Bool
  | [], d => d == 1
  | c :: cs, d =>
    if c.1 = 0 then decide (c.2 ≤ 9999) && decide (d < 31) && wfs nv cs (d + 1)
    else if c.1 = 1 then decide (c.2 < nv) && decide (d < 31) && wfs nv cs (d + 1)
    else if c.1 = 2 then (if c.2 = 2 then decide (1 ≤ d) && wfs nv cs d else decide (c.2 ≤ 8) && decide (2 ≤ d) && wfs nv cs (d - 1))
    else false
def encC (c : RSt) : Int32 := if c.1 = 0 then nI c.2 else if c.1 = 1 then -10 - nI c.2 else -1 - nI c.2
def encO (o : Nat) : Int32 := if o = 0 then -27 else if o = 1 then -26 else if o = 2 then -28 else if o = 3 then -24 else if o = 4 then -25 else if o = 5 then -20 else if o = 6 then -21 else if o = 7 then -22 else -23
def encR (c : RSt) : Int32 := if c.1 = 0 then nI c.2 else if c.1 = 1 then -1 - nI c.2 else encO c.2
/-- the value of a rule -/
def rval (v : Nat → Int32) (cs : List RSt) : Int32 := (evs v cs []).headD 0
/-- a stack in a row of memory, its top at the end -/
def stk (M : Mem) (a : Nat) : List Int32 → Prop
  | [] => True
  | x :: s => gi M a s.length = x ∧ stk M a s
theorem stk_push {M : Mem} {a : Nat} {x : Int32} : ∀ {s : List Int32} {k : Nat}, s.length ≤ k → stk M a s → stk (si M a k x) a s := by
  intro s
  induction s with
  | nil => intro _ _ _; trivial
  | cons y s ih =>
    intro k hk h
    have hk : s.length + 1 ≤ k := hk
    refine ⟨?_, ih (by omega) h.2⟩
    rw [gi_si_k (by omega)]
    exact h.1
theorem stk_fr {M M' : Mem} {a : Nat} (h : ∀ k, gi M' a k = gi M a k) : ∀ {s : List Int32}, stk M a s → stk M' a s := by
  intro s
  induction s with
  | nil => intro _; trivial
  | cons y s ih => intro q; exact ⟨(h _).trans q.1, ih q.2⟩
theorem stk_cons {M : Mem} {a : Nat} {x : Int32} {s : List Int32} (h : stk M a s) : stk (si M a s.length x) a (x :: s) := ⟨gi_si_s, stk_push (Nat.le_refl _) h⟩
theorem op9 {o : Nat} (h : o ≤ 8) : o = 0 ∨ o = 1 ∨ o = 2 ∨ o = 3 ∨ o = 4 ∨ o = 5 ∨ o = 6 ∨ o = 7 ∨ o = 8 := by omega
theorem join_ok {M : Mem} {o : Nat} {l r : Int32} (h : o ≤ 8) (h2 : o ≠ 2) : fX6_join M (-1 - nI o) l r = okI M (jn o l r) := by
  rcases op9 h with rfl | rfl | rfl | rfl | rfl | rfl | rfl | rfl | rfl
  · show (if l = 0 then if r = 0 then okI M 0 else okI M 1 else okI M 1) = okI M (if l = 0 then (if r = 0 then 0 else 1) else 1)
    repeat' split
    all_goals rfl
  · show (if l = 0 then okI M 0 else if r = 0 then okI M 0 else okI M 1) = okI M (if l = 0 then 0 else if r = 0 then 0 else 1)
    repeat' split
    all_goals rfl
  · exact absurd rfl h2
  · show (if l < r then okI M 1 else okI M 0) = okI M (if l < r then 1 else 0)
    split <;> rfl
  · show (if l = r then okI M 1 else okI M 0) = okI M (if l = r then 1 else 0)
    split <;> rfl
  · rfl
  · rfl
  · rfl
  · show (if r = 0 then okI M 0 else chk (!decide (r = 0)) (okI M (l / r))) = okI M (if r = 0 then 0 else l / r)
    by_cases hr : r = 0
    · rw [if_pos hr, if_pos hr]
    · rw [if_neg hr, if_neg hr, chk_tt (by simpa using hr)]
theorem reckon_ok {M : Mem} {o : Nat} {l r : Int32} (h : o ≤ 8) (h2 : o ≠ 2) : fX12_reckon M (encO o) l r = okI M (jn o l r) := by
  rcases op9 h with rfl | rfl | rfl | rfl | rfl | rfl | rfl | rfl | rfl
  · show (if l = 0 then if r = 0 then okI M 0 else okI M 1 else okI M 1) = okI M (if l = 0 then (if r = 0 then 0 else 1) else 1)
    repeat' split
    all_goals rfl
  · show (if l = 0 then okI M 0 else if r = 0 then okI M 0 else okI M 1) = okI M (if l = 0 then 0 else if r = 0 then 0 else 1)
    repeat' split
    all_goals rfl
  · exact absurd rfl h2
  · show (if l < r then okI M 1 else okI M 0) = okI M (if l < r then 1 else 0)
    split <;> rfl
  · show (if l = r then okI M 1 else okI M 0) = okI M (if l = r then 1 else 0)
    split <;> rfl
  · rfl
  · rfl
  · rfl
  · show (if r = 0 then okI M 0 else chk (!decide (r = 0)) (okI M (l / r))) = okI M (if r = 0 then 0 else l / r)
    by_cases hr : r = 0
    · rw [if_pos hr, if_pos hr]
    · rw [if_neg hr, if_neg hr, chk_tt (by simpa using hr)]
theorem nI_m1 {d : Nat} (h : 1 ≤ d) : nI d - 1 = nI (d - 1) := by
  obtain ⟨e, rfl⟩ : ∃ e, d = e + 1 := ⟨d - 1, by omega⟩
  exact nI_pred e
theorem nI_m1' {d : Nat} (h : 1 ≤ d) : nI d + -1 = nI (d - 1) := by
  rw [← nI_m1 h]
  have : ∀ x : Int32, x + -1 = x - 1 := fun x => by rw [Int32.sub_eq_add_neg]
  exact this _
theorem nI_p1 (d : Nat) : nI d + 1 = nI (d + 1) := nI_1 d
theorem val7 {k nv : Nat} (h : k < nv) (hn : nv ≤ 7) : k = 0 ∨ k = 1 ∨ k = 2 ∨ k = 3 ∨ k = 4 ∨ k = 5 ∨ k = 6 := by omega
theorem cval {k : Nat} (h : k < 7) : (-10 - nI k < 0) ∧ ¬ (-10 < -10 - nI k) ∧ -10 - (-10 - nI k) = nI k := by
  rcases val7 h (Nat.le_refl _) with rfl | rfl | rfl | rfl | rfl | rfl | rfl <;> decide
theorem rval7 {k : Nat} (h : k < 7) : (-20 < -1 - nI k) ∧ (-1 - nI k < 0) ∧ -1 - (-1 - nI k) = nI k := by
  rcases val7 h (Nat.le_refl _) with rfl | rfl | rfl | rfl | rfl | rfl | rfl <;> decide
theorem cop {o : Nat} (h : o ≤ 8) : (-1 - nI o < 0) ∧ (-10 < -1 - nI o) ∧ (o ≠ 2 → ¬ -1 - nI o = -3) := by
  rcases op9 h with rfl | rfl | rfl | rfl | rfl | rfl | rfl | rfl | rfl <;> decide
theorem rop {o : Nat} (h : o ≤ 8) : ¬ (-20 < encO o) ∧ (o ≠ 2 → ¬ encO o = -28) := by
  rcases op9 h with rfl | rfl | rfl | rfl | rfl | rfl | rfl | rfl | rfl <;> decide
/-- what the class's stack machine comes to: r the rule, its steps done ++ cs, d on the stack -/
theorem reckC {r nv : Nat} {v : Nat → Int32} (hr : r + 2 ≠ 23) (hnv : nv ≤ 7) : ∀ (cs : List RSt) (M : Mem) (j n : Nat) (s : List Int32), cs.length < n → j + cs.length ≤ 700 → gi M r 2 = nI (j + cs.length) → (∀ k, k < cs.length → gi M (r + 1) (j + k) = encC (cs.getD k (0, 0))) → (∀ k, k < nv → gi M 23 k = v k) → stk M (r + 2) s → s.length ≤ 31 → wfs nv cs s.length = true →
    ∃ M', Fr [r + 2] M M' ∧ fX6_reckon_b4 r n M (nI s.length) (nI j) = okI M' ((evs v cs s).headD 0) := by
  intro cs
  induction cs with
  | nil =>
    intro M j n s hn hj hlen hst hv hs hd hw
    obtain ⟨m, rfl⟩ : ∃ m, n = m + 1 := ⟨n - 1, by omega⟩
    refine ⟨M, Fr.rf, ?_⟩
    rw [fX6_reckon_b4]
    dsimp only
    rw [hlen, if_neg (by show ¬ nI j < nI (j + 0); exact nI_nlt (Nat.le_refl _) (by simp at hj; omega))]
    have h1 : s.length = 1 := by simpa [wfs] using hw
    match s, h1 with
    | [x], _ => exact congrArg (fun z => okI M z) hs.1
  | cons c cs ih =>
    intro M j n s hn hj hlen hst hv hs hd hw
    obtain ⟨m, rfl⟩ : ∃ m, n = m + 1 := ⟨n - 1, by omega⟩
    have hn : cs.length + 1 < m + 1 := hn
    have hj : j + (cs.length + 1) ≤ 700 := hj
    have hlen : gi M r 2 = nI (j + (cs.length + 1)) := hlen
    have h0 : gi M (r + 1) j = encC c := by have := hst 0 (Nat.succ_pos _); simpa using this
    have hst' : ∀ k, k < cs.length → gi M (r + 1) (j + 1 + k) = encC (cs.getD k (0, 0)) := fun k hk => by
      have := hst (k + 1) (by show k + 1 < cs.length + 1; omega)
      rw [show j + (k + 1) = j + 1 + k by omega] at this
      simpa using this
    -- the next place, with a new stack
    have go : ∀ (x : Int32) (k : Nat) (t : List Int32), stk (si M (r + 2) k x) (r + 2) t → t.length ≤ 31 → wfs nv cs t.length = true → evs v cs t = evs v (c :: cs) s → ∃ M', Fr [r + 2] M M' ∧ fX6_reckon_b4 r m (si M (r + 2) k x) (nI t.length) (nI (j + 1)) = okI M' ((evs v (c :: cs) s).headD 0) := by
      intro x k t ht hd2 hw2 he
      obtain ⟨M', hF, e⟩ := ih (si M (r + 2) k x) (j + 1) m t (by omega) (by omega) (by rw [gi_si_a (by omega), hlen]; congr 1; omega) (fun q hq => by rw [gi_si_a (by omega)]; exact hst' q hq) (fun q hq => by rw [gi_si_a (fun e => hr e.symm)]; exact hv q hq) ht hd2 hw2
      refine ⟨M', Fr.tr (Fr.wi Fr.rf (List.mem_singleton.mpr rfl)) hF, ?_⟩
      rw [e, he]
    rw [fX6_reckon_b4]
    dsimp only
    rw [hlen, if_pos (nI_lt (by omega) (by omega)), if_pos (ltL 700 (by omega) (by decide)), chk_in (by omega) (by decide), ix_nI (by omega), h0]
    obtain ⟨c1, c2⟩ := c
    unfold wfs at hw
    by_cases k0 : c1 = 0
    · subst k0
      simp only [if_true, Bool.and_eq_true, decide_eq_true_eq] at hw
      have e0 : encC (0, c2) = nI c2 := rfl
      rw [e0, if_neg (nI_pos (by omega))]
      unfold fX6_reckon_b41
      rw [if_pos (ltL 40 (by omega) (by decide)), if_neg (nI_pos (by omega))]
      unfold fX6_reckon_b74 fX6_reckon_b155 wr
      rw [chk_in (by omega) (by decide), ix_nI (by omega), nI_p1, nI_p1]
      exact go (nI c2) s.length (nI c2 :: s) (stk_cons hs) (by simp only [List.length_cons]; omega) hw.2 rfl
    · simp only [if_neg k0] at hw
      by_cases k1 : c1 = 1
      · subst k1
        simp only [if_true, Bool.and_eq_true, decide_eq_true_eq] at hw
        have e0 : encC (1, c2) = -10 - nI c2 := rfl
        obtain ⟨q1, q2, q3⟩ := cval (k := c2) (by omega)
        rw [e0, if_pos q1, if_neg q2]
        unfold fX6_reckon_b41
        rw [if_pos (ltL 40 (by omega) (by decide)), if_pos q1, q3]
        have e1 : fX6_valueOf M (nI c2) = okI M (v c2) := by
          unfold fX6_valueOf
          rw [if_neg (nI_pos (by omega)), if_pos (ltL 7 (by omega) (by decide)), chk_in (by omega) (by decide), ix_nI (by omega), hv c2 hw.1.1]
        rw [e1, bI_ok]
        unfold fX6_reckon_b74 fX6_reckon_b155 wr
        rw [chk_in (by omega) (by decide), ix_nI (by omega), nI_p1, nI_p1]
        exact go (v c2) s.length (v c2 :: s) (stk_cons hs) (by simp only [List.length_cons]; omega) hw.2 rfl
      · simp only [if_neg k1] at hw
        by_cases k2 : c1 = 2
        · subst k2
          simp only [if_true] at hw
          have e0 : encC (2, c2) = -1 - nI c2 := rfl
          by_cases k3 : c2 = 2
          · subst k3
            simp only [if_true, Bool.and_eq_true, decide_eq_true_eq] at hw
            rw [e0, if_pos (by decide), if_pos (by decide), if_pos (by decide), if_neg (nltL 1 (by omega) (by omega)), nI_m1 (by omega), chk_in (by omega) (by decide), ix_nI (by omega)]
            match s, hs, hd, hw with
            | x :: t, hs, hd, hw =>
              have hx : gi M (r + 2) ((x :: t).length - 1) = x := hs.1
              rw [hx]
              unfold fX6_reckon_b116 fX6_reckon_b155 wr
              rw [chk_in (by simp only [List.length_cons] at hw hd ⊢; omega) (by decide), ix_nI (by simp only [List.length_cons] at hw hd ⊢; omega), chk_in (by simp only [List.length_cons] at hw hd ⊢; omega) (by decide), nI_p1]
              have hs2 : ∀ y : Int32, stk (si M (r + 2) ((x :: t).length - 1) y) (r + 2) (y :: t) := fun y => stk_cons hs.2
              by_cases hx0 : x = 0
              · rw [if_pos hx0]
                exact go 1 _ (1 :: t) (hs2 1) hd hw.2 (by rw [hx0]; rfl)
              · rw [if_neg hx0]
                refine go 0 _ (0 :: t) (hs2 0) hd hw.2 ?_
                show evs v cs (0 :: t) = evs v cs ((if x = 0 then 1 else 0) :: t)
                rw [if_neg hx0]
          · simp only [if_neg k3, Bool.and_eq_true, decide_eq_true_eq] at hw
            obtain ⟨q1, q2, q3⟩ := cop hw.1.1
            rw [e0, if_pos q1, if_pos q2, if_neg (q3 k3), if_neg (nltL 2 (by omega) (by omega)), nI_m1' (by omega), nI_m1 (by omega), chk_in (by omega) (by decide), chk_in (by omega) (by decide), ix_nI (by omega), ix_nI (by omega)]
            match s, hs, hd, hw with
            | y :: x :: t, hs, hd, hw =>
              have h1 : gi M (r + 2) ((y :: x :: t).length - 1) = y := hs.1
              have h2 : gi M (r + 2) ((y :: x :: t).length - 1 - 1) = x := hs.2.1
              rw [h1, h2, join_ok hw.1.1 k3, bI_ok, chk_in (by simp only [List.length_cons] at hw hd ⊢; omega) (by decide)]
              unfold fX6_reckon_b155 wr
              rw [nI_p1]
              refine go (jn c2 x y) _ (jn c2 x y :: t) ?_ (by simp only [List.length_cons] at hd ⊢; omega) hw.2 ?_
              · exact stk_cons hs.2.2
              · show evs v cs (jn c2 x y :: t) = evs v cs (if c2 = 2 then (if y = 0 then 1 else 0) :: x :: t else jn c2 x y :: t)
                rw [if_neg k3]
        · simp only [if_neg k2] at hw
          cases hw
/-- what the reference's stack machine comes to: the steps in the row a -/
theorem reckR {a nv L : Nat} {v : Nat → Int32} (ha : a = 98 ∨ a = 99) (hnv : nv ≤ 7) : ∀ (cs : List RSt) (M : Mem) (j n : Nat) (s : List Int32), cs.length < n → L = j + cs.length → L ≤ 700 → (∀ k, k < cs.length → gi M a (j + k) = encR (cs.getD k (0, 0))) → (∀ k, k < nv → gi M 106 k = v k) → stk M 107 s → s.length ≤ 31 → wfs nv cs s.length = true →
    ∃ M', Fr [107] M M' ∧ fX12_valueNow_b5 a n M (nI L) (nI s.length) (nI j) = okI M' ((evs v cs s).headD 0) := by
  intro cs
  induction cs with
  | nil =>
    intro M j n s hn hL hj hst hv hs hd hw
    obtain ⟨m, rfl⟩ : ∃ m, n = m + 1 := ⟨n - 1, by omega⟩
    refine ⟨M, Fr.rf, ?_⟩
    have hL : L = j := hL
    subst hL
    rw [fX12_valueNow_b5]
    dsimp only
    rw [if_neg (nI_nlt (Nat.le_refl _) (by omega))]
    have h1 : s.length = 1 := by simpa [wfs] using hw
    match s, h1 with
    | [x], _ => exact congrArg (fun z => okI M z) hs.1
  | cons c cs ih =>
    intro M j n s hn hL hj hst hv hs hd hw
    obtain ⟨m, rfl⟩ : ∃ m, n = m + 1 := ⟨n - 1, by omega⟩
    have hn : cs.length + 1 < m + 1 := hn
    have hL : L = j + (cs.length + 1) := hL
    have h0 : gi M a j = encR c := by have := hst 0 (Nat.succ_pos _); simpa using this
    have hst' : ∀ k, k < cs.length → gi M a (j + 1 + k) = encR (cs.getD k (0, 0)) := fun k hk => by
      have := hst (k + 1) (by show k + 1 < cs.length + 1; omega)
      rw [show j + (k + 1) = j + 1 + k by omega] at this
      simpa using this
    have go : ∀ (x : Int32) (k : Nat) (t : List Int32), stk (si M 107 k x) 107 t → t.length ≤ 31 → wfs nv cs t.length = true → evs v cs t = evs v (c :: cs) s → ∃ M', Fr [107] M M' ∧ fX12_valueNow_b5 a m (si M 107 k x) (nI L) (nI t.length) (nI (j + 1)) = okI M' ((evs v (c :: cs) s).headD 0) := by
      intro x k t ht hd2 hw2 he
      obtain ⟨M', hF, e⟩ := ih (si M 107 k x) (j + 1) m t (by omega) (by omega) hj (fun q hq => by rw [gi_si_a (by omega)]; exact hst' q hq) (fun q hq => by rw [gi_si_a (by decide)]; exact hv q hq) ht hd2 hw2
      refine ⟨M', Fr.tr (Fr.wi Fr.rf (List.mem_singleton.mpr rfl)) hF, ?_⟩
      rw [e, he]
    rw [fX12_valueNow_b5]
    dsimp only
    rw [if_pos (nI_lt (by omega) (by omega)), chk_in (by omega) (by decide), ix_nI (by omega), h0]
    obtain ⟨c1, c2⟩ := c
    unfold wfs at hw
    by_cases k0 : c1 = 0
    · subst k0
      simp only [if_true, Bool.and_eq_true, decide_eq_true_eq] at hw
      have e0 : encR (0, c2) = nI c2 := rfl
      have hneg : (-20 : Int32) < nI c2 := by
        rw [Int32.lt_iff_toInt_lt, nI_toInt (by omega)]
        have : ((-20 : Int32)).toInt = -20 := by decide
        omega
      rw [e0, if_pos hneg, if_neg (nI_pos (by omega))]
      unfold fX12_valueNow_b48 fX12_valueNow_b119 wr
      rw [chk_in (by omega) (by decide), ix_nI (by omega), nI_p1, nI_p1]
      exact go (nI c2) s.length (nI c2 :: s) (stk_cons hs) (by simp only [List.length_cons]; omega) hw.2 rfl
    · simp only [if_neg k0] at hw
      by_cases k1 : c1 = 1
      · subst k1
        simp only [if_true, Bool.and_eq_true, decide_eq_true_eq] at hw
        have e0 : encR (1, c2) = -1 - nI c2 := rfl
        obtain ⟨q1, q2, q3⟩ := rval7 (k := c2) (by omega)
        rw [e0, if_pos q1, if_pos q2, q3, chk_in (by omega) (by decide), ix_nI (by omega), hv c2 hw.1.1]
        unfold fX12_valueNow_b48 fX12_valueNow_b119 wr
        rw [chk_in (by omega) (by decide), ix_nI (by omega), nI_p1, nI_p1]
        exact go (v c2) s.length (v c2 :: s) (stk_cons hs) (by simp only [List.length_cons]; omega) hw.2 rfl
      · simp only [if_neg k1] at hw
        by_cases k2 : c1 = 2
        · subst k2
          simp only [if_true] at hw
          have e0 : encR (2, c2) = encO c2 := rfl
          by_cases k3 : c2 = 2
          · subst k3
            simp only [if_true, Bool.and_eq_true, decide_eq_true_eq] at hw
            rw [e0, if_neg (by decide), if_pos (by decide), nI_m1 (by omega), chk_in (by omega) (by decide), ix_nI (by omega)]
            match s, hs, hd, hw with
            | x :: t, hs, hd, hw =>
              have hx : gi M 107 ((x :: t).length - 1) = x := hs.1
              rw [hx]
              unfold fX12_valueNow_b85 fX12_valueNow_b119 wr
              rw [chk_in (by simp only [List.length_cons] at hw hd ⊢; omega) (by decide), ix_nI (by simp only [List.length_cons] at hw hd ⊢; omega), chk_in (by simp only [List.length_cons] at hw hd ⊢; omega) (by decide), nI_p1]
              have hs2 : ∀ y : Int32, stk (si M 107 ((x :: t).length - 1) y) 107 (y :: t) := fun y => stk_cons hs.2
              by_cases hx0 : x = 0
              · rw [if_pos hx0]
                exact go 1 _ (1 :: t) (hs2 1) hd hw.2 (by rw [hx0]; rfl)
              · rw [if_neg hx0]
                refine go 0 _ (0 :: t) (hs2 0) hd hw.2 ?_
                show evs v cs (0 :: t) = evs v cs ((if x = 0 then 1 else 0) :: t)
                rw [if_neg hx0]
          · simp only [if_neg k3, Bool.and_eq_true, decide_eq_true_eq] at hw
            obtain ⟨q1, q2⟩ := rop hw.1.1
            rw [e0, if_neg q1, if_neg (q2 k3), nI_m1' (by omega), nI_m1 (by omega), chk_in (by omega) (by decide), chk_in (by omega) (by decide), ix_nI (by omega), ix_nI (by omega)]
            match s, hs, hd, hw with
            | y :: x :: t, hs, hd, hw =>
              have h1 : gi M 107 ((y :: x :: t).length - 1) = y := hs.1
              have h2 : gi M 107 ((y :: x :: t).length - 1 - 1) = x := hs.2.1
              rw [h1, h2, reckon_ok hw.1.1 k3, bI_ok, chk_in (by simp only [List.length_cons] at hw hd ⊢; omega) (by decide)]
              unfold fX12_valueNow_b119 wr
              rw [nI_p1]
              refine go (jn c2 x y) _ (jn c2 x y :: t) ?_ (by simp only [List.length_cons] at hd ⊢; omega) hw.2 ?_
              · exact stk_cons hs.2.2
              · show evs v cs (jn c2 x y :: t) = evs v cs (if c2 = 2 then (if y = 0 then 1 else 0) :: x :: t else jn c2 x y :: t)
                rw [if_neg k3]
        · simp only [if_neg k2] at hw
          cases hw

abbrev Mem : Type := (Nat → Nat → Int32) × (Nat → Nat → Int64) × (Nat → Bool)
abbrev EV : Type := Nat × va_G × (Nat → Nat) × (Nat → Nat) × (Nat → Nat)
abbrev MI : Type := ByteArray × Nat × Option FieldType × MethodName
def gi (M : Mem) (a k : Nat) : Int32 := M.1 a k
def gl (M : Mem) (a k : Nat) : Int64 := M.2.1 a k
def gb (M : Mem) (j : Nat) : Bool := M.2.2 j
def si (M : Mem) (a k : Nat) (v : Int32) : Mem := (fun x y => if x = a ∧ y = k then v else M.1 x y, M.2.1, M.2.2)
def sl (M : Mem) (a k : Nat) (v : Int64) : Mem := (M.1, fun x y => if x = a ∧ y = k then v else M.2.1 x y, M.2.2)
def sb (M : Mem) (j : Nat) (v : Bool) : Mem := (M.1, M.2.1, fun x => if x = j then v else M.2.2 x)
/-- a copied row: n places of the row b from p on, into the row a from r on -/
def scp (M : Mem) (b p a r n : Nat) : Mem := (fun x y => if x = a ∧ r ≤ y ∧ y < r + n then M.1 b (p + (y - r)) else M.1 x y, M.2.1, M.2.2)
def isA : Bool → Nat
  | true => 24
  | false => 3
def ruA : Bool → Bool → Nat
  | false, false => 11
  | false, true => 14
  | true, false => 32
  | true, true => 35
def vaA : Bool → Nat
  | true => 89
  | false => 88
def NN : Nat := 122
def kdL : List (Nat × Nat) := [(11, 10), (9, 2), (21, 700), (2, 17), (20, 8), (20, 8), (20, 8), (20, 9), (20, 9), (20, 9), (20, 10), (6, 3), (20, 700), (20, 40), (6, 3), (20, 700), (20, 40), (5, 8), (10, 7), (20, 700), (20, 700), (20, 700), (3, 2), (20, 7), (2, 17), (20, 8), (20, 8), (20, 8), (20, 9), (20, 9), (20, 9), (20, 10), (6, 3), (20, 700), (20, 40), (6, 3), (20, 700), (20, 40), (0, 4), (8, 10), (20, 8), (20, 8), (20, 8), (1, 3), (20, 1240), (7, 4), (20, 8), (20, 8), (20, 8), (20, 3), (0, 4), (8, 10), (20, 8), (20, 8), (20, 8), (1, 3), (20, 1240), (7, 4), (20, 8), (20, 8), (20, 8), (20, 3), (8, 10), (20, 8), (20, 8), (20, 8), (4, 4), (23, 8), (20, 9), (20, 9), (20, 9), (20, 9), (20, 9), (20, 9), (20, 9), (20, 9), (24, 9), (22, 512), (22, 512), (22, 512), (22, 512), (22, 512), (22, 512), (22, 512), (22, 512), (22, 512), (20, 8), (12, 60), (25, 5), (25, 7), (20, 16), (20, 16), (20, 16), (20, 16), (20, 18), (20, 18), (20, 18), (20, 20), (20, 1400), (20, 1400), (20, 3), (20, 700), (20, 8), (20, 8), (20, 8), (20, 1240), (20, 7), (20, 64), (22, 4608), (20, 72), (20, 3), (20, 31), (20, 8), (20, 8), (20, 8), (20, 31), (20, 1240), (20, 8), (20, 8), (20, 8), (20, 3), (22, 1)]
def kd (a : Nat) : Nat × Nat := kdL.getD a (99, 0)
def rfs : Nat → Nat → Option ((Nat → Bool) → Nat → Nat)
  | 0, 0 => some (fun _ a => a + 1)
  | 0, 1 => some (fun _ a => a + 5)
  | 0, 2 => some (fun _ a => a + 7)
  | 0, 3 => some (fun _ a => a + 11)
  | 1, 0 => some (fun _ a => a + 1)
  | 2, 0 => some (fun _ a => a + 1)
  | 2, 1 => some (fun _ a => a + 2)
  | 2, 2 => some (fun _ a => a + 3)
  | 2, 3 => some (fun _ a => a + 4)
  | 2, 4 => some (fun _ a => a + 5)
  | 2, 5 => some (fun _ a => a + 6)
  | 2, 6 => some (fun _ a => a + 7)
  | 2, 7 => some (fun _ a => a + 8)
  | 2, 8 => some (fun _ a => a + 11)
  | 3, 0 => some (fun _ a => a + 1)
  | 3, 1 => some (fun b _ => isA (b 0))
  | 4, 0 => some (fun _ a => a + 1)
  | 4, 1 => some (fun _ a => a + 10)
  | 5, 0 => some (fun _ a => a + 1)
  | 5, 1 => some (fun b _ => isA (b 2))
  | 5, 2 => some (fun b _ => ruA (b 3) (b 4))
  | 6, 0 => some (fun _ a => a + 1)
  | 6, 1 => some (fun _ a => a + 2)
  | 7, 0 => some (fun _ a => a + 1)
  | 7, 1 => some (fun _ a => a + 2)
  | 7, 2 => some (fun _ a => a + 3)
  | 8, 7 => some (fun _ a => a + 1)
  | 8, 8 => some (fun _ a => a + 2)
  | 8, 9 => some (fun _ a => a + 3)
  | 9, 0 => some (fun _ a => a + 1)
  | 10, 0 => some (fun _ _ => 2)
  | 10, 1 => some (fun _ a => a + 1)
  | 10, 2 => some (fun _ a => a + 2)
  | 10, 3 => some (fun _ a => a + 3)
  | 11, 0 => some (fun _ _ => 1)
  | 11, 1 => some (fun _ _ => 17)
  | 11, 2 => some (fun _ _ => 22)
  | 11, 3 => some (fun _ _ => 38)
  | 11, 4 => some (fun _ _ => 50)
  | 11, 5 => some (fun _ _ => 62)
  | 11, 6 => some (fun _ _ => 66)
  | 11, 7 => some (fun _ _ => 86)
  | 11, 8 => some (fun b _ => isA (b 1))
  | 12, 0 => some (fun _ _ => 88)
  | 12, 1 => some (fun _ _ => 89)
  | 12, 2 => some (fun b _ => vaA (b 5))
  | 12, 4 => some (fun _ _ => 90)
  | 12, 5 => some (fun _ _ => 91)
  | 12, 6 => some (fun _ _ => 92)
  | 12, 7 => some (fun _ _ => 93)
  | 12, 8 => some (fun _ _ => 94)
  | 12, 9 => some (fun _ _ => 95)
  | 12, 10 => some (fun _ _ => 96)
  | 12, 11 => some (fun _ _ => 97)
  | 12, 12 => some (fun _ _ => 98)
  | 12, 13 => some (fun _ _ => 99)
  | 12, 14 => some (fun _ _ => 100)
  | 12, 15 => some (fun _ _ => 101)
  | 12, 27 => some (fun _ _ => 102)
  | 12, 28 => some (fun _ _ => 103)
  | 12, 29 => some (fun _ _ => 104)
  | 12, 30 => some (fun _ _ => 105)
  | 12, 40 => some (fun _ _ => 106)
  | 12, 41 => some (fun _ _ => 107)
  | 12, 44 => some (fun _ _ => 108)
  | 12, 45 => some (fun _ _ => 109)
  | 12, 46 => some (fun _ _ => 110)
  | 12, 47 => some (fun _ _ => 111)
  | 12, 48 => some (fun _ _ => 112)
  | 12, 49 => some (fun _ _ => 113)
  | 12, 50 => some (fun _ _ => 114)
  | 12, 54 => some (fun _ _ => 115)
  | 12, 55 => some (fun _ _ => 116)
  | 12, 56 => some (fun _ _ => 117)
  | 12, 57 => some (fun _ _ => 118)
  | 12, 58 => some (fun _ _ => 119)
  | 12, 59 => some (fun _ _ => 120)
  | _, _ => none
def nf : Nat → Nat
  | 0 => 4
  | 1 => 3
  | 2 => 17
  | 3 => 2
  | 4 => 4
  | 5 => 8
  | 6 => 3
  | 7 => 4
  | 8 => 10
  | 9 => 2
  | 10 => 7
  | 11 => 10
  | 12 => 60
  | _ => 0
def fv (ci k : Nat) (M : Mem) (a : Nat) : Value := match rfs ci k with
  | none => .int (M.1 a k)
  | some g => .ref (g M.2.2 a)
def flds (ci : Nat) (M : Mem) (a : Nat) : List Value := (List.range (nf ci)).map (fun k => fv ci k M a)
/-- the cells of a memory: addresses from 0 on, strings from 1000 on, array kinds by number -/
def cel (M : Mem) (a : Nat) : va_E :=
  if (kd a).1 = 20 then .inl (0, (kd a).2, .inl (M.1 a))
  else if (kd a).1 = 21 then .inl (1, (kd a).2, .inl (M.1 a))
  else if (kd a).1 = 22 then .inl (2, (kd a).2, .inr (.inl (M.2.1 a)))
  else if (kd a).1 = 23 then .inl (3, (kd a).2, .inr (.inr (.inr (.inr (fun j => some (a + 1 + j))))))
  else if (kd a).1 = 24 then .inl (4, (kd a).2, .inr (.inr (.inr (.inr (fun j => some (a + 1 + j))))))
  else if (kd a).1 = 25 then .inl (5, (kd a).2, .inr (.inr (.inr (.inr (fun j => some (1000 + j))))))
  else .inr ((kd a).1, flds (kd a).1 M a)
def ph (E : EV) (a : Nat) : Nat := if a < 1000 then E.1 + a else E.2.2.2.1 (a - 1000)
def cvv (E : EV) : Value → Value
  | .ref a => .ref (ph E a)
  | v => v
def cvr (E : EV) : (Nat → Int32) ⊕ (Nat → Int64) ⊕ (Nat → UInt32) ⊕ (Nat → UInt64) ⊕ (Nat → Option Nat) → (Nat → Int32) ⊕ (Nat → Int64) ⊕ (Nat → UInt32) ⊕ (Nat → UInt64) ⊕ (Nat → Option Nat)
  | .inr (.inr (.inr (.inr f))) => .inr (.inr (.inr (.inr (fun j => (f j).map (ph E)))))
  | x => x
def cvc (E : EV) : va_E → va_E
  | .inl (k, n, x) => .inl (E.2.2.1 k, n, cvr E x)
  | .inr (ci, fs) => .inr (ci, fs.map (cvv E))
def cvl (E : EV) (q : Nat × Value) : Nat × Value := (q.1, cvv E q.2)
def wld (E : EV) (n : Nat) (F : Nat → va_E) : va_W := va_pl ((List.range n).map (fun a => E.1 + a)) (fun q => cvc E (F (q - E.1)))
def Ab (E : EV) : Nat → Prop := fun q => E.1 ≤ q
def tysOf (E : EV) : List (ClassId × FieldType) := [(E.2.2.1 0, .int), (E.2.2.1 1, .byte), (E.2.2.1 2, .long), (E.2.2.1 3, .array .int), (E.2.2.1 4, .array .long), (E.2.2.1 5, .object "java/lang/String")]
theorem ph_lt (E : EV) {a : Nat} (h : a < 1000) : ph E a = E.1 + a := if_pos h
theorem wld_at (E : EV) (n : Nat) (F : Nat → va_E) (k : Nat) : (wld E n F)[k]? = if k < n then some (E.1 + k, cvc E (F k)) else none := by
  unfold wld va_pl
  rw [List.getElem?_map, List.getElem?_map]
  by_cases h : k < n
  · rw [List.getElem?_range h, if_pos h]
    simp
  · rw [if_neg h, List.getElem?_eq_none (by rw [List.length_range]; omega)]
    rfl
theorem wld_get {E : EV} {n : Nat} {F : Nat → va_E} {a : Nat} (h : a < n) : (wld E n F)[a]? = some (E.1 + a, cvc E (F a)) := by rw [wld_at, if_pos h]
theorem wld_ext {E : EV} {n : Nat} {F G : Nat → va_E} (h : ∀ a, a < n → F a = G a) : wld E n F = wld E n G := by
  apply List.ext_getElem?
  intro k
  rw [wld_at, wld_at]
  by_cases hk : k < n
  · rw [if_pos hk, if_pos hk, h k hk]
  · rw [if_neg hk, if_neg hk]
theorem wld_set {E : EV} {n : Nat} {F : Nat → va_E} {a : Nat} (h : a < n) (e : va_E) : (wld E n F).set a (E.1 + a, cvc E e) = wld E n (va_up F a e) := by
  apply List.ext_getElem?
  intro k
  have hl : a < (wld E n F).length := by
    have := wld_get (E := E) (F := F) h
    exact (List.getElem?_eq_some_iff.mp this).1
  by_cases hk : k = a
  · subst hk
    rw [List.getElem?_set_self hl, wld_at, if_pos h]
    unfold va_up
    rw [if_pos rfl]
  · rw [List.getElem?_set_ne (fun q => hk q.symm), wld_at, wld_at]
    unfold va_up
    rw [if_neg hk]
theorem wld_push {E : EV} {n : Nat} {F : Nat → va_E} (e : va_E) : wld E n F ++ [(E.1 + n, cvc E e)] = wld E (n + 1) (va_up F n e) := by
  have hlen : (wld E n F).length = n := by unfold wld va_pl; simp
  apply List.ext_getElem?
  intro k
  by_cases hk : k < n
  · rw [List.getElem?_append_left (by omega), wld_at, wld_at, if_pos hk, if_pos (by omega)]
    unfold va_up
    rw [if_neg (by omega)]
  · rw [List.getElem?_append_right (by omega), wld_at, hlen]
    by_cases h2 : k = n
    · subst h2
      rw [if_pos (by omega), Nat.sub_self]
      unfold va_up
      rw [if_pos rfl]
      rfl
    · rw [if_neg (by omega), List.getElem?_eq_none (by simp; omega)]
theorem wld_D (E : EV) (n : Nat) (F : Nat → va_E) : va_D (Ab E) (wld E n F) := by
  refine ⟨fun i j p q hi hj hpq => ?_, fun k q hk => ?_⟩
  · rw [wld_at] at hi hj
    by_cases h1 : i < n <;> by_cases h2 : j < n
    · rw [if_pos h1] at hi; rw [if_pos h2] at hj
      cases hi; cases hj
      have : E.1 + i = E.1 + j := hpq
      omega
    · rw [if_neg h2] at hj; cases hj
    · rw [if_neg h1] at hi; cases hi
    · rw [if_neg h1] at hi; cases hi
  · rw [wld_at] at hk
    by_cases h1 : k < n
    · rw [if_pos h1] at hk
      cases hk
      exact Nat.le_add_right _ _
    · rw [if_neg h1] at hk; cases hk
theorem cel_obj {M : Mem} {a ci N : Nat} (h : kd a = (ci, N)) (hc : ci < 20) : cel M a = .inr (ci, flds ci M a) := by
  unfold cel
  rw [h]
  simp only
  rw [if_neg (by omega), if_neg (by omega), if_neg (by omega), if_neg (by omega), if_neg (by omega), if_neg (by omega)]
theorem cel_i {M : Mem} {a n : Nat} (h : kd a = (20, n)) : cel M a = .inl (0, n, .inl (M.1 a)) := by unfold cel; rw [h]; rfl
theorem cel_b {M : Mem} {a n : Nat} (h : kd a = (21, n)) : cel M a = .inl (1, n, .inl (M.1 a)) := by unfold cel; rw [h]; rfl
theorem cel_l {M : Mem} {a n : Nat} (h : kd a = (22, n)) : cel M a = .inl (2, n, .inr (.inl (M.2.1 a))) := by unfold cel; rw [h]; rfl
theorem cel_ii {M : Mem} {a n : Nat} (h : kd a = (23, n)) : cel M a = .inl (3, n, .inr (.inr (.inr (.inr (fun j => some (a + 1 + j)))))) := by unfold cel; rw [h]; rfl
theorem cel_ll {M : Mem} {a n : Nat} (h : kd a = (24, n)) : cel M a = .inl (4, n, .inr (.inr (.inr (.inr (fun j => some (a + 1 + j)))))) := by unfold cel; rw [h]; rfl
theorem cel_s {M : Mem} {a n : Nat} (h : kd a = (25, n)) : cel M a = .inl (5, n, .inr (.inr (.inr (.inr (fun j => some (1000 + j)))))) := by unfold cel; rw [h]; rfl
theorem kd_lt {a ci N : Nat} (h : kd a = (ci, N)) (hc : ci < 99) : a < NN := by
  by_cases q : a < kdL.length
  · exact q
  · unfold kd at h
    rw [List.getD_eq_getElem?_getD, List.getElem?_eq_none (by omega)] at h
    cases h
    omega
theorem fv_si_ne {ci k a a2 k2 : Nat} {M : Mem} {v : Int32} (h : a2 ≠ a ∨ k2 ≠ k) : fv ci k2 (si M a k v) a2 = fv ci k2 M a2 := by
  unfold fv
  cases hr : rfs ci k2 with
  | none =>
    simp only [si]
    rw [if_neg (by omega)]
  | some g => rfl
/-- the world behind a store of an int into a field -/
theorem cel_si_obj {M : Mem} {a ci N k : Nat} {v : Int32} (h : kd a = (ci, N)) (hc : ci < 20) (hr : (rfs ci k).isNone = true) (b : Nat) : va_up (cel M) a (.inr (ci, (flds ci M a).set k (.int v))) b = cel (si M a k v) b := by
  unfold va_up
  by_cases hb : b = a
  · rw [if_pos hb]
    subst hb
    rw [cel_obj h hc]
    congr 2
    apply List.ext_getElem?
    intro j
    unfold flds
    rw [List.getElem?_map, List.getElem?_set]
    rw [List.getElem?_map]
    by_cases hj : k = j
    · subst hj
      rw [if_pos rfl]
      by_cases hl : k < nf ci
      · rw [if_pos (by simpa using hl), List.getElem?_range hl]
        simp only [Option.map_some]
        unfold fv
        cases hq : rfs ci k with
        | none => simp [si]
        | some g => rw [hq] at hr; cases hr
      · rw [if_neg (by simpa using hl), List.getElem?_eq_none (by simpa using hl)]
        rfl
    · rw [if_neg hj]
      cases hq : (List.range (nf ci))[j]? with
      | none => rfl
      | some j2 =>
        have hj2 : j2 = j := by
          have := List.getElem?_eq_some_iff.mp hq
          obtain ⟨h1, h2⟩ := this
          rw [List.getElem_range] at h2
          exact h2.symm
        subst hj2
        simp only [Option.map_some]
        rw [fv_si_ne (Or.inr (fun q => hj q.symm))]
  · rw [if_neg hb]
    unfold cel
    have e : (si M a k v).1 b = M.1 b := by
      funext y
      simp only [si]
      rw [if_neg (fun q => hb q.1)]
    have e3 : flds (kd b).1 (si M a k v) b = flds (kd b).1 M b := by
      unfold flds
      apply List.map_congr_left
      intro j _
      exact fv_si_ne (Or.inl hb)
    rw [e, e3]
    rfl
theorem cel_si_arr {M : Mem} {a n k t : Nat} {v : Int32} (h : kd a = (t, n)) (ht : t = 20 ∨ t = 21) (b : Nat) : va_up (cel M) a (.inl (t - 20, n, .inl (upd (M.1 a) k v))) b = cel (si M a k v) b := by
  unfold va_up
  by_cases hb : b = a
  · rw [if_pos hb]
    subst hb
    have e : (si M b k v).1 b = upd (M.1 b) k v := by
      funext y
      simp [si, upd]
    rcases ht with rfl | rfl
    · rw [cel_i h, e]
    · rw [cel_b h, e]
  · rw [if_neg hb]
    unfold cel
    have e : (si M a k v).1 b = M.1 b := by
      funext y
      simp only [si]
      rw [if_neg (fun q => hb q.1)]
    have e3 : flds (kd b).1 (si M a k v) b = flds (kd b).1 M b := by
      unfold flds
      apply List.map_congr_left
      intro j _
      exact fv_si_ne (Or.inl hb)
    rw [e, e3]
    rfl
theorem cel_sl_arr {M : Mem} {a n k : Nat} {v : Int64} (h : kd a = (22, n)) (b : Nat) : va_up (cel M) a (.inl (2, n, .inr (.inl (vp_updL (M.2.1 a) k v)))) b = cel (sl M a k v) b := by
  unfold va_up
  by_cases hb : b = a
  · rw [if_pos hb]
    subst hb
    have e : (sl M b k v).2.1 b = vp_updL (M.2.1 b) k v := by
      funext y
      simp [sl, vp_updL]
    rw [cel_l h, e]
  · rw [if_neg hb]
    unfold cel
    have e : (sl M a k v).2.1 b = M.2.1 b := by
      funext y
      simp only [sl]
      rw [if_neg (fun q => hb q.1)]
    rw [e]
    rfl
theorem cel_scp {M : Mem} {a b0 n p r m : Nat} (h : kd a = (20, n)) (b : Nat) : va_up (cel M) a (.inl (0, n, .inl (va_cpy (M.1 b0) (M.1 a) p r m))) b = cel (scp M b0 p a r m) b := by
  unfold va_up
  by_cases hb : b = a
  · rw [if_pos hb]
    subst hb
    have e : (scp M b0 p b r m).1 b = va_cpy (M.1 b0) (M.1 b) p r m := by
      funext y
      simp [scp, va_cpy]
    rw [cel_i h, e]
  · rw [if_neg hb]
    unfold cel
    have e : (scp M b0 p a r m).1 b = M.1 b := by
      funext y
      simp only [scp]
      rw [if_neg (fun q => hb q.1)]
    have e3 : flds (kd b).1 (scp M b0 p a r m) b = flds (kd b).1 M b := by
      unfold flds
      apply List.map_congr_left
      intro j _
      unfold fv
      cases hr : rfs (kd b).1 j with
      | none => simp only; rw [e]
      | some g => rfl
    rw [e, e3]
    rfl

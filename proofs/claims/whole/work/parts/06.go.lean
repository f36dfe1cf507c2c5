theorem lg_sl_cv (E : EV) : ∀ (av : List Value), (lg_sl (av.map (cvv E))).length = (lg_sl av).length := by
  intro av
  induction av with
  | nil => rfl
  | cons v av ih =>
    have e : ∀ (w : Value) (l : List Value), (lg_sl (w :: l)).length = (if w.category = 2 then 2 else 1) + (lg_sl l).length := by
      intro w l
      unfold lg_sl
      rw [List.flatMap_cons, List.length_append]
      congr 1
      by_cases h : w.category = 2
      · rw [if_pos h, if_pos h]; rfl
      · rw [if_neg h, if_neg h]; rfl
    rw [List.map_cons, e, e, ih, cvv_cat]
theorem lv_args_cv (E : EV) : ∀ (av : List Value) (i : Nat), lv_args i (av.map (cvv E)) = (lv_args i av).map (cvl E) := by
  intro av
  induction av with
  | nil => intro i; rfl
  | cons v av ih =>
    intro i
    simp only [List.map_cons, lv_args, ih, cvv_cat]
    rfl
def rmOf (d mc ms : Nat) : Room := { frames := d, cells := mc, slots := ms, locals := 100 * d }
def wsOf (mi : MI) : List Cond := .code mi.2.2.2 mi.1 mi.2.1 mi.2.2.1 :: TB
def Cp (E : EV) (n : Nat) (F : Nat → va_E) (av : List Value) : Array Value → State → Prop := fun v U => v = (av.map (cvv E)).toArray ∧ va_P E.2.1 vwCl (wld E n F) U.heap ∧ Tb E U ∧ Old E U U.heap ∧ (n < NN → U.heap.size = E.1 + n) ∧ E.1 ≤ U.heap.size
def Cq (E : EV) (n : Nat) (F : Nat → va_E) (ρ : String ⊕ Option Value) : Array Value → State → Outcome → State → Prop := fun _ st o t => (∃ r, ρ = .inr r ∧ o = .returned (r.map (cvv E))) ∧ va_P E.2.1 vwCl (wld E n F) t.heap ∧ (n < NN → t.heap.size = E.1 + n) ∧ va_F (Ab E) st t
def Cx (E : EV) (n : Nat) (F : Nat → va_E) (ρ : String ⊕ Option Value) : String → State → State → Prop := fun X st t => ρ = .inl X ∧ va_P E.2.1 vwCl (wld E n F) t.heap ∧ (n < NN → t.heap.size = E.1 + n) ∧ va_F (Ab E) st t
def QM (n : Nat) (F : Nat → va_E) (ρ : String ⊕ Option Value) (mc ms : Nat) : QXT := fun E s args below => vx_MQ below (Cq E n F ρ) (Cx E n F ρ) args s mc ms (Ab E)
def BXm : BXT := fun _ _ _ c => ∀ x ∈ c.exceptionTable.toList, False
/-- the contract of a method -/
def CT (d : Nat) (mi : MI) (n n2 mc ms : Nat) (av : List Value) (F : Nat → va_E) (ρ : String ⊕ Option Value) (F2 : Nat → va_E) : Prop :=
  ∀ (l : Launch) (E : EV), l.stackTraces = false → vx_Met l mi.2.2.2 (wsOf mi) (rmOf d mc ms) (Cp E n F av) (Cq E n2 F2 ρ) (Cx E n2 F2 ρ) mc ms (Ab E)
theorem Cp.blind {E : EV} {n : Nat} {F : Nat → va_E} {av : List Value} : FrameBlind (Cp E n F av) := by
  intro a U g mk h
  obtain ⟨h1, h2, h3, h4, h5, h6⟩ := h
  exact ⟨h1, h2, Tb.warm (State.WarmedH.refl U) h3, Old.moved (u := U) (Vm.Alike.refl U.vm) h4, h5, h6⟩
theorem CT.of {d : Nat} {mi : MI} {n n2 mc ms : Nat} {av : List Value} {F F2 : Nat → va_E} {ρ : String ⊕ Option Value} (hy : plainName mi.2.2.2.cls = true) (hlen : (lg_sl av).length ≤ mi.2.1)
    (h : VQ mi (rmOf d mc ms) BXm (QM n2 F2 ρ mc ms) n 0 0 0 (lv_args 0 av) [] F) : CT d mi n n2 mc ms av F ρ F2 := by
  intro l E hst
  refine vx_ofW (cc := mi.1) (maxL := mi.2.1) (ret := mi.2.2.1) hy rfl ?_
  intro p e s m args below meth c s₁ B hml htab hv
  obtain ⟨rfl, hP, hT, hO, hz, hb⟩ := hv
  have hts := atoms_spec (ws := wsOf mi) B.pre
  have hl := lv_entry (av.map (cvv E)) (n := mi.2.1) (by rw [lg_sl_cv]; exact hlen)
  rw [lg_entry_eq]
  generalize (lg_sl (av.map (cvv E)) ++ List.replicate (mi.2.1 - (lg_sl (av.map (cvv E))).length) Slot.unset).toArray = ls at hl ⊢
  rw [lv_args_cv] at hl
  exact h l E p e s m _ below meth c ls s.heap [] ⟨⟨B.exec, B.bytes, hml, B.returns, B.notSynchronized, (name_of_methodNamed B.named B.method).1⟩, findClass_of_methodNamed B.named, fun w hw => hts w (List.mem_cons_of_mem _ hw), hT, hO, hst, hb⟩ htab hl hP va_S.rf hz
abbrev RS : Type := Option (Mem × (Nat ⊕ Option Value))
def rho : Nat ⊕ Option Value → String ⊕ Option Value
  | .inl k => .inl (exN k)
  | .inr v => .inr v
/-- from here the method comes to its end, with the answer and the memory that o says -/
def GO (mi : MI) (d mc ms cells slots pc : Nat) (L : List (Nat × Value)) (st : List Value) (M : Mem) (o : RS) : Prop :=
  ∀ M' ρ, o = some (M', ρ) → VQ mi (rmOf d mc ms) BXm (QM NN (cel M') (rho ρ) mc ms) NN cells slots pc L st (cel M)
def CTO (d : Nat) (mi : MI) (mc ms : Nat) (av : List Value) (M : Mem) (o : RS) : Prop := ∀ M' ρ, o = some (M', ρ) → CT d mi NN NN mc ms av (cel M) (rho ρ) (cel M')
def chk (b : Bool) (k : RS) : RS := if b = true then k else none
def inb (i : Int32) (n : Nat) : Bool := !(decide (i < 0) || decide (n ≤ i.toNatClampNeg))
def ix (i : Int32) : Nat := i.toNatClampNeg
theorem inb_iff {i : Int32} {n : Nat} : inb i n = true ↔ vp_in i n := by
  unfold inb vp_in
  simp
def isZ (v : Int32) : Bool := decide (v = 0) || decide (v = 1)
section
variable {mi : MI} {d mc ms cells slots pc : Nat} {L : List (Nat × Value)} {st : List Value} {M : Mem} {o : RS}
theorem CTO.of {av : List Value} (hy : plainName mi.2.2.2.cls = true) (hlen : (lg_sl av).length ≤ mi.2.1) (h : GO mi d mc ms 0 0 0 (lv_args 0 av) [] M o) : CTO d mi mc ms av M o :=
  fun M' ρ e => CT.of hy hlen (h M' ρ e)
theorem GO.none : GO mi d mc ms cells slots pc L st M none := fun _ _ e => by cases e
theorem GO.pick {L' : List (Nat × Value)} (ks : List Nat) (hk : lv_pick L ks = L') (h : GO mi d mc ms cells slots pc L' st M o) : GO mi d mc ms cells slots pc L st M o := fun M' ρ e => VQ.drop (h M' ρ e) ks hk
theorem GO.widen {k j : Nat} (h1 : cells ≤ k) (h2 : slots ≤ j) (h : GO mi d mc ms k j pc L st M o) : GO mi d mc ms cells slots pc L st M o := fun M' ρ e => VQ.widen h1 h2 (h M' ρ e)
theorem flds_at {ci k : Nat} {M : Mem} {a : Nat} (hk : k < nf ci) : (flds ci M a)[k]? = some (fv ci k M a) := by
  unfold flds
  rw [List.getElem?_map, List.getElem?_range hk]
  rfl
theorem flds_len {ci : Nat} {M : Mem} {a : Nat} : (flds ci M a).length = nf ci := by
  unfold flds
  rw [List.length_map, List.length_range]
theorem g_get {ci N k idx a : Nat} {C : String} {T : u_T} {v : Value} (hC : Cls ci C T N) (hk : kd a = (ci, N)) (hkN : k < N) (hv : fv ci k M a = v) (hw : Cond.fieldLink mi.2.2.2.cls idx (T k).1 (T k).2.1 (T k).2.2.1 ∈ TB)
    (hd : decode mi.1 pc = .ok (.getfield idx, 3)) (h : GO mi d mc ms cells slots (pc + 3) L (v :: st) M o) : GO mi d mc ms cells slots pc L (.ref a :: st) M o := by
  intro M' ρ e l E p e' s m args below meth c ls H locs B b hl hP hS hz
  have ha : a < NN := kd_lt hk (by have := hC.1.2.1; omega)
  have hg := wld_get (E := E) (F := cel M) ha
  rw [cel_obj hk hC.1.2.1] at hg
  show W p l e' _ s m args below meth c H locs cells slots _ (F0 m pc ls (.ref (ph E a) :: st.map (cvv E)))
  rw [ph_lt E (Nat.lt_trans ha (by decide))]
  exact va_get (C := C) (T := T) (N := N) (ci := ci) (fs := (flds ci M a).map (cvv E)) (v := cvv E v) B.1.1 B.1.2.1 B.2.2.1 hC.2.1 B.2.1 B.2.2.2.1.1 hP a hg hC.1.1 k hkN (B.2.2.1 _ hw) (fun x hx => hx) (by rw [List.getElem?_map, flds_at (by rw [← hC.1.2.2]; exact hkN), hv]; rfl) hd (h M' ρ e l E p e' s m args below meth c ls H locs B b hl hP hS hz)
theorem g_getI {ci N k idx a : Nat} {C : String} {T : u_T} (hC : Cls ci C T N) (hk : kd a = (ci, N)) (hkN : k < N) (hr : (rfs ci k).isNone = true) (hw : Cond.fieldLink mi.2.2.2.cls idx (T k).1 (T k).2.1 (T k).2.2.1 ∈ TB)
    (hd : decode mi.1 pc = .ok (.getfield idx, 3)) (h : GO mi d mc ms cells slots (pc + 3) L (.int (gi M a k) :: st) M o) : GO mi d mc ms cells slots pc L (.ref a :: st) M o := by
  refine g_get hC hk hkN ?_ hw hd h
  unfold fv
  cases hq : rfs ci k with
  | none => rfl
  | some g => rw [hq] at hr; cases hr
theorem g_getR {ci N k idx a b : Nat} {C : String} {T : u_T} {g : (Nat → Bool) → Nat → Nat} (hC : Cls ci C T N) (hk : kd a = (ci, N)) (hkN : k < N) (hr : rfs ci k = some g) (hb : g M.2.2 a = b) (hw : Cond.fieldLink mi.2.2.2.cls idx (T k).1 (T k).2.1 (T k).2.2.1 ∈ TB)
    (hd : decode mi.1 pc = .ok (.getfield idx, 3)) (h : GO mi d mc ms cells slots (pc + 3) L (.ref b :: st) M o) : GO mi d mc ms cells slots pc L (.ref a :: st) M o := by
  refine g_get hC hk hkN ?_ hw hd h
  unfold fv
  rw [hr]
  show Value.ref (g M.2.2 a) = _
  rw [hb]
/-- a store into a field: the next memory has the world with this field set -/
theorem g_put {ci N k idx a : Nat} {C : String} {T : u_T} {v : Value} {ty : FieldType} {M1 : Mem} (hC : Cls ci C T N) (hk : kd a = (ci, N)) (hkN : k < N) (hf : (T k).2.2.2 = false) (hty : parseFieldDescriptor (T k).2.2.1 = some ty) (hn : ∀ E, narrow ty (cvv E v) = cvv E v) (hfit : ∀ E, fits ty (cvv E v) = true)
    (hM : ∀ b, va_up (cel M) a (.inr (ci, (flds ci M a).set k v)) b = cel M1 b) (hw : Cond.fieldLink mi.2.2.2.cls idx (T k).1 (T k).2.1 (T k).2.2.1 ∈ TB)
    (hd : decode mi.1 pc = .ok (.putfield idx, 3)) (h : GO mi d mc ms cells slots (pc + 3) L st M1 o) : GO mi d mc ms cells slots pc L (v :: .ref a :: st) M o := by
  intro M' ρ e l E p e' s m args below meth c ls H locs B b hl hP hS hz
  have ha : a < NN := kd_lt hk (by have := hC.1.2.1; omega)
  have hg := wld_get (E := E) (F := cel M) ha
  rw [cel_obj hk hC.1.2.1] at hg
  obtain ⟨ty0, hty0⟩ := hC.2.2.2
  have hset : (wld E NN (cel M)).set a (E.1 + a, .inr (ci, ((flds ci M a).map (cvv E)).set k (cvv E v))) = wld E NN (cel M1) := by
    have := wld_set (E := E) (F := cel M) ha (.inr (ci, (flds ci M a).set k v))
    rw [wld_ext (fun b _ => hM b)] at this
    rw [← this]
    congr 2
    show Sum.inr _ = Sum.inr _
    rw [List.map_set]
  show W p l e' _ s m args below meth c H locs cells slots _ (F0 m pc ls (cvv E v :: .ref (ph E a) :: st.map (cvv E)))
  rw [ph_lt E (Nat.lt_trans ha (by decide))]
  refine va_put (C := C) (T := T) (N := N) (ci := ci) (ty := ty) (H0 := s.heap) B.1.1 B.1.2.1 B.2.2.1 hC.2.1 ty0 hty0 hC.2.2.1 B.2.1 B.2.2.2.1.1 hP (wld_D E NN (cel M)) hS a hg hC.1.1 k hkN (B.2.2.1 _ hw) (fun x hx => hx) hf hty (hn E) (hfit E) (by rw [List.length_map, flds_len, ← hC.1.2.2]; exact hkN) hd (fun H1 locs1 hP1 hD1 hS1 => ?_)
  rw [hset] at hP1
  exact h M' ρ e l E p e' s m args below meth c ls H1 locs1 B b hl hP1 hS1 (fun q => absurd q (Nat.lt_irrefl _))
theorem g_putI {ci N k idx a : Nat} {C : String} {T : u_T} {v : Int32} (hC : Cls ci C T N) (hk : kd a = (ci, N)) (hkN : k < N) (hf : (T k).2.2.2 = false) (hty : parseFieldDescriptor (T k).2.2.1 = some .int) (hr : (rfs ci k).isNone = true) (hw : Cond.fieldLink mi.2.2.2.cls idx (T k).1 (T k).2.1 (T k).2.2.1 ∈ TB)
    (hd : decode mi.1 pc = .ok (.putfield idx, 3)) (h : GO mi d mc ms cells slots (pc + 3) L st (si M a k v) o) : GO mi d mc ms cells slots pc L (.int v :: .ref a :: st) M o :=
  g_put hC hk hkN hf hty (fun _ => rfl) (fun _ => rfl) (fun b => cel_si_obj hk hC.1.2.1 hr b) hw hd h
theorem isZ_nar {v : Int32} (h : isZ v = true) : narrow .boolean (.int v) = .int v := by
  unfold isZ at h
  simp only [Bool.or_eq_true, decide_eq_true_eq] at h
  rcases h with rfl | rfl <;> decide
theorem isZ_fit {v : Int32} (h : isZ v = true) : fits .boolean (.int v) = true := by
  unfold isZ at h
  simp only [Bool.or_eq_true, decide_eq_true_eq] at h
  rcases h with rfl | rfl <;> decide
theorem chk_t {b : Bool} {k : RS} {M' : Mem} {ρ : Nat ⊕ Option Value} (h : chk b k = some (M', ρ)) : b = true ∧ k = some (M', ρ) := by
  unfold chk at h
  by_cases hb : b = true
  · rw [if_pos hb] at h; exact ⟨hb, h⟩
  · rw [if_neg hb] at h; cases h
theorem GO.chk {b : Bool} (h : b = true → GO mi d mc ms cells slots pc L st M o) : GO mi d mc ms cells slots pc L st M (chk b o) := fun M' ρ e => h (chk_t e).1 M' ρ (chk_t e).2
theorem g_putZ {ci N k idx a : Nat} {C : String} {T : u_T} {v : Int32} (hC : Cls ci C T N) (hk : kd a = (ci, N)) (hkN : k < N) (hf : (T k).2.2.2 = false) (hty : parseFieldDescriptor (T k).2.2.1 = some .boolean) (hr : (rfs ci k).isNone = true) (hz : isZ v = true) (hw : Cond.fieldLink mi.2.2.2.cls idx (T k).1 (T k).2.1 (T k).2.2.1 ∈ TB)
    (hd : decode mi.1 pc = .ok (.putfield idx, 3)) (h : GO mi d mc ms cells slots (pc + 3) L st (si M a k v) o) : GO mi d mc ms cells slots pc L (.int v :: .ref a :: st) M o :=
  g_put hC hk hkN hf hty (fun _ => isZ_nar hz) (fun _ => isZ_fit hz) (fun b => cel_si_obj hk hC.1.2.1 hr b) hw hd h
end
section
variable {mi : MI} {d mc ms cells slots pc : Nat} {L : List (Nat × Value)} {st : List Value} {M : Mem} {o A B : RS}
theorem g_iconst {k : Int} {v : Int32} (hv : Int32.ofInt k = v) (hd : decode mi.1 pc = .ok (.iconst k, 1)) (h : GO mi d mc ms cells slots (pc + 1) L (.int v :: st) M o) : GO mi d mc ms cells slots pc L st M o := fun M' ρ e => q_iconst hv hd (h M' ρ e)
theorem g_bipush {k : Int} {v : Int32} (hv : (Int8.ofInt k).toInt32 = v) (hd : decode mi.1 pc = .ok (.bipush k, 2)) (h : GO mi d mc ms cells slots (pc + 2) L (.int v :: st) M o) : GO mi d mc ms cells slots pc L st M o := fun M' ρ e => q_bipush hv hd (h M' ρ e)
theorem g_sipush {k : Int} {v : Int32} (hv : (Int16.ofInt k).toInt32 = v) (hd : decode mi.1 pc = .ok (.sipush k, 3)) (h : GO mi d mc ms cells slots (pc + 3) L (.int v :: st) M o) : GO mi d mc ms cells slots pc L st M o := fun M' ρ e => q_sipush hv hd (h M' ρ e)
theorem g_lconst {k : Fin 2} {v : Int64} (hv : Int64.ofNat (k : Nat) = v) (hd : decode mi.1 pc = .ok (.lconst k, 1)) (h : GO mi d mc ms cells slots (pc + 1) L (.long v :: st) M o) : GO mi d mc ms cells slots pc L st M o := fun M' ρ e => q_lconst hv hd (h M' ρ e)
theorem g_iadd {x y : Int32} (hd : decode mi.1 pc = .ok (.iadd, 1)) (h : GO mi d mc ms cells slots (pc + 1) L (.int (x + y) :: st) M o) : GO mi d mc ms cells slots pc L (.int y :: .int x :: st) M o := fun M' ρ e => q_iadd hd (h M' ρ e)
theorem g_isub {x y : Int32} (hd : decode mi.1 pc = .ok (.isub, 1)) (h : GO mi d mc ms cells slots (pc + 1) L (.int (x - y) :: st) M o) : GO mi d mc ms cells slots pc L (.int y :: .int x :: st) M o := fun M' ρ e => q_isub hd (h M' ρ e)
theorem g_imul {x y : Int32} (hd : decode mi.1 pc = .ok (.imul, 1)) (h : GO mi d mc ms cells slots (pc + 1) L (.int (x * y) :: st) M o) : GO mi d mc ms cells slots pc L (.int y :: .int x :: st) M o := fun M' ρ e => q_imul hd (h M' ρ e)
theorem g_iand {x y : Int32} (hd : decode mi.1 pc = .ok (.iand, 1)) (h : GO mi d mc ms cells slots (pc + 1) L (.int (x &&& y) :: st) M o) : GO mi d mc ms cells slots pc L (.int y :: .int x :: st) M o := fun M' ρ e => q_iand hd (h M' ρ e)
theorem g_ior {x y : Int32} (hd : decode mi.1 pc = .ok (.ior, 1)) (h : GO mi d mc ms cells slots (pc + 1) L (.int (x ||| y) :: st) M o) : GO mi d mc ms cells slots pc L (.int y :: .int x :: st) M o := fun M' ρ e => q_ior hd (h M' ρ e)
theorem g_ixor {x y : Int32} (hd : decode mi.1 pc = .ok (.ixor, 1)) (h : GO mi d mc ms cells slots (pc + 1) L (.int (x ^^^ y) :: st) M o) : GO mi d mc ms cells slots pc L (.int y :: .int x :: st) M o := fun M' ρ e => q_ixor hd (h M' ρ e)
theorem g_ishl {x y : Int32} (hd : decode mi.1 pc = .ok (.ishl, 1)) (h : GO mi d mc ms cells slots (pc + 1) L (.int (x <<< (y &&& 31)) :: st) M o) : GO mi d mc ms cells slots pc L (.int y :: .int x :: st) M o := fun M' ρ e => q_ishl hd (h M' ρ e)
theorem g_ishr {x y : Int32} (hd : decode mi.1 pc = .ok (.ishr, 1)) (h : GO mi d mc ms cells slots (pc + 1) L (.int (x >>> (y &&& 31)) :: st) M o) : GO mi d mc ms cells slots pc L (.int y :: .int x :: st) M o := fun M' ρ e => q_ishr hd (h M' ρ e)
theorem g_iushr {x y : Int32} (hd : decode mi.1 pc = .ok (.iushr, 1)) (h : GO mi d mc ms cells slots (pc + 1) L (.int ((x.toUInt32 >>> (y.toUInt32 &&& Int32.toUInt32 31)).toInt32) :: st) M o) : GO mi d mc ms cells slots pc L (.int y :: .int x :: st) M o := fun M' ρ e => q_iushr hd (h M' ρ e)
theorem g_ladd {x y : Int64} (hd : decode mi.1 pc = .ok (.ladd, 1)) (h : GO mi d mc ms cells slots (pc + 1) L (.long (x + y) :: st) M o) : GO mi d mc ms cells slots pc L (.long y :: .long x :: st) M o := fun M' ρ e => q_ladd hd (h M' ρ e)
theorem g_lsub {x y : Int64} (hd : decode mi.1 pc = .ok (.lsub, 1)) (h : GO mi d mc ms cells slots (pc + 1) L (.long (x - y) :: st) M o) : GO mi d mc ms cells slots pc L (.long y :: .long x :: st) M o := fun M' ρ e => q_lsub hd (h M' ρ e)
theorem g_idiv {x y : Int32} (hy : ¬ y = 0) (hd : decode mi.1 pc = .ok (.idiv, 1)) (h : GO mi d mc ms cells slots (pc + 1) L (.int (x / y) :: st) M o) : GO mi d mc ms cells slots pc L (.int y :: .int x :: st) M o := fun M' ρ e => q_idiv hy hd (h M' ρ e)
theorem g_irem {x y : Int32} (hy : ¬ y = 0) (hd : decode mi.1 pc = .ok (.irem, 1)) (h : GO mi d mc ms cells slots (pc + 1) L (.int (x - x / y * y) :: st) M o) : GO mi d mc ms cells slots pc L (.int y :: .int x :: st) M o := fun M' ρ e => q_irem hy hd (h M' ρ e)
theorem g_ineg {x : Int32} (hd : decode mi.1 pc = .ok (.ineg, 1)) (h : GO mi d mc ms cells slots (pc + 1) L (.int (-x) :: st) M o) : GO mi d mc ms cells slots pc L (.int x :: st) M o := fun M' ρ e => q_ineg hd (h M' ρ e)
theorem g_i2l {x : Int32} (hd : decode mi.1 pc = .ok (.i2l, 1)) (h : GO mi d mc ms cells slots (pc + 1) L (.long x.toInt64 :: st) M o) : GO mi d mc ms cells slots pc L (.int x :: st) M o := fun M' ρ e => q_i2l hd (h M' ρ e)
theorem g_l2i {x : Int64} (hd : decode mi.1 pc = .ok (.l2i, 1)) (h : GO mi d mc ms cells slots (pc + 1) L (.int x.toInt32 :: st) M o) : GO mi d mc ms cells slots pc L (.long x :: st) M o := fun M' ρ e => q_l2i hd (h M' ρ e)
theorem g_i2b {x : Int32} (hd : decode mi.1 pc = .ok (.i2b, 1)) (h : GO mi d mc ms cells slots (pc + 1) L (.int x.toInt8.toInt32 :: st) M o) : GO mi d mc ms cells slots pc L (.int x :: st) M o := fun M' ρ e => q_i2b hd (h M' ρ e)
theorem g_i2c {x : Int32} (hd : decode mi.1 pc = .ok (.i2c, 1)) (h : GO mi d mc ms cells slots (pc + 1) L (.int (x.toUInt32 % 65536).toInt32 :: st) M o) : GO mi d mc ms cells slots pc L (.int x :: st) M o := fun M' ρ e => q_i2c hd (h M' ρ e)
theorem g_lcmp {x y : Int64} (hd : decode mi.1 pc = .ok (.lcmp, 1)) (h : GO mi d mc ms cells slots (pc + 1) L (.int (lg_cmp x y) :: st) M o) : GO mi d mc ms cells slots pc L (.long y :: .long x :: st) M o := fun M' ρ e => q_lcmp hd (h M' ρ e)
theorem g_dup_int {x : Int32} (hd : decode mi.1 pc = .ok (.dup, 1)) (h : GO mi d mc ms cells slots (pc + 1) L (.int x :: .int x :: st) M o) : GO mi d mc ms cells slots pc L (.int x :: st) M o := fun M' ρ e => q_dup_int hd (h M' ρ e)
theorem g_pop_int {x : Int32} (hd : decode mi.1 pc = .ok (.pop, 1)) (h : GO mi d mc ms cells slots (pc + 1) L st M o) : GO mi d mc ms cells slots pc L (.int x :: st) M o := fun M' ρ e => q_pop_int hd (h M' ρ e)
theorem g_dup_ref {x : Nat} (hd : decode mi.1 pc = .ok (.dup, 1)) (h : GO mi d mc ms cells slots (pc + 1) L (.ref x :: .ref x :: st) M o) : GO mi d mc ms cells slots pc L (.ref x :: st) M o := fun M' ρ e => q_dup_ref hd (h M' ρ e)
theorem g_pop_ref {x : Nat} (hd : decode mi.1 pc = .ok (.pop, 1)) (h : GO mi d mc ms cells slots (pc + 1) L st M o) : GO mi d mc ms cells slots pc L (.ref x :: st) M o := fun M' ρ e => q_pop_ref hd (h M' ρ e)
theorem g_dup2_ri {x : Int32} {y : Nat} (hd : decode mi.1 pc = .ok (.dup2, 1)) (h : GO mi d mc ms cells slots (pc + 1) L (.int x :: .ref y :: .int x :: .ref y :: st) M o) : GO mi d mc ms cells slots pc L (.int x :: .ref y :: st) M o := fun M' ρ e => q_dup2_ri hd (h M' ρ e)
theorem g_iload_n {k : Fin 4} {i : Nat} {x : Int32} (j : Nat) (hj : L[j]? = some (i, .int x)) (hi : (k : Nat) = i) (hd : decode mi.1 pc = .ok (.iload_n k, 1)) (h : GO mi d mc ms cells slots (pc + 1) L (.int x :: st) M o) : GO mi d mc ms cells slots pc L st M o := fun M' ρ e => q_iload_n j hj hi hd (h M' ρ e)
theorem g_iload {i : Nat} {x : Int32} (j : Nat) (hj : L[j]? = some (i, .int x)) (hd : decode mi.1 pc = .ok (.iload i, 2)) (h : GO mi d mc ms cells slots (pc + 2) L (.int x :: st) M o) : GO mi d mc ms cells slots pc L st M o := fun M' ρ e => q_iload j hj hd (h M' ρ e)
theorem g_lload_n {k : Fin 4} {i : Nat} {x : Int64} (j : Nat) (hj : L[j]? = some (i, .long x)) (hi : (k : Nat) = i) (hd : decode mi.1 pc = .ok (.lload_n k, 1)) (h : GO mi d mc ms cells slots (pc + 1) L (.long x :: st) M o) : GO mi d mc ms cells slots pc L st M o := fun M' ρ e => q_lload_n j hj hi hd (h M' ρ e)
theorem g_lload {i : Nat} {x : Int64} (j : Nat) (hj : L[j]? = some (i, .long x)) (hd : decode mi.1 pc = .ok (.lload i, 2)) (h : GO mi d mc ms cells slots (pc + 2) L (.long x :: st) M o) : GO mi d mc ms cells slots pc L st M o := fun M' ρ e => q_lload j hj hd (h M' ρ e)
theorem g_aload_n {k : Fin 4} {i : Nat} {x : Nat} (j : Nat) (hj : L[j]? = some (i, .ref x)) (hi : (k : Nat) = i) (hd : decode mi.1 pc = .ok (.aload_n k, 1)) (h : GO mi d mc ms cells slots (pc + 1) L (.ref x :: st) M o) : GO mi d mc ms cells slots pc L st M o := fun M' ρ e => q_aload_n j hj hi hd (h M' ρ e)
theorem g_aload {i : Nat} {x : Nat} (j : Nat) (hj : L[j]? = some (i, .ref x)) (hd : decode mi.1 pc = .ok (.aload i, 2)) (h : GO mi d mc ms cells slots (pc + 2) L (.ref x :: st) M o) : GO mi d mc ms cells slots pc L st M o := fun M' ρ e => q_aload j hj hd (h M' ρ e)
theorem g_istore_n {k : Fin 4} {i : Nat} {x : Int32} {L' : List (Nat × Value)} (hi : i < mi.2.1) (hL : (i, Value.int x) :: L.filter (fun q => !(q.1 == i) && !(q.1 + 1 == i && q.2.category == 2)) = L') (hk : (k : Nat) = i) (hd : decode mi.1 pc = .ok (.istore_n k, 1)) (h : GO mi d mc ms cells slots (pc + 1) L' st M o) : GO mi d mc ms cells slots pc L (.int x :: st) M o := fun M' ρ e => q_istore_n hi hL hk hd (h M' ρ e)
theorem g_istore {i : Nat} {x : Int32} {L' : List (Nat × Value)} (hi : i < mi.2.1) (hL : (i, Value.int x) :: L.filter (fun q => !(q.1 == i) && !(q.1 + 1 == i && q.2.category == 2)) = L') (hd : decode mi.1 pc = .ok (.istore i, 2)) (h : GO mi d mc ms cells slots (pc + 2) L' st M o) : GO mi d mc ms cells slots pc L (.int x :: st) M o := fun M' ρ e => q_istore hi hL hd (h M' ρ e)
theorem g_lstore_n {k : Fin 4} {i : Nat} {x : Int64} {L' : List (Nat × Value)} (hi : i + 1 < mi.2.1) (hL : (i, Value.long x) :: L.filter (fun q => !(q.1 == i) && (!(q.1 == i + 1) && !(q.1 + 1 == i && q.2.category == 2))) = L') (hk : (k : Nat) = i) (hd : decode mi.1 pc = .ok (.lstore_n k, 1)) (h : GO mi d mc ms cells slots (pc + 1) L' st M o) : GO mi d mc ms cells slots pc L (.long x :: st) M o := fun M' ρ e => q_lstore_n hi hL hk hd (h M' ρ e)
theorem g_lstore {i : Nat} {x : Int64} {L' : List (Nat × Value)} (hi : i + 1 < mi.2.1) (hL : (i, Value.long x) :: L.filter (fun q => !(q.1 == i) && (!(q.1 == i + 1) && !(q.1 + 1 == i && q.2.category == 2))) = L') (hd : decode mi.1 pc = .ok (.lstore i, 2)) (h : GO mi d mc ms cells slots (pc + 2) L' st M o) : GO mi d mc ms cells slots pc L (.long x :: st) M o := fun M' ρ e => q_lstore hi hL hd (h M' ρ e)
theorem g_astore_n {k : Fin 4} {i : Nat} {x : Nat} {L' : List (Nat × Value)} (hi : i < mi.2.1) (hL : (i, Value.ref x) :: L.filter (fun q => !(q.1 == i) && !(q.1 + 1 == i && q.2.category == 2)) = L') (hk : (k : Nat) = i) (hd : decode mi.1 pc = .ok (.astore_n k, 1)) (h : GO mi d mc ms cells slots (pc + 1) L' st M o) : GO mi d mc ms cells slots pc L (.ref x :: st) M o := fun M' ρ e => q_astore_n hi hL hk hd (h M' ρ e)
theorem g_astore {i : Nat} {x : Nat} {L' : List (Nat × Value)} (hi : i < mi.2.1) (hL : (i, Value.ref x) :: L.filter (fun q => !(q.1 == i) && !(q.1 + 1 == i && q.2.category == 2)) = L') (hd : decode mi.1 pc = .ok (.astore i, 2)) (h : GO mi d mc ms cells slots (pc + 2) L' st M o) : GO mi d mc ms cells slots pc L (.ref x :: st) M o := fun M' ρ e => q_astore hi hL hd (h M' ρ e)
theorem g_iinc {i : Nat} {k : Int} {x v : Int32} {L' : List (Nat × Value)} (j : Nat) (hj : L[j]? = some (i, .int x)) (hv : x + Int32.ofInt k = v) (hi : i < mi.2.1) (hL : (i, Value.int v) :: L.filter (fun q => !(q.1 == i) && !(q.1 + 1 == i && q.2.category == 2)) = L') (hd : decode mi.1 pc = .ok (.iinc i k, 3)) (h : GO mi d mc ms cells slots (pc + 3) L' st M o) : GO mi d mc ms cells slots pc L st M o := fun M' ρ e => q_iinc j hj hv hi hL hd (h M' ρ e)
theorem g_goto {off : Int} {tgt : Nat} (ht : (pc : Int) + off = (tgt : Int)) (hd : decode mi.1 pc = .ok (.goto off, 3)) (h : GO mi d mc ms cells slots tgt L st M o) : GO mi d mc ms cells slots pc L st M o := fun M' ρ e => q_goto ht hd (h M' ρ e)
theorem g_icmp_eq {x y : Int32} {off : Int} {tgt : Nat} (ht : (pc : Int) + off = (tgt : Int)) (hd : decode mi.1 pc = .ok (.if_icmp .eq off, 3)) (h1 : x = y → GO mi d mc ms cells slots tgt L st M A) (h2 : ¬ x = y → GO mi d mc ms cells slots (pc + 3) L st M B) : GO mi d mc ms cells slots pc L (.int y :: .int x :: st) M (if x = y then A else B) := fun M' ρ e => q_icmp_eq ht hd (fun c => h1 c M' ρ (by rw [if_pos c] at e; exact e)) (fun c => h2 c M' ρ (by rw [if_neg c] at e; exact e))
theorem g_icmp_ne {x y : Int32} {off : Int} {tgt : Nat} (ht : (pc : Int) + off = (tgt : Int)) (hd : decode mi.1 pc = .ok (.if_icmp .ne off, 3)) (h1 : ¬ x = y → GO mi d mc ms cells slots tgt L st M A) (h2 : x = y → GO mi d mc ms cells slots (pc + 3) L st M B) : GO mi d mc ms cells slots pc L (.int y :: .int x :: st) M (if x = y then B else A) := fun M' ρ e => q_icmp_ne ht hd (fun c => h1 c M' ρ (by rw [if_neg c] at e; exact e)) (fun c => h2 c M' ρ (by rw [if_pos c] at e; exact e))
theorem g_icmp_lt {x y : Int32} {off : Int} {tgt : Nat} (ht : (pc : Int) + off = (tgt : Int)) (hd : decode mi.1 pc = .ok (.if_icmp .lt off, 3)) (h1 : x < y → GO mi d mc ms cells slots tgt L st M A) (h2 : ¬ x < y → GO mi d mc ms cells slots (pc + 3) L st M B) : GO mi d mc ms cells slots pc L (.int y :: .int x :: st) M (if x < y then A else B) := fun M' ρ e => q_icmp_lt ht hd (fun c => h1 c M' ρ (by rw [if_pos c] at e; exact e)) (fun c => h2 c M' ρ (by rw [if_neg c] at e; exact e))
theorem g_icmp_ge {x y : Int32} {off : Int} {tgt : Nat} (ht : (pc : Int) + off = (tgt : Int)) (hd : decode mi.1 pc = .ok (.if_icmp .ge off, 3)) (h1 : ¬ x < y → GO mi d mc ms cells slots tgt L st M A) (h2 : x < y → GO mi d mc ms cells slots (pc + 3) L st M B) : GO mi d mc ms cells slots pc L (.int y :: .int x :: st) M (if x < y then B else A) := fun M' ρ e => q_icmp_ge ht hd (fun c => h1 c M' ρ (by rw [if_neg c] at e; exact e)) (fun c => h2 c M' ρ (by rw [if_pos c] at e; exact e))
theorem g_icmp_gt {x y : Int32} {off : Int} {tgt : Nat} (ht : (pc : Int) + off = (tgt : Int)) (hd : decode mi.1 pc = .ok (.if_icmp .gt off, 3)) (h1 : y < x → GO mi d mc ms cells slots tgt L st M A) (h2 : ¬ y < x → GO mi d mc ms cells slots (pc + 3) L st M B) : GO mi d mc ms cells slots pc L (.int y :: .int x :: st) M (if y < x then A else B) := fun M' ρ e => q_icmp_gt ht hd (fun c => h1 c M' ρ (by rw [if_pos c] at e; exact e)) (fun c => h2 c M' ρ (by rw [if_neg c] at e; exact e))
theorem g_icmp_le {x y : Int32} {off : Int} {tgt : Nat} (ht : (pc : Int) + off = (tgt : Int)) (hd : decode mi.1 pc = .ok (.if_icmp .le off, 3)) (h1 : ¬ y < x → GO mi d mc ms cells slots tgt L st M A) (h2 : y < x → GO mi d mc ms cells slots (pc + 3) L st M B) : GO mi d mc ms cells slots pc L (.int y :: .int x :: st) M (if y < x then B else A) := fun M' ρ e => q_icmp_le ht hd (fun c => h1 c M' ρ (by rw [if_neg c] at e; exact e)) (fun c => h2 c M' ρ (by rw [if_pos c] at e; exact e))
theorem g_if_eq {x : Int32} {off : Int} {tgt : Nat} (ht : (pc : Int) + off = (tgt : Int)) (hd : decode mi.1 pc = .ok (.ifCond .eq off, 3)) (h1 : x = 0 → GO mi d mc ms cells slots tgt L st M A) (h2 : ¬ x = 0 → GO mi d mc ms cells slots (pc + 3) L st M B) : GO mi d mc ms cells slots pc L (.int x :: st) M (if x = 0 then A else B) := fun M' ρ e => q_if_eq ht hd (fun c => h1 c M' ρ (by rw [if_pos c] at e; exact e)) (fun c => h2 c M' ρ (by rw [if_neg c] at e; exact e))
theorem g_if_ne {x : Int32} {off : Int} {tgt : Nat} (ht : (pc : Int) + off = (tgt : Int)) (hd : decode mi.1 pc = .ok (.ifCond .ne off, 3)) (h1 : ¬ x = 0 → GO mi d mc ms cells slots tgt L st M A) (h2 : x = 0 → GO mi d mc ms cells slots (pc + 3) L st M B) : GO mi d mc ms cells slots pc L (.int x :: st) M (if x = 0 then B else A) := fun M' ρ e => q_if_ne ht hd (fun c => h1 c M' ρ (by rw [if_neg c] at e; exact e)) (fun c => h2 c M' ρ (by rw [if_pos c] at e; exact e))
theorem g_if_lt {x : Int32} {off : Int} {tgt : Nat} (ht : (pc : Int) + off = (tgt : Int)) (hd : decode mi.1 pc = .ok (.ifCond .lt off, 3)) (h1 : x < 0 → GO mi d mc ms cells slots tgt L st M A) (h2 : ¬ x < 0 → GO mi d mc ms cells slots (pc + 3) L st M B) : GO mi d mc ms cells slots pc L (.int x :: st) M (if x < 0 then A else B) := fun M' ρ e => q_if_lt ht hd (fun c => h1 c M' ρ (by rw [if_pos c] at e; exact e)) (fun c => h2 c M' ρ (by rw [if_neg c] at e; exact e))
theorem g_if_ge {x : Int32} {off : Int} {tgt : Nat} (ht : (pc : Int) + off = (tgt : Int)) (hd : decode mi.1 pc = .ok (.ifCond .ge off, 3)) (h1 : ¬ x < 0 → GO mi d mc ms cells slots tgt L st M A) (h2 : x < 0 → GO mi d mc ms cells slots (pc + 3) L st M B) : GO mi d mc ms cells slots pc L (.int x :: st) M (if x < 0 then B else A) := fun M' ρ e => q_if_ge ht hd (fun c => h1 c M' ρ (by rw [if_neg c] at e; exact e)) (fun c => h2 c M' ρ (by rw [if_pos c] at e; exact e))
theorem g_if_gt {x : Int32} {off : Int} {tgt : Nat} (ht : (pc : Int) + off = (tgt : Int)) (hd : decode mi.1 pc = .ok (.ifCond .gt off, 3)) (h1 : 0 < x → GO mi d mc ms cells slots tgt L st M A) (h2 : ¬ 0 < x → GO mi d mc ms cells slots (pc + 3) L st M B) : GO mi d mc ms cells slots pc L (.int x :: st) M (if 0 < x then A else B) := fun M' ρ e => q_if_gt ht hd (fun c => h1 c M' ρ (by rw [if_pos c] at e; exact e)) (fun c => h2 c M' ρ (by rw [if_neg c] at e; exact e))
theorem g_if_le {x : Int32} {off : Int} {tgt : Nat} (ht : (pc : Int) + off = (tgt : Int)) (hd : decode mi.1 pc = .ok (.ifCond .le off, 3)) (h1 : ¬ 0 < x → GO mi d mc ms cells slots tgt L st M A) (h2 : 0 < x → GO mi d mc ms cells slots (pc + 3) L st M B) : GO mi d mc ms cells slots pc L (.int x :: st) M (if 0 < x then B else A) := fun M' ρ e => q_if_le ht hd (fun c => h1 c M' ρ (by rw [if_neg c] at e; exact e)) (fun c => h2 c M' ρ (by rw [if_pos c] at e; exact e))
end

def rmOf (d mc ms : Nat) : Room := { frames := d, cells := mc, slots := ms, locals := 100 * d }
def wsOf (mi : MI) : List Cond := .code mi.2.2.2 mi.1 mi.2.1 mi.2.2.1 :: TB
def Cp (E : EV) (n : Nat) (F : Nat → va_E) (av : List Value) : Array Value → State → Prop := fun v U => v = (av.map (cvv E)).toArray ∧ va_P E.2.1 vwCl (wld E n F) U.heap ∧ Tb E U ∧ Old E U U.heap ∧ (n < NN → U.heap.size = E.1 + n) ∧ E.1 ≤ U.heap.size
def Cq (E : EV) (n : Nat) (F : Nat → va_E) (ρ : String ⊕ Option Value) : Array Value → State → Outcome → State → Prop := fun _ st o t => (∃ r, ρ = .inr r ∧ o = .returned (r.map (cvv E))) ∧ va_P E.2.1 vwCl (wld E n F) t.heap ∧ (n < NN → t.heap.size = E.1 + n) ∧ va_F (Ab E) st t
def Cx (E : EV) (n : Nat) (F : Nat → va_E) (ρ : String ⊕ Option Value) : String → State → State → Prop := fun X st t => ρ = .inl X ∧ va_P E.2.1 vwCl (wld E n F) t.heap ∧ (n < NN → t.heap.size = E.1 + n) ∧ va_F (Ab E) st t
def QM (n : Nat) (F : Nat → va_E) (ρ : String ⊕ Option Value) (mc ms : Nat) : QXT := fun E s args below => vx_MQ below (Cq E n F ρ) (Cx E n F ρ) args s mc ms (Ab E)
def BXm : BXT := fun _ _ _ c => ∀ x ∈ c.exceptionTable.toList, False
/-- the contract of a method -/
def CT (d : Nat) (mi : MI) (n n2 mc ms : Nat) (av : List Value) (F : Nat → va_E) (ρ : String ⊕ Option Value) (F2 : Nat → va_E) : Prop :=
  ∀ (l : Launch) (E : EV), l.stackTraces = false → vx_Met l mi.2.2.2 (wsOf mi) (rmOf d mc ms) (Cp E n F av) (Cq E n2 F2 ρ) (Cx E n2 F2 ρ) mc ms (Ab E)
theorem Cp.blind {E : EV} {n : Nat} {F : Nat → va_E} {av : List Value} : FrameBlind (Cp E n F av) := by
  intro a U g mk h
  obtain ⟨h1, h2, h3, h4, h5, h6⟩ := h
  exact ⟨h1, h2, Tb.warm (State.WarmedH.refl U) h3, Old.moved (u := U) (Vm.Alike.refl U.vm) h4, h5, h6⟩
theorem lv_args_cv (E : EV) : ∀ (av : List Value) (i : Nat), lv_args i (av.map (cvv E)) = (lv_args i av).map (cvl E) := by
  intro av
  induction av with
  | nil => intro i; rfl
  | cons v av ih =>
    intro i
    simp only [List.map_cons, lv_args, ih, cvv_cat]
    rfl
theorem lg_sl_cv (E : EV) : ∀ (av : List Value), (lg_sl (av.map (cvv E))).length = (lg_sl av).length := by
  intro av
  induction av with
  | nil => rfl
  | cons v av ih => cases v <;> simp_all [lg_sl, cvv]
theorem CT.of {d : Nat} {mi : MI} {n n2 mc ms : Nat} {av : List Value} {F F2 : Nat → va_E} {ρ : String ⊕ Option Value} (hy : plainName mi.2.2.2.cls = true) (hlen : (lg_sl av).length ≤ mi.2.1)
    (h : VQ mi (rmOf d mc ms) BXm (QM n2 F2 ρ mc ms) n 0 0 0 (lv_args 0 av) [] F) : CT d mi n n2 mc ms av F ρ F2 := by
  intro l E hst
  refine vx_ofW (cc := mi.1) (maxL := mi.2.1) (ret := mi.2.2.1) hy rfl ?_
  intro p e s m args below meth c s₁ B hml htab hv
  obtain ⟨rfl, hP, hT, hO, hz, hb⟩ := hv
  have hts := atoms_spec (ws := wsOf mi) B.pre
  have hl := lv_entry (av.map (cvv E)) (n := mi.2.1) (by rw [lg_sl_cv]; exact hlen)
  rw [lg_entry_eq]
  generalize (lg_sl (av.map (cvv E)) ++ List.replicate (mi.2.1 - (lg_sl (av.map (cvv E))).length) Slot.unset).toArray = ls at hl ⊢
  rw [lv_args_cv] at hl
  exact h l E p e s m _ below meth c ls s.heap [] ⟨⟨B.exec, B.bytes, hml, B.returns, B.notSynchronized, (name_of_methodNamed B.named B.method).1⟩, findClass_of_methodNamed B.named, fun w hw => hts w (List.mem_cons_of_mem _ hw), hT, hO, hst, hb⟩ htab hl hP va_S.rf hz
section
variable {mi : MI} {R : Room} {BX : BXT} {QX : QXT} {n cells slots pc : Nat} {L : List (Nat × Value)} {st : List Value} {F : Nat → va_E}
/-- a class of the worlds: its number, name, field table -/
def Cls (ci : Nat) (C : String) (T : u_T) (N : Nat) : Prop := vwCl[ci]? = some (C, T, N) ∧ (∀ w ∈ u_ws C T N, w ∈ TB) ∧ (∀ a, a < N → ∀ b, b < N → a ≠ b → (T a).2.1 ≠ (T b).2.1) ∧ ∃ ty : Nat → FieldType, ∀ k, k < N → parseFieldDescriptor (T k).2.2.1 = some (ty k)
theorem q_getf {ci N k idx a : Nat} {C : String} {T : u_T} {fs : List Value} {v : Value} (hC : Cls ci C T N) (ha : a < n) (ha2 : a < 1000) (hF : F a = .inr (ci, fs)) (hv : fs[k]? = some v) (hk : k < N) (hw : Cond.fieldLink mi.2.2.2.cls idx (T k).1 (T k).2.1 (T k).2.2.1 ∈ TB)
    (hd : decode mi.1 pc = .ok (.getfield idx, 3)) (h : VQ mi R BX QX n cells slots (pc + 3) L (v :: st) F) : VQ mi R BX QX n cells slots pc L (.ref a :: st) F := by
  intro l E p e s m args below meth c ls H locs B b hl hP hS hz
  have hg := wld_get (E := E) (F := F) ha
  rw [hF] at hg
  show W p l e R s m args below meth c H locs cells slots _ (F0 m pc ls (.ref (ph E a) :: st.map (cvv E)))
  rw [ph_lt E ha2]
  exact va_get (C := C) (T := T) (N := N) (ci := ci) (fs := fs.map (cvv E)) (v := cvv E v) B.1.1 B.1.2.1 B.2.2.1 hC.2.1 B.2.1 B.2.2.2.1.1 hP a hg hC.1 k hk (B.2.2.1 _ hw) (fun x hx => hx) (by rw [List.getElem?_map, hv]; rfl) hd (h l E p e s m args below meth c ls H locs B b hl hP hS hz)
theorem q_putf {ci N k idx a : Nat} {C : String} {T : u_T} {fs : List Value} {v : Value} {ty : FieldType} (hC : Cls ci C T N) (ha : a < n) (ha2 : a < 1000) (hF : F a = .inr (ci, fs)) (hk : k < N) (hl2 : k < fs.length) (hw : Cond.fieldLink mi.2.2.2.cls idx (T k).1 (T k).2.1 (T k).2.2.1 ∈ TB)
    (hfin : (T k).2.2.2 = false ∨ ((T k).2.2.2 = true ∧ mi.2.2.2.name = "<init>" ∧ (T k).1 = mi.2.2.2.cls)) (hd2 : parseFieldDescriptor (T k).2.2.1 = some ty) (hn : ∀ E, narrow ty (cvv E v) = cvv E v) (hfit : ∀ E, fits ty (cvv E v) = true)
    (hd : decode mi.1 pc = .ok (.putfield idx, 3)) (h : VQ mi R BX QX n cells slots (pc + 3) L st (va_up F a (.inr (ci, fs.set k v)))) : VQ mi R BX QX n cells slots pc L (v :: .ref a :: st) F := by
  intro l E p e s m args below meth c ls H locs B b hl hP hS hz
  have hg := wld_get (E := E) (F := F) ha
  rw [hF] at hg
  obtain ⟨ty0, hty⟩ := hC.2.2.2
  have hset : (wld E n F).set a (E.1 + a, .inr (ci, (fs.map (cvv E)).set k (cvv E v))) = wld E n (va_up F a (.inr (ci, fs.set k v))) := by
    rw [← wld_set ha]
    congr 2
    show Sum.inr _ = Sum.inr _
    rw [List.map_set]
  show W p l e R s m args below meth c H locs cells slots _ (F0 m pc ls (cvv E v :: .ref (ph E a) :: st.map (cvv E)))
  rw [ph_lt E ha2]
  have kk : ∀ (H1 : Heap) (locs1 : List Loc), va_P E.2.1 vwCl ((wld E n F).set a (E.1 + a, .inr (ci, (fs.map (cvv E)).set k (cvv E v)))) H1 → va_D (Ab E) ((wld E n F).set a (E.1 + a, .inr (ci, (fs.map (cvv E)).set k (cvv E v)))) → va_S (Ab E) s.heap H1 locs1 → (n < NN → H1.size = E.1 + n) → W p l e R s m args below meth c H1 locs1 cells slots (QX E s args below) (F0 m (pc + 3) ls (st.map (cvv E))) := by
    intro H1 locs1 hP1 _ hS1 hz1
    rw [hset] at hP1
    exact h l E p e s m args below meth c ls H1 locs1 B b hl hP1 hS1 hz1
  have hsz : ∀ (P : Heap → List Loc → Prop), True := fun _ => trivial
  rcases hfin with hf | ⟨hf, hi, hdc⟩
  · refine va_put (C := C) (T := T) (N := N) (ci := ci) (ty := ty) (H0 := s.heap) B.1.1 B.1.2.1 B.2.2.1 hC.2.1 ty0 hty hC.2.2.1 B.2.1 B.2.2.2.1.1 hP (wld_D E n F) hS a hg hC.1 k hk (B.2.2.1 _ hw) (fun x hx => hx) hf hd2 (hn E) (hfit E) (by rw [List.length_map]; exact hl2) hd (fun H1 locs1 hP1 hD1 hS1 => kk H1 locs1 hP1 hD1 hS1 ?_)
    intro hn2
    sorry
  · refine va_putF (C := C) (T := T) (N := N) (ci := ci) (ty := ty) (H0 := s.heap) B.1.1 B.1.2.1 B.2.2.1 hC.2.1 ty0 hty hC.2.2.1 B.2.1 B.2.2.2.1.1 hP (wld_D E n F) hS a hg hC.1 k hk (B.2.2.1 _ hw) (fun x hx => hx) hf (B.1.2.2.2.2.2.trans hi) hdc hd2 (hn E) (hfit E) (by rw [List.length_map]; exact hl2) hd (fun H1 locs1 hP1 hD1 hS1 => kk H1 locs1 hP1 hD1 hS1 ?_)
    intro hn2
    sorry
end

/-- cells that differ from the last memory's, in front of it -/
def lay (l : List (Nat × va_E)) (G : Nat → va_E) : Nat → va_E := fun x => match l.lookup x with
  | some e => e
  | none => G x
theorem lay_up {l : List (Nat × va_E)} {G : Nat → va_E} {a : Nat} {e : va_E} (x : Nat) : va_up (lay l G) a e x = lay ((a, e) :: l) G x := by
  unfold va_up lay
  rw [List.lookup_cons]
  by_cases h : x = a
  · rw [if_pos h]; simp [h]
  · rw [if_neg h]
    have : (x == a) = false := by simpa using h
    rw [this]
theorem lay_cons_ne {l : List (Nat × va_E)} {G : Nat → va_E} {a x : Nat} {e : va_E} (h : x ≠ a) : lay ((a, e) :: l) G x = lay l G x := by
  unfold lay
  rw [List.lookup_cons]
  have : (x == a) = false := by simpa using h
  rw [this]
theorem lay_out {G : Nat → va_E} {x : Nat} : ∀ {l : List (Nat × va_E)}, (∀ p ∈ l, p.1 ≠ x) → lay l G x = G x := by
  intro l
  induction l with
  | nil => intro _; rfl
  | cons p l ih =>
    intro h
    rw [lay_cons_ne (fun q => h p List.mem_cons_self q.symm)]
    exact ih (fun q hq => h q (List.mem_cons_of_mem _ hq))
theorem lay_ext {l l' : List (Nat × va_E)} {G : Nat → va_E} (h1 : ∀ p ∈ l, lay l G p.1 = lay l' G p.1) (h2 : ∀ p ∈ l', lay l G p.1 = lay l' G p.1) (x : Nat) : lay l G x = lay l' G x := by
  by_cases g1 : ∃ p ∈ l, p.1 = x
  · obtain ⟨p, hp, rfl⟩ := g1; exact h1 p hp
  · by_cases g2 : ∃ p ∈ l', p.1 = x
    · obtain ⟨p, hp, rfl⟩ := g2; exact h2 p hp
    · rw [lay_out (fun p hp q => g1 ⟨p, hp, q⟩), lay_out (fun p hp q => g2 ⟨p, hp, q⟩)]
/-- the world of n cells, one more -/
theorem wld_add {E : EV} {n : Nat} {F : Nat → va_E} : wld E n F ++ [(E.1 + n, cvc E (F n))] = wld E (n + 1) F := by
  rw [wld_push]
  refine wld_ext (fun a _ => ?_)
  unfold va_up
  by_cases h : a = n
  · rw [if_pos h, h]
  · rw [if_neg h]
theorem Sz.push {E : EV} {n : Nat} {H : Heap} (hn : n < NN) (hz : n < NN → H.size = E.1 + n) : H.size = E.1 + n := hz hn
section
variable {mi : MI} {R : Room} {BX : BXT} {QX : QXT} {n cells slots pc : Nat} {L : List (Nat × Value)} {st : List Value} {F : Nat → va_E}
theorem c_get {ci N k idx a : Nat} {C : String} {T : u_T} {fs : List Value} {v : Value} (hC : Cls ci C T N) (ha : a < n) (ha2 : a < 1000) (hF : F a = .inr (ci, fs)) (hv : fs[k]? = some v) (hk : k < N) (hw : Cond.fieldLink mi.2.2.2.cls idx (T k).1 (T k).2.1 (T k).2.2.1 ∈ TB)
    (hd : decode mi.1 pc = .ok (.getfield idx, 3)) (h : VQ mi R BX QX n cells slots (pc + 3) L (v :: st) F) : VQ mi R BX QX n cells slots pc L (.ref a :: st) F := by
  intro l E p e s m args below meth c ls H locs B b hl hP hS hz
  have hg := wld_get (E := E) (F := F) ha
  rw [hF] at hg
  show W p l e R s m args below meth c H locs cells slots _ (F0 m pc ls (.ref (ph E a) :: st.map (cvv E)))
  rw [ph_lt E ha2]
  exact va_get (C := C) (T := T) (N := N) (ci := ci) (fs := fs.map (cvv E)) (v := cvv E v) B.1.1 B.1.2.1 B.2.2.1 hC.2.1 B.2.1 B.2.2.2.1.1 hP a hg hC.1.1 k hk (B.2.2.1 _ hw) (fun x hx => hx) (by rw [List.getElem?_map, hv]; rfl) hd (h l E p e s m args below meth c ls H locs B b hl hP hS hz)
theorem c_put {ci N k idx a : Nat} {C : String} {T : u_T} {fs : List Value} {v : Value} {ty : FieldType} {F1 : Nat → va_E} (hC : Cls ci C T N) (ha : a < n) (ha2 : a < 1000) (hF : F a = .inr (ci, fs)) (hk : k < N) (hl2 : k < fs.length) (hw : Cond.fieldLink mi.2.2.2.cls idx (T k).1 (T k).2.1 (T k).2.2.1 ∈ TB)
    (hfin : (T k).2.2.2 = false ∨ ((T k).2.2.2 = true ∧ mi.2.2.2.name = "<init>" ∧ (T k).1 = mi.2.2.2.cls)) (hd2 : parseFieldDescriptor (T k).2.2.1 = some ty) (hn : ∀ E, narrow ty (cvv E v) = cvv E v) (hfit : ∀ E, fits ty (cvv E v) = true) (hF1 : ∀ x, va_up F a (.inr (ci, fs.set k v)) x = F1 x)
    (hd : decode mi.1 pc = .ok (.putfield idx, 3)) (h : VQ mi R BX QX n cells slots (pc + 3) L st F1) : VQ mi R BX QX n cells slots pc L (v :: .ref a :: st) F := by
  intro l E p e s m args below meth c ls H locs B b hl hP hS hz
  have hg := wld_get (E := E) (F := F) ha
  rw [hF] at hg
  obtain ⟨ty0, hty⟩ := hC.2.2.2
  have hset : (wld E n F).set a (E.1 + a, .inr (ci, (fs.map (cvv E)).set k (cvv E v))) = wld E n F1 := by
    have := wld_set (E := E) (F := F) ha (.inr (ci, fs.set k v))
    rw [wld_ext (fun b _ => hF1 b)] at this
    rw [← this]
    congr 2
    show Sum.inr _ = Sum.inr _
    rw [List.map_set]
  show W p l e R s m args below meth c H locs cells slots _ (F0 m pc ls (cvv E v :: .ref (ph E a) :: st.map (cvv E)))
  rw [ph_lt E ha2]
  have hap := va_apart (own := mi.2.2.2.cls) B.2.2.1 hC.2.1 ty0 hty hC.2.2.1 B.2.2.2.1.1 hC.1.1
  have hD := wld_D E n F
  obtain ⟨r, h1, cell, q1, q2, q3, q4⟩ := hP a _ hg
  have hr : r = (C, T, N) := Option.some.inj (h1.symm.trans hC.1.1)
  subst hr
  obtain ⟨hSl, hfc, kC, hkC, hkind⟩ := B.2.2.2.1.1.1 ci _ hC.1.1
  obtain ⟨cf, kf, fi, f, hi, hsl⟩ := hSl k hk
  have hlay := B.2.2.1 _ (hC.2.1 _ (u_in_lay hk))
  have hst := (u_facts hfc hkC (u_lays B.2.2.1 hC.2.1 hk) hi).1
  have kk : ∀ H' : Heap, H'[E.1 + a]? = some { cell with slots := cell.slots.set! (f.slot) (cvv E v) } → H'.size = H.size → (∀ q, q ≠ E.1 + a → H'[q]? = H[q]?) → True := fun _ _ _ _ => trivial
  rcases hfin with hf | ⟨hf, hin, hdc⟩
  · unfold u_lay at hlay
    rw [if_neg (by rw [hf]; decide)] at hlay
    have h6 := u_store hfc hkC hkind hlay hi hd2 (hn E) (hfit E)
    refine W.putK B.1.1 B.1.2.1 (f := f) ⟨B.2.1, B.2.2.1 _ hw, ⟨_, _, _, hi⟩, hst⟩ (by rw [q2]; exact h6) q1 q3 (by rw [hsl]; exact k2_hasslot (q4 k hk)) rfl rfl hd fun H' e1 e2 e3 => ?_
    rw [hsl] at e1 ⊢
    have hat : va_at E.2.1 vwCl (E.1 + a, .inr (ci, (fs.map (cvv E)).set k (cvv E v))) H' := ⟨_, hC.1.1, t_OB.to (V := updV (vp_V (fs.map (cvv E))) k (cvv E v)) ⟨_, e1, q2, q3, t_set q4 hap hk (cvv E v)⟩ (fun j _ => vp_updV_set (by rw [List.length_map]; exact hl2) (cvv E v) j)⟩
    have hP1 := hP.set hD hg hat e3
    rw [hset] at hP1
    exact h l E p e s m args below meth c ls H' _ B b hl hP1 (hS.put e2 e3 (hD.2 a _ hg)) (fun q => by rw [e2]; exact hz q)
  · unfold u_lay at hlay
    rw [if_pos hf] at hlay
    have hcf : m.cls = cf := by
      obtain ⟨_, _, c', _, _, _, -, -, hf', -, -, -, hown2, -⟩ := Cond.laysFinal_spec hlay
      have e1 : c' = cf := by have := hi.symm.trans hf'; simp at this; exact this.1.symm
      rw [hdc] at hown2
      rw [← e1]; exact Option.some.inj (B.2.1.symm.trans hown2)
    have h6 := u_fits hfc hkC hkind (Or.inr hlay) hi hd2 (hn E) (hfit E)
    refine W.putFinK B.1.1 B.1.2.1 B.2.1 (B.2.2.1 _ hw) hi hst hcf (B.1.2.2.2.2.2.trans hin) (by rw [q2]; exact h6) q1 q3 (by rw [hsl]; exact k2_hasslot (q4 k hk)) rfl rfl hd fun H' e1 e2 e3 => ?_
    rw [hsl] at e1 ⊢
    have hat : va_at E.2.1 vwCl (E.1 + a, .inr (ci, (fs.map (cvv E)).set k (cvv E v))) H' := ⟨_, hC.1.1, t_OB.to (V := updV (vp_V (fs.map (cvv E))) k (cvv E v)) ⟨_, e1, q2, q3, t_set q4 hap hk (cvv E v)⟩ (fun j _ => vp_updV_set (by rw [List.length_map]; exact hl2) (cvv E v) j)⟩
    have hP1 := hP.set hD hg hat e3
    rw [hset] at hP1
    exact h l E p e s m args below meth c ls H' _ B b hl hP1 (hS.put e2 e3 (hD.2 a _ hg)) (fun q => by rw [e2]; exact hz q)
theorem c_ast {a N : Nat} {i v : Int32} {f : Nat → Int32} {F1 : Nat → va_E} (ha : a < n) (ha2 : a < 1000) (hF : F a = .inl (0, N, .inl f)) (hi : inb i N = true) (hF1 : ∀ x, va_up F a (.inl (0, N, .inl (upd f (ix i) v))) x = F1 x) (hd : decode mi.1 pc = .ok (.iastore, 1)) (h : VQ mi R BX QX n cells slots (pc + 1) L st F1) : VQ mi R BX QX n cells slots pc L (.int v :: .int i :: .ref a :: st) F := by
  intro l E p e s m args below meth c ls H locs B b hl hP hS hz
  have hg := wld_get (E := E) (F := F) ha
  rw [hF] at hg
  have hg : (wld E n F)[a]? = some (E.1 + a, .inl (E.2.2.1 0, N, .inl f)) := hg
  have hset : (wld E n F).set a (E.1 + a, .inl (E.2.2.1 0, N, .inl (upd f i.toNatClampNeg v))) = wld E n F1 := by
    have := wld_set (E := E) (F := F) ha (.inl (0, N, .inl (upd f (ix i) v)))
    rw [wld_ext (fun b _ => hF1 b)] at this
    exact this
  show W p l e R s m args below meth c H locs cells slots _ (F0 m pc ls (.int v :: .int i :: .ref (ph E a) :: st.map (cvv E)))
  rw [ph_lt E ha2]
  have hD := wld_D E n F
  have hin := inb_iff.mp hi
  refine W.iast B.1.1 B.1.2.1 (hP a _ hg) ((B.2.2.2.1.1.2 0 _ (show (tysOf E)[0]? = some (E.2.2.1 0, .int) from rfl)).1 N (fun j => .int (f j))) (fun q => by cases q) (by show ¬ (i < 0 ∨ (arrV _ _ _).slots.size ≤ _); rw [arrV_size]; exact hin) rfl rfl hd fun H1 e1 z oq => ?_
  have hat : va_at E.2.1 vwCl (E.1 + a, .inl (E.2.2.1 0, N, .inl (upd f i.toNatClampNeg v))) H1 := by
    show H1[E.1 + a]? = some (vp_cell _ _)
    rw [e1]
    rw [vp_cell_i, vp_cell_i, arrV_store]
    congr 2
    funext q
    by_cases hq : q = i.toNatClampNeg
    · subst hq
      simp [updV, upd]
    · simp [updV, upd, hq]
  have hP1 := hP.set hD hg hat oq
  rw [hset] at hP1
  exact h l E p e s m args below meth c ls H1 _ B b hl hP1 (hS.put z oq (hD.2 a _ hg)) (fun q => by rw [z]; exact hz q)
theorem c_new {ci N idx : Nat} {C : String} {T : u_T} {fs : List Value} (ty : Nat → FieldType) (hty : ∀ k, k < N → parseFieldDescriptor (T k).2.2.1 = some (ty k)) (hC : Cls ci C T N) (hn : n < NN) (hF : F n = .inr (ci, fs)) (hfs : ∀ E j, j < N → defaultValue (ty j) = vp_V (fs.map (cvv E)) j) (hcl : Cond.classLink mi.2.2.2.cls idx C ∈ TB) (hinst : Cond.instantiable C N ∈ TB) (hini : Cond.initialized C ∈ TB) (hcells : cells + 1 ≤ R.cells) (hslots : slots + N ≤ R.slots)
    (hd : decode mi.1 pc = .ok (.new idx, 3)) (h : VQ mi R BX QX (n + 1) (cells + 1) (slots + N) (pc + 3) L (.ref n :: st) F) : VQ mi R BX QX n cells slots pc L st F := by
  intro l E p e s m args below meth c ls H locs B b hl hP hS hz
  have hKn := B.2.2.2.1.1.1 ci _ hC.1.1
  have hsz := hz hn
  have hA : ∀ q, s.heap.size ≤ q → Ab E q := fun q hq => Nat.le_trans B.2.2.2.2.2.2 hq
  refine W.newcK B.1.1 B.1.2.1 B.2.1 (B.2.2.1 _ hcl) (B.2.2.1 _ hinst) (B.2.2.1 _ hini) rfl hd hcells hslots hKn.2.1 rfl fun H1 kC hkC e1 z1 o1 => ?_
  have hk : ∀ (k : Nat) (x : Nat × va_E), (wld E n F)[k]? = some x → H1[x.1]? = H[x.1]? := fun k x hx => o1 x.1 ((hP k x hx).lt)
  have hP1 : va_P E.2.1 vwCl (wld E n F ++ [(H.size, .inr (ci, fs.map (cvv E)))]) H1 := (hP.kept hk).app (fun k x hx => by
    have hz : k < 1 := (List.getElem?_eq_some_iff.mp hx).1
    rw [show k = 0 by omega] at hx
    cases hx
    exact ⟨_, hC.1.1, (u_born ty B.2.2.1 hC.2.1 hKn hkC e1 hty).to (hfs E)⟩)
  have e9 : ((H.size, .inr (ci, fs.map (cvv E))) : Nat × va_E) = (E.1 + n, cvc E (F n)) := by rw [hF, hsz]; rfl
  rw [e9, wld_add] at hP1
  have k2 := h l E p e s m args below meth c ls H1 locs B b hl hP1 ⟨Nat.le_trans hS.1 (by omega), fun x h1 h2 => (o1 x (Nat.lt_of_lt_of_le h1 hS.1)).trans (hS.2.1 x h1 h2), hS.2.2⟩ (fun _ => by omega)
  have e8 : cvv E (.ref n) = .ref H.size := by
    show Value.ref (ph E n) = _
    rw [ph_lt E (nn1 hn), hsz]
  rw [List.map_cons, e8] at k2
  exact k2
theorem c_newa {t N : Nat} {at9 : ArrayType} {k : Int32} {ty : FieldType} {a0 : (Nat → Int32) ⊕ (Nat → Int64) ⊕ (Nat → UInt32) ⊕ (Nat → UInt64) ⊕ (Nat → Option Nat)} (hn : n < NN) (hty : newarray.typeOf at9 = ty) (hF : F n = .inl (t, N, a0)) (hcv : ∀ E, cvr E a0 = a0) (ht : ∀ E, (tysOf E)[t]? = some (E.2.2.1 t, ty)) (hra : ∀ s c, va_RA s c ty → s.vm.findClass ("[" ++ ty.toString) = some c) (ha0 : ∀ cA : ClassId, vp_cell cA (N, a0) = arrV cA N (fun _ => defaultValue ty)) (hw : Cond.arrayClass ty ∈ TB) (hk : ¬ k < 0) (hN : k.toNatClampNeg = N) (hby : N * componentBytes ty ≤ 536870912) (hcells : cells + 1 ≤ R.cells) (hslots : slots + N ≤ R.slots)
    (hd : decode mi.1 pc = .ok (.newarray at9, 2)) (h : VQ mi R BX QX (n + 1) (cells + 1) (slots + N) (pc + 2) L (.ref n :: st) F) : VQ mi R BX QX n cells slots pc L (.int k :: st) F := by
  subst hty
  intro l E p e s m args below meth c ls H locs B b hl hP hS hz
  have hsz := hz hn
  have hA : ∀ q, s.heap.size ≤ q → Ab E q := fun q hq => Nat.le_trans B.2.2.2.2.2.2 hq
  refine va_newaK B.1.1 B.1.2.1 (B.2.2.1 _ hw) rfl hd rfl hk hN hby hcells hslots rfl fun H1 cA e1 z1 o1 hAr hNm => ?_
  have hcA : cA = E.2.2.1 t := Option.some.inj (hNm.symm.trans (hra _ _ (B.2.2.2.1.1.2 t _ (ht E)).2))
  subst hcA
  have hk2 : ∀ (k : Nat) (x : Nat × va_E), (wld E n F)[k]? = some x → H1[x.1]? = H[x.1]? := fun k x hx => o1 x.1 ((hP k x hx).lt)
  have hP1 : va_P E.2.1 vwCl (wld E n F ++ [(H.size, .inl (E.2.2.1 t, N, a0))]) H1 := (hP.kept hk2).app (fun k x hx => by
    have hz : k < 1 := (List.getElem?_eq_some_iff.mp hx).1
    rw [show k = 0 by omega] at hx
    cases hx
    show H1[H.size]? = some (vp_cell _ _)
    rw [ha0]
    exact e1)
  have e9 : ((H.size, .inl (E.2.2.1 t, N, a0)) : Nat × va_E) = (E.1 + n, cvc E (F n)) := by
    rw [hF, hsz]
    show _ = (E.1 + n, Sum.inl (E.2.2.1 t, N, cvr E a0))
    rw [hcv]
  rw [e9, wld_add] at hP1
  have k2 := h l E p e s m args below meth c ls H1 locs B b hl hP1 ⟨Nat.le_trans hS.1 (by omega), fun x h1 h2 => (o1 x (Nat.lt_of_lt_of_le h1 hS.1)).trans (hS.2.1 x h1 h2), hS.2.2⟩ (fun _ => by omega)
  have e8 : cvv E (.ref n) = .ref H.size := by
    show Value.ref (ph E n) = _
    rw [ph_lt E (nn1 hn), hsz]
  rw [List.map_cons, e8] at k2
  exact k2
theorem arrV_cong {c : ClassId} {N : Nat} {f g : Nat → Value} (h : ∀ j, j < N → f j = g j) : arrV c N f = arrV c N g := by
  unfold arrV
  congr 1
  apply Array.ext
  · simp
  · intro i h1 h2
    simp at h1 ⊢
    exact h i h1
/-- a row of references, its places beyond its length are nothing -/
theorem c_refs {a t N : Nat} {f g : Nat → Option Nat} {F1 : Nat → va_E} (hF : F a = .inl (t, N, .inr (.inr (.inr (.inr f))))) (hF1 : ∀ x, F1 x = va_up F a (.inl (t, N, .inr (.inr (.inr (.inr g))))) x) (hfg : ∀ j, j < N → f j = g j) (h : VQ mi R BX QX n cells slots pc L st F1) : VQ mi R BX QX n cells slots pc L st F := by
  intro l E p e s m args below meth c ls H locs B b hl hP hS hz
  refine h l E p e s m args below meth c ls H locs B b hl ?_ hS hz
  intro k q hk
  rw [wld_at] at hk
  by_cases hkn : k < n
  · rw [if_pos hkn] at hk
    cases hk
    have h0 := hP k _ (wld_get (E := E) (F := F) hkn)
    by_cases hka : k = a
    · subst hka
      rw [hF] at h0
      rw [hF1]
      unfold va_up
      rw [if_pos rfl]
      have h1 : H[E.1 + k]? = some (vp_cell (E.2.2.1 t) (N, .inr (.inr (.inr (.inr (fun j => (f j).map (ph E))))))) := h0
      show H[E.1 + k]? = some (vp_cell (E.2.2.1 t) (N, .inr (.inr (.inr (.inr (fun j => (g j).map (ph E)))))))
      rw [h1, vp_cell_q, vp_cell_q]
      congr 1
      exact arrV_cong (fun j hj => by rw [hfg j hj])
    · rw [hF1]
      unfold va_up
      rw [if_neg hka]
      exact h0
  · rw [if_neg hkn] at hk; cases hk
end

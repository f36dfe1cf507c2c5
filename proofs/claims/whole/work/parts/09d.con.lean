section
variable {mi : MI} {R : Room} {BX : BXT} {QX : QXT} {n cells slots pc : Nat} {L : List (Nat × Value)} {st : List Value} {F : Nat → va_E}
theorem c_anew {N idx : Nat} {k : Int32} (hn : n < NN) (hF : F n = .inl (5, N, .inr (.inr (.inr (.inr (fun _ => none)))))) (hcl : Cond.classLink mi.2.2.2.cls idx "java/lang/String" ∈ TB) (hk : ¬ k < 0) (hN : k.toNatClampNeg = N) (hby : N * 4 ≤ 536870912) (hcells : cells + 1 ≤ R.cells) (hslots : slots + N ≤ R.slots)
    (hd : decode mi.1 pc = .ok (.anewarray idx, 3)) (h : VQ mi R BX QX (n + 1) (cells + 1) (slots + N) (pc + 3) L (.ref n :: st) F) : VQ mi R BX QX n cells slots pc L (.int k :: st) F := by
  intro l E p e s m args below meth c ls H locs B b hl hP hS hz
  have hsz := hz hn
  subst hN
  refine W.anew B.1.1 B.1.2.1 B.2.1 (B.2.2.1 _ hcl) (va_AO.use B.2.2.2.1.2.2.1.2.2) rfl hd rfl hk hby hcells hslots fun cA kA comp f1 f2 f3 f4 => ?_
  generalize hH1 : H.push ({ cls := cA, slots := Array.replicate k.toNatClampNeg .null, vm := .none } : Cell) = H1
  have z1 : H1.size = H.size + 1 := by rw [← hH1, Array.size_push]
  have e1 : H1[H.size]? = some (arrV cA k.toNatClampNeg (fun _ => .null)) := by rw [← hH1, Array.getElem?_push_size, ← arrV_new]
  have o1 : ∀ q : Nat, q < H.size → H1[q]? = H[q]? := fun q hq => by rw [← hH1, Array.getElem?_push, if_neg (Nat.ne_of_lt hq)]
  have hRA : va_RA s (E.2.2.1 5) (.object "java/lang/String") := (B.2.2.2.1.1.2 5 _ (show (tysOf E)[5]? = some (E.2.2.1 5, .object "java/lang/String") from rfl)).2
  obtain ⟨_, _, _, _, _, g1⟩ := hRA
  have hcA : cA = E.2.2.1 5 := Option.some.inj (f1.symm.trans g1)
  subst hcA
  have hk2 : ∀ (k : Nat) (x : Nat × va_E), (wld E n F)[k]? = some x → H1[x.1]? = H[x.1]? := fun k x hx => o1 x.1 ((hP k x hx).lt)
  have hP1 : va_P E.2.1 vwCl (wld E n F ++ [(H.size, .inl (E.2.2.1 5, k.toNatClampNeg, .inr (.inr (.inr (.inr (fun _ => none))))))]) H1 := (hP.kept hk2).app (fun k x hx => by
    have hz : k < 1 := (List.getElem?_eq_some_iff.mp hx).1
    rw [show k = 0 by omega] at hx
    cases hx
    show H1[H.size]? = some (vp_cell _ _)
    rw [vp_cell_q]
    exact e1)
  have e9 : ((H.size, .inl (E.2.2.1 5, k.toNatClampNeg, .inr (.inr (.inr (.inr (fun _ => none)))))) : Nat × va_E) = (E.1 + n, cvc E (F n)) := by rw [hF, hsz]; rfl
  rw [e9, wld_add] at hP1
  have k2 := h l E p e s m args below meth c ls H1 locs B b hl hP1 ⟨Nat.le_trans hS.1 (by omega), fun x h1 h2 => (o1 x (Nat.lt_of_lt_of_le h1 hS.1)).trans (hS.2.1 x h1 h2), hS.2.2⟩ (fun _ => by omega)
  have e8 : cvv E (.ref n) = .ref H.size := by
    show Value.ref (ph E n) = _
    rw [ph_lt E (nn1 hn), hsz]
  rw [List.map_cons, e8] at k2
  exact k2
theorem c_aast {a N j : Nat} {i : Int32} {f : Nat → Option Nat} {F1 : Nat → va_E} (ha : a < n) (ha2 : a < 1000) (hj : j < 16) (hF : F a = .inl (5, N, .inr (.inr (.inr (.inr f))))) (hi : inb i N = true) (hF1 : ∀ x, va_up F a (.inl (5, N, .inr (.inr (.inr (.inr (va_up f (ix i) (some (1000 + j)))))))) x = F1 x) (hd : decode mi.1 pc = .ok (.aastore, 1)) (h : VQ mi R BX QX n cells slots (pc + 1) L st F1) : VQ mi R BX QX n cells slots pc L (.ref (1000 + j) :: .int i :: .ref a :: st) F := by
  intro l E p e s m args below meth c ls H locs B b hl hP hS hz
  have hg := wld_get (E := E) (F := F) ha
  rw [hF] at hg
  have hg : (wld E n F)[a]? = some (E.1 + a, .inl (E.2.2.1 5, N, .inr (.inr (.inr (.inr (fun j => (f j).map (ph E))))))) := hg
  have hset : (wld E n F).set a (E.1 + a, .inl (E.2.2.1 5, N, .inr (.inr (.inr (.inr (fun q => (va_up f (ix i) (some (1000 + j)) q).map (ph E))))))) = wld E n F1 := by
    have := wld_set (E := E) (F := F) ha (.inl (5, N, .inr (.inr (.inr (.inr (va_up f (ix i) (some (1000 + j))))))))
    rw [wld_ext (fun b _ => hF1 b)] at this
    exact this
  have e2 : (fun q => (va_up f (ix i) (some (1000 + j)) q).map (ph E)) = va_up (fun q => (f q).map (ph E)) i.toNatClampNeg (some (E.2.2.2.1 j)) := by
    funext q
    unfold va_up
    by_cases hq : q = ix i
    · rw [if_pos hq, if_pos (show q = i.toNatClampNeg from hq)]
      show some (ph E (1000 + j)) = _
      rw [ph_s]
    · rw [if_neg hq, if_neg (show ¬ q = i.toNatClampNeg from hq)]
  rw [e2] at hset
  show W p l e R s m args below meth c H locs cells slots _ (F0 m pc ls (.ref (ph E (1000 + j)) :: .int i :: .ref (ph E a) :: st.map (cvv E)))
  rw [ph_lt E ha2, ph_s]
  have hD := wld_D E n F
  have hin := inb_iff.mp hi
  have hlt : i.toNatClampNeg < N := Nat.not_le.mp fun q => hin (Or.inr q)
  have h0 : ¬ i < 0 := fun q => hin (Or.inl q)
  obtain ⟨cellV, g1, g3, g4⟩ := vk_recv B.2.2.2.2.1.1 hj hS
  obtain ⟨kA, comp, k1, k2, k3, -⟩ := (B.2.2.2.1.1.2 5 _ (show (tysOf E)[5]? = some (E.2.2.1 5, .object "java/lang/String") from rfl)).2
  obtain ⟨kE, hkE, -⟩ := Vm.findClass_spec k3
  have hcomp : comp = cellV.cls := Option.some.inj (k3.symm.trans g4)
  subst hcomp
  refine W.aast B.1.1 B.1.2.1 (hP a _ hg) (fun q h => by cases h) (fun h => by cases h) k1 k2 rfl hkE ⟨h0, by show _ < (arrV _ _ _).slots.size; rw [arrV_size]; exact hlt⟩ g1 (fun q h => by rw [h] at g3; cases g3) hkE (va_asg _ _) rfl rfl hd fun H1 e z oq => ?_
  have hat : va_at E.2.1 vwCl (E.1 + a, .inl (E.2.2.1 5, N, .inr (.inr (.inr (.inr (va_up (fun q => (f q).map (ph E)) i.toNatClampNeg (some (E.2.2.2.1 j)))))))) H1 := by
    show H1[E.1 + a]? = some (vp_cell _ _)
    rw [e]
    rw [vp_cell_q, vp_cell_q, arrV_store]
    congr 2
    funext q
    by_cases hq : q = i.toNatClampNeg
    · subst hq
      simp [updV, va_up, va_rf]
    · simp [updV, va_up, hq]
  have hP1 := hP.set hD hg hat oq
  rw [hset] at hP1
  exact h l E p _ s m args below meth c ls H1 _ B b hl hP1 (hS.put z oq (hD.2 a _ hg)) (fun q => by rw [z]; exact hz q)
theorem c_mna {t ti N K idx : Nat} {ty : FieldType} {a b9 : Int32} {z : (Nat → Int32) ⊕ (Nat → Int64) ⊕ (Nat → UInt32) ⊕ (Nat → UInt64) ⊕ (Nat → Option Nat)} (hn : n + (1 + N) < NN) (hF : F n = .inl (t, N, .inr (.inr (.inr (.inr (fun j => some (n + 1 + j))))))) (hFi : ∀ j, j < N → F (n + 1 + j) = .inl (ti, K, z)) (hcv : ∀ E, cvr E z = z) (ht : ∀ E, (tysOf E)[t]? = some (E.2.2.1 t, .array ty)) (hti : ∀ E, (tysOf E)[ti]? = some (E.2.2.1 ti, ty)) (hra : ∀ s c, va_RA s c ty → s.vm.findClass (FieldType.array ty).toString = some c) (hover : ∀ E s, Tb E s → va_AOA ty s)
    (hcl : Cond.classLink mi.2.2.2.cls idx ("[" ++ (FieldType.array ty).toString) ∈ TB) (hw : Cond.arrayClass ty ∈ TB) (ha : ¬ a < 0) (hb : ¬ b9 < 0) (hN : a.toNatClampNeg = N) (hK : b9.toNatClampNeg = K) (hb1 : N * 4 ≤ 536870912) (hb2 : K * componentBytes ty ≤ 536870912) (hb3 : K ≤ 536870912) (hdf : fits ty (defaultValue ty) = true) (hdd : (defaultValue ty).isDefault = true) (hcells : cells + (1 + N) ≤ R.cells) (hslots : slots + (N + N * K) ≤ R.slots) (hz9 : ∀ c : ClassId, Jvm.Free.Multi.innerC c K (defaultValue ty) = vp_cell c (K, z))
    (hd : decode mi.1 pc = .ok (.multianewarray idx 2, 4)) (h : VQ mi R BX QX (n + (1 + N)) (cells + 1 + N) (slots + N + N * K) (pc + 4) L (.ref n :: st) F) : VQ mi R BX QX n cells slots pc L (.int b9 :: .int a :: st) F := by
  subst hN
  subst hK
  intro l E p e s m args below meth c ls H locs B b hl hP hS hz
  have hsz := hz (by omega)
  intro T hT Xs
  obtain ⟨vm₁, cA, comp, -, fA, fC, hO, -, X', step⟩ := Xs.multianewarray2F B.1.1 B.2.1 (B.2.2.1 _ hcl) (va_AOA.use (hover E s B.2.2.2.1)) (B.2.2.1 _ hw) (g := F0 m pc ls (.int b9 :: .int a :: st.map (cvv E))) rfl (by rw [B.1.2.1]; exact hd) rfl ha hb hb1 hb2 hb3 hdf hdd hcells hslots
  have hcA : cA = E.2.2.1 t := Option.some.inj (fA.symm.trans (B.2.2.2.1.1.2 t _ (ht E)).2)
  have hco : comp = E.2.2.1 ti := Option.some.inj (fC.symm.trans (hra _ _ (B.2.2.2.1.1.2 ti _ (hti E)).2))
  subst hcA
  subst hco
  generalize hFF : Jvm.Free.Multi.fill (T.setVm vm₁) (E.2.2.1 t) (E.2.2.1 ti) a.toNatClampNeg b9.toNatClampNeg (defaultValue ty) a.toNatClampNeg = G at X' step
  have hTh : (T.setVm vm₁).heap = H := hT
  obtain ⟨f1, f2, -, -⟩ := Jvm.Free.Multi.fill_facts (T.setVm vm₁) (E.2.2.1 t) (E.2.2.1 ti) a.toNatClampNeg b9.toNatClampNeg (defaultValue ty) a.toNatClampNeg
  rw [hFF, hTh] at f1 f2
  have hold : ∀ x : Nat, x < H.size → G.heap[x]? = H[x]? := fun x hx => by
    have := Jvm.Free.Multi.fill_old (T.setVm vm₁) (E.2.2.1 t) (E.2.2.1 ti) a.toNatClampNeg b9.toNatClampNeg (defaultValue ty) (a := x) (by rw [hTh]; exact hx) a.toNatClampNeg
    rw [hFF, hTh] at this
    exact this
  have hrow : ∀ j : Nat, j < a.toNatClampNeg → G.heap[H.size + 1 + j]? = some (vp_cell (E.2.2.1 ti) (b9.toNatClampNeg, z)) := fun j hj => by
    have := Jvm.Free.Multi.fill_inner (T.setVm vm₁) (E.2.2.1 t) (E.2.2.1 ti) a.toNatClampNeg b9.toNatClampNeg (defaultValue ty) a.toNatClampNeg j hj
    rw [hFF, hTh, hz9] at this
    exact this
  have hout : Jvm.Free.Multi.outerC (E.2.2.1 t) a.toNatClampNeg H.size a.toNatClampNeg = vp_cell (E.2.2.1 t) (a.toNatClampNeg, .inr (.inr (.inr (.inr (fun i => some (H.size + 1 + i)))))) := by
    rw [vp_cell_q]
    refine (vr_outer (E.2.2.1 t) a.toNatClampNeg H.size a.toNatClampNeg).trans (arrV_cong (fun j hj => ?_))
    rw [if_pos hj]
  rw [hout] at f2
  have hP1 : va_P E.2.1 vwCl (wld E (n + (1 + a.toNatClampNeg)) F) G.heap := by
    intro k q hk
    rw [wld_at] at hk
    by_cases hkn : k < n + (1 + a.toNatClampNeg)
    · rw [if_pos hkn] at hk
      cases hk
      by_cases h1 : k < n
      · have h0 := hP k _ (wld_get (E := E) (F := F) h1)
        exact h0.kept (hold _ h0.lt)
      · by_cases h2 : k = n
        · subst h2
          rw [hF]
          show G.heap[E.1 + k]? = some (vp_cell (E.2.2.1 t) (a.toNatClampNeg, .inr (.inr (.inr (.inr (fun j => (some (k + 1 + j)).map (ph E)))))))
          rw [← hsz, f2, vp_cell_q, vp_cell_q]
          congr 1
          refine arrV_cong (fun j hj => ?_)
          show va_rf (some (H.size + 1 + j)) = va_rf (some (ph E (k + 1 + j)))
          rw [ph_lt E (nn1 (by omega)), hsz]
          congr 2
          omega
        · obtain ⟨j, rfl⟩ : ∃ j, k = n + 1 + j := ⟨k - n - 1, by omega⟩
          rw [hFi j (by omega)]
          show G.heap[E.1 + (n + 1 + j)]? = some (vp_cell (E.2.2.1 ti) (b9.toNatClampNeg, cvr E z))
          rw [hcv, ← hrow j (by omega), hsz]
          congr 1
          omega
    · rw [if_neg hkn] at hk; cases hk
  have k2 := h l E p e s m args below meth c ls G.heap locs B b hl hP1 ⟨Nat.le_trans hS.1 (by rw [f1]; omega), fun x h1 h2 => (hold x (Nat.lt_of_lt_of_le h1 hS.1)).trans (hS.2.1 x h1 h2), hS.2.2⟩ (fun _ => by rw [f1]; omega)
  have e8 : cvv E (.ref n) = .ref H.size := by
    show Value.ref (ph E n) = _
    rw [ph_lt E (nn1 (by omega)), hsz]
  rw [List.map_cons, e8] at k2
  obtain ⟨t2, a1, b1⟩ := k2 G rfl X'
  refine ⟨t2, step t2 ?_, b1⟩
  have e : T.heap.size = H.size := by rw [hT]
  rw [e]
  exact a1
theorem c_objI {idx a : Nat} (hw : Cond.methodLink mi.2.2.2.cls idx Lib.objectInit ∈ TB) (hi : Cond.instanceMethod Lib.objectInit ∈ TB) (hc : Cond.code Lib.objectInit ⟨#[0xb1]⟩ 1 none ∈ TB) (hfr : 1 ≤ R.frames) (hlo : (st.map fun v => v.category).sum + 12 ≤ R.locals) (hd : decode mi.1 pc = .ok (.invokespecial idx, 3)) (h : VQ mi R BX QX n cells slots (pc + 3) L st F) : VQ mi R BX QX n cells slots pc L (.ref a :: st) F := by
  intro l E p e s m args below meth c ls H locs B b hl hP hS hz
  refine W.objInit B.1.1 B.1.2.1 B.2.1 (B.2.2.1 _ hw) (B.2.2.1 _ hi) (B.2.2.1 _ hc) rfl (by rw [B.1.2.2.1]; exact hl.1) rfl hd hfr (by show 2 * 0 + _ + 12 ≤ _; rw [cat_sum]; omega) ?_
  exact W.eq (g2 := F0 m (pc + 3) ls (st.map (cvv E))) rfl (h l E p e s m args below meth c ls H locs B b hl hP hS hz)
theorem c_ldcS {idx j : Nat} (hq : (mi.2.2.2.cls, idx, j) ∈ SRl) (hd : decode mi.1 pc = .ok (.ldc idx, 2)) (h : VQ mi R BX QX n cells slots (pc + 2) L (.ref (1000 + j) :: st) F) : VQ mi R BX QX n cells slots pc L st F := by
  intro l E p e s m args below meth c ls H locs B b hl hP hS hz
  refine va_ldcS B.1.1 B.1.2.1 B.2.1 (B.2.2.2.1.2.2.2.1 _ hq) hd ?_
  have k2 : W p l e R s m args below meth c H locs cells slots _ (F0 m (pc + 2) ls (.ref (ph E (1000 + j)) :: st.map (cvv E))) := h l E p e s m args below meth c ls H locs B b hl hP hS hz
  rw [ph_s] at k2
  exact k2
end
/-- a constructor's end and contract -/
def QC (n : Nat) (F : Nat → va_E) (mc ms : Nat) : QXT := fun E s args below => MQ below (Cq E n F (.inr none)) args s mc ms (Ab E)
def BX0 : BXT := fun _ _ _ _ => True
def CTC (d : Nat) (mi : MI) (n n2 mc ms : Nat) (av : List Value) (F F2 : Nat → va_E) : Prop :=
  ∀ (l : Launch) (E : EV), l.stackTraces = false → Met l mi.2.2.2 (wsOf mi) (rmOf d mc ms) (Cp E n F av) (Cq E n2 F2 (.inr none)) mc ms (Ab E)
theorem CTC.of {d : Nat} {mi : MI} {n n2 mc ms : Nat} {av : List Value} {F F2 : Nat → va_E} (hy : plainName mi.2.2.2.cls = true) (hlen : (lg_sl av).length ≤ mi.2.1)
    (h : VQ mi (rmOf d mc ms) BX0 (QC n2 F2 mc ms) n 0 0 0 (lv_args 0 av) [] F) : CTC d mi n n2 mc ms av F F2 := by
  intro l E hst
  refine Met.ofW (cc := mi.1) (maxL := mi.2.1) (ret := mi.2.2.1) hy rfl ?_
  intro p e s m args below meth c s₁ B hml hv
  obtain ⟨rfl, hP, hT, hO, hz, hb⟩ := hv
  have hts := atoms_spec (ws := wsOf mi) B.pre
  have hl := lv_entry (av.map (cvv E)) (n := mi.2.1) (by rw [lg_sl_cv]; exact hlen)
  rw [lg_entry_eq]
  generalize (lg_sl (av.map (cvv E)) ++ List.replicate (mi.2.1 - (lg_sl (av.map (cvv E))).length) Slot.unset).toArray = ls at hl ⊢
  rw [lv_args_cv] at hl
  exact h l E p e s m _ below meth c ls s.heap [] ⟨⟨B.exec, B.bytes, hml, B.returns, B.notSynchronized, (name_of_methodNamed B.named B.method).1⟩, findClass_of_methodNamed B.named, fun w hw => hts w (List.mem_cons_of_mem _ hw), hT, hO, hst, hb⟩ trivial hl hP va_S.rf hz
theorem cp_preN {E : EV} {s : State} {H : Heap} {locs : List Loc} {av : List Value} {n : Nat} {F : Nat → va_E} (hT : Tb E s) (hO : Old E s s.heap) (hb : E.1 ≤ s.heap.size) (hP : va_P E.2.1 vwCl (wld E n F) H) (hS : va_S (Ab E) s.heap H locs) (hz : n < NN → H.size = E.1 + n) : ∀ U : State, U.heap = H → s.WarmedH U.vm → Cp E n F av (av.map (cvv E)).toArray U := by
  intro U hU hW
  refine ⟨rfl, by rw [hU]; exact hP, Tb.warm hW hT, Old.at hO hS hU hW, fun q => by rw [hU]; exact hz q, ?_⟩
  rw [hU]
  exact Nat.le_trans hb hS.1
/-- what the tables say of a constructor -/
def MokC (y : MI) (n : Nat) : Prop := Mok y n ∧ Cond.instanceMethod y.2.2.2 ∈ TB ∧ y.2.2.2.name = "<init>" ∧ y.2.2.1 = none
section
variable {mi y : MI} {R : Room} {BX : BXT} {QX : QXT} {n n2 cells slots pc d2 mc2 ms2 idx k : Nat} {L : List (Nat × Value)} {rest As : List Value} {F F2 : Nat → va_E}
theorem c_ret {mc ms : Nat} (hr : mi.2.2.1 = none) (hc : cells = mc) (hs : slots = ms) (hd : decode mi.1 pc = .ok (.return_, 1)) : VQ mi R BX (QC n F mc ms) n cells slots pc L [] F := by
  subst hc
  subst hs
  intro l E p e s m args below meth c ls H locs B b hl hP hS hz
  exact W.vret B.1.1 B.1.2.1 (B.1.2.2.2.1.trans hr) (fun t ht _ => ⟨⟨_, rfl, rfl⟩, by rw [ht]; exact hP, fun q => by rw [ht]; exact hz q, hS.F ht⟩) hS.2.2 hd B.1.2.2.2.2.1
theorem c_callI {a : Nat} {st0 : List Value} (hm : MokC y k) (hn : As.length = k) (hlink : Cond.methodLink mi.2.2.2.cls idx y.2.2.2 ∈ TB ∨ (mi.2.2.2.cls, idx, y.2.2.2.cls) ∈ NLl ∧ y.2.2.2.desc = "()V") (hd2 : d2 + 1 ≤ R.frames ∧ 100 * d2 + 100 ≤ R.locals) (hmc : cells + mc2 ≤ R.cells ∧ slots + ms2 ≤ R.slots) (hcat : (rest.map fun v => v.category).sum ≤ 8) (hst : st0 = As.reverse ++ .ref a :: rest)
    (hd : decode mi.1 pc = .ok (.invokespecial idx, 3)) (hK : CTC d2 y n n2 mc2 ms2 (.ref a :: As) F F2) (h : VQ mi R BX QX n2 (cells + mc2) (slots + ms2) (pc + 3) L rest F2) : VQ mi R BX QX n cells slots pc L st0 F := by
  intro l E p e s m args below meth c ls H locs B b hl hP hS hz
  have hp1 := cp_preN (av := .ref a :: As) B.2.2.2.1 B.2.2.2.2.1 B.2.2.2.2.2.2 hP hS hz
  have hret : y.2.2.1 = none := hm.2.2.2
  have hw : wsOf y = Cond.code y.2.2.2 y.1 y.2.1 none :: TB := by unfold wsOf; rw [hret]
  have hG : GoodIn TB (wsOf y) := fun w hw => by
    rcases List.mem_cons.mp hw with rfl | hw
    · exact tb_good _ hm.1.2.2
    · exact tb_good _ hw
  have hR : 8 + (y.2.1 + 11) + 100 * d2 ≤ R.locals := by
    have := hm.1.1.2
    omega
  have hstk : st0.map (cvv E) = (As.map (cvv E)).reverse ++ .ref (ph E a) :: rest.map (cvv E) := by
    rw [hst, List.map_append, List.map_reverse, List.map_cons]
    rfl
  have hcat2 : 2 * 0 + ((rest.map (cvv E)).map fun v => v.category).sum ≤ 8 := by rw [cat_sum]; omega
  have hrun : va_Run p l e R s m args below meth c H locs cells slots mc2 ms2 (F0 m pc ls (st0.map (cvv E))) (rest.map (cvv E)) (Cq E n2 F2 (.inr none) (Value.ref (ph E a) :: As.map (cvv E)).toArray) (Ab E) := by
    rcases hlink with hlink | ⟨hlink, hds⟩
    · exact va_runI (As := As.map (cvv E)) (b := ph E a) (nL := mi.2.1) (n := k) ⟨B.1.1, B.1.2.1, B.1.2.2.1, B.2.1, B.2.2.1⟩ (hK l E B.2.2.2.2.2.1) ⟨callB_of k B.2.2.1 hG hw rfl rfl (B.2.2.1 _ hm.1.2.1) (B.2.2.1 _ hlink) hm.1.1.1 ⟨hd2.1, hR⟩, hm.2.2.1, B.2.2.1 _ hm.2.1⟩ ⟨Cp.blind, hp1⟩ rfl (by rw [List.length_map]; exact hn) hl.1 hstk hcat2 hd hmc
    · have hnl := B.2.2.2.1.2.1 _ hlink
      have ey : (⟨y.2.2.2.cls, "<init>", "()V"⟩ : MethodName) = y.2.2.2 := by
        have e1 := hm.2.2.1
        cases hq : y.2.2.2 with
        | mk a b c => rw [hq] at e1 hds; subst e1; subst hds; rfl
      have hnl2 : va_Nw (.methodLinkNest mi.2.2.2.cls idx y.2.2.2 "SonsLot") s := by rw [← ey]; exact hnl
      exact va_runIN (As := As.map (cvv E)) (b := ph E a) (nL := mi.2.1) (n := k) ⟨B.1.1, B.1.2.1, B.1.2.2.1, B.2.1, B.2.2.1⟩ (hK l E B.2.2.2.2.2.1) ⟨va_cnB k B.2.2.1 hG hw rfl rfl hnl2 (B.2.2.1 _ hm.1.2.1) hm.1.1.1 ⟨hd2.1, hR⟩, hm.2.2.1, B.2.2.1 _ hm.2.1⟩ ⟨Cp.blind, hp1⟩ rfl (by rw [List.length_map]; exact hn) hl.1 hstk hcat2 hd hmc
  intro T hT X
  obtain ⟨v, st₀, t, T', Lo, h0, X', hL, e1, e2, ⟨⟨r, hr1, hv⟩, hP1, hz1, hF⟩, stp⟩ := hrun T hT X
  cases hr1
  cases hv
  obtain ⟨k1, k2, k3⟩ := vx_keep h0 e1 hS (fun _ _ h => h) (fun _ h => h) hL hF
  obtain ⟨t2, a1, b1⟩ := h l E p e s m args below meth c ls T'.heap (locs ++ Lo) B b hl (by rw [e1]; exact hP1) k3 (fun q => by rw [e1]; exact hz1 q) T' rfl X'
  exact ⟨t2, stp t2 a1, b1⟩
end

section
variable {mi : MI} {d mc ms cells slots pc : Nat} {L : List (Nat × Value)} {st : List Value} {M : Mem} {o A B : RS}
theorem nn1 {a : Nat} (h : a < NN) : a < 1000 := Nat.lt_trans h (by decide)
theorem g_ald {a n : Nat} {i : Int32} (hk : kd a = (20, n)) (hd : decode mi.1 pc = .ok (.iaload, 1)) (h : inb i n = true → GO mi d mc ms cells slots (pc + 1) L (.int (gi M a (ix i)) :: st) M o) : GO mi d mc ms cells slots pc L (.int i :: .ref a :: st) M (chk (inb i n) o) := by
  refine GO.chk fun hi => ?_
  intro M' ρ e l E p e' s m args below meth c ls H locs B b hl hP hS hz
  have ha : a < NN := kd_lt hk (by decide)
  have hg := wld_get (E := E) (F := cel M) ha
  rw [cel_i hk] at hg
  show W p l e' _ s m args below meth c H locs cells slots _ (F0 m pc ls (.int i :: .ref (ph E a) :: st.map (cvv E)))
  rw [ph_lt E (nn1 ha)]
  exact va_iald (f := M.1 a) B.1.1 B.1.2.1 B.2.2.2.1.1 hP a 0 hg rfl (inb_iff.mp hi) hd (h hi M' ρ e l E p e' s m args below meth c ls H locs B b hl hP hS hz)
theorem g_bald {a n : Nat} {i : Int32} (hk : kd a = (21, n)) (hd : decode mi.1 pc = .ok (.baload, 1)) (h : inb i n = true → GO mi d mc ms cells slots (pc + 1) L (.int (gi M a (ix i)) :: st) M o) : GO mi d mc ms cells slots pc L (.int i :: .ref a :: st) M (chk (inb i n) o) := by
  refine GO.chk fun hi => ?_
  intro M' ρ e l E p e' s m args below meth c ls H locs B b hl hP hS hz
  have ha : a < NN := kd_lt hk (by decide)
  have hg := wld_get (E := E) (F := cel M) ha
  rw [cel_b hk] at hg
  show W p l e' _ s m args below meth c H locs cells slots _ (F0 m pc ls (.int i :: .ref (ph E a) :: st.map (cvv E)))
  rw [ph_lt E (nn1 ha)]
  exact va_bald (f := M.1 a) B.1.1 B.1.2.1 B.2.2.2.1.1 hP a 1 hg rfl (inb_iff.mp hi) hd (h hi M' ρ e l E p e' s m args below meth c ls H locs B b hl hP hS hz)
theorem g_lald {a n : Nat} {i : Int32} (hk : kd a = (22, n)) (hd : decode mi.1 pc = .ok (.laload, 1)) (h : inb i n = true → GO mi d mc ms cells slots (pc + 1) L (.long (gl M a (ix i)) :: st) M o) : GO mi d mc ms cells slots pc L (.int i :: .ref a :: st) M (chk (inb i n) o) := by
  refine GO.chk fun hi => ?_
  intro M' ρ e l E p e' s m args below meth c ls H locs B b hl hP hS hz
  have ha : a < NN := kd_lt hk (by decide)
  have hg := wld_get (E := E) (F := cel M) ha
  rw [cel_l hk] at hg
  show W p l e' _ s m args below meth c H locs cells slots _ (F0 m pc ls (.int i :: .ref (ph E a) :: st.map (cvv E)))
  rw [ph_lt E (nn1 ha)]
  exact va_lald (f := M.2.1 a) B.1.1 B.1.2.1 B.2.2.2.1.1 hP a 2 hg rfl (inb_iff.mp hi) hd (h hi M' ρ e l E p e' s m args below meth c ls H locs B b hl hP hS hz)
theorem g_ast {a n : Nat} {i v : Int32} (hk : kd a = (20, n)) (hd : decode mi.1 pc = .ok (.iastore, 1)) (h : inb i n = true → GO mi d mc ms cells slots (pc + 1) L st (si M a (ix i) v) o) : GO mi d mc ms cells slots pc L (.int v :: .int i :: .ref a :: st) M (chk (inb i n) o) := by
  refine GO.chk fun hi => ?_
  intro M' ρ e l E p e' s m args below meth c ls H locs B b hl hP hS hz
  have ha : a < NN := kd_lt hk (by decide)
  have hg := wld_get (E := E) (F := cel M) ha
  rw [cel_i hk] at hg
  have hset : (wld E NN (cel M)).set a (E.1 + a, .inl (E.2.2.1 0, n, .inl (upd (M.1 a) i.toNatClampNeg v))) = wld E NN (cel (si M a (ix i) v)) := by
    have := wld_set (E := E) (F := cel M) ha (.inl (0, n, .inl (upd (M.1 a) i.toNatClampNeg v)))
    rw [wld_ext (fun b _ => cel_si_arr hk (Or.inl rfl) b)] at this
    exact this
  show W p l e' _ s m args below meth c H locs cells slots _ (F0 m pc ls (.int v :: .int i :: .ref (ph E a) :: st.map (cvv E)))
  rw [ph_lt E (nn1 ha)]
  refine va_iast (f := M.1 a) B.1.1 B.1.2.1 B.2.2.2.1.1 hP (wld_D E NN (cel M)) hS a 0 hg rfl (inb_iff.mp hi) hd (fun H1 locs1 hP1 hD1 hS1 => ?_)
  rw [hset] at hP1
  exact h hi M' ρ e l E p e' s m args below meth c ls H1 locs1 B b hl hP1 hS1 (fun q => absurd q (Nat.lt_irrefl _))
theorem g_bast {a n : Nat} {i v : Int32} (hk : kd a = (21, n)) (hd : decode mi.1 pc = .ok (.bastore, 1)) (h : inb i n = true → GO mi d mc ms cells slots (pc + 1) L st (si M a (ix i) v.toInt8.toInt32) o) : GO mi d mc ms cells slots pc L (.int v :: .int i :: .ref a :: st) M (chk (inb i n) o) := by
  refine GO.chk fun hi => ?_
  intro M' ρ e l E p e' s m args below meth c ls H locs B b hl hP hS hz
  have ha : a < NN := kd_lt hk (by decide)
  have hg := wld_get (E := E) (F := cel M) ha
  rw [cel_b hk] at hg
  have hset : (wld E NN (cel M)).set a (E.1 + a, .inl (E.2.2.1 1, n, .inl (upd (M.1 a) i.toNatClampNeg (vp_nar .byte v)))) = wld E NN (cel (si M a (ix i) v.toInt8.toInt32)) := by
    have := wld_set (E := E) (F := cel M) ha (.inl (1, n, .inl (upd (M.1 a) i.toNatClampNeg (vp_nar .byte v))))
    rw [wld_ext (fun b _ => cel_si_arr hk (Or.inr rfl) b)] at this
    rw [vp_nar_byte] at this ⊢
    exact this
  show W p l e' _ s m args below meth c H locs cells slots _ (F0 m pc ls (.int v :: .int i :: .ref (ph E a) :: st.map (cvv E)))
  rw [ph_lt E (nn1 ha)]
  refine va_bast (f := M.1 a) B.1.1 B.1.2.1 B.2.2.2.1.1 hP (wld_D E NN (cel M)) hS a 1 hg rfl (inb_iff.mp hi) hd (fun H1 locs1 hP1 hD1 hS1 => ?_)
  rw [hset] at hP1
  exact h hi M' ρ e l E p e' s m args below meth c ls H1 locs1 B b hl hP1 hS1 (fun q => absurd q (Nat.lt_irrefl _))
theorem g_last {a n : Nat} {i : Int32} {v : Int64} (hk : kd a = (22, n)) (hd : decode mi.1 pc = .ok (.lastore, 1)) (h : inb i n = true → GO mi d mc ms cells slots (pc + 1) L st (sl M a (ix i) v) o) : GO mi d mc ms cells slots pc L (.long v :: .int i :: .ref a :: st) M (chk (inb i n) o) := by
  refine GO.chk fun hi => ?_
  intro M' ρ e l E p e' s m args below meth c ls H locs B b hl hP hS hz
  have ha : a < NN := kd_lt hk (by decide)
  have hg := wld_get (E := E) (F := cel M) ha
  rw [cel_l hk] at hg
  have hset : (wld E NN (cel M)).set a (E.1 + a, .inl (E.2.2.1 2, n, .inr (.inl (vp_updL (M.2.1 a) i.toNatClampNeg v)))) = wld E NN (cel (sl M a (ix i) v)) := by
    have := wld_set (E := E) (F := cel M) ha (.inl (2, n, .inr (.inl (vp_updL (M.2.1 a) i.toNatClampNeg v))))
    rw [wld_ext (fun b _ => cel_sl_arr hk b)] at this
    exact this
  show W p l e' _ s m args below meth c H locs cells slots _ (F0 m pc ls (.long v :: .int i :: .ref (ph E a) :: st.map (cvv E)))
  rw [ph_lt E (nn1 ha)]
  refine va_last (f := M.2.1 a) B.1.1 B.1.2.1 B.2.2.2.1.1 hP (wld_D E NN (cel M)) hS a 2 hg rfl (inb_iff.mp hi) hd (fun H1 locs1 hP1 hD1 hS1 => ?_)
  rw [hset] at hP1
  exact h hi M' ρ e l E p e' s m args below meth c ls H1 locs1 B b hl hP1 hS1 (fun q => absurd q (Nat.lt_irrefl _))
theorem g_alen {a t n : Nat} {v : Int32} (hk : kd a = (t, n)) (ht : t = 20 ∨ t = 21 ∨ t = 22) (hv : Int32.ofNat n = v) (hd : decode mi.1 pc = .ok (.arraylength, 1)) (h : GO mi d mc ms cells slots (pc + 1) L (.int v :: st) M o) : GO mi d mc ms cells slots pc L (.ref a :: st) M o := by
  intro M' ρ e l E p e' s m args below meth c ls H locs B b hl hP hS hz
  have ha : a < NN := kd_lt hk (by omega)
  have hg := wld_get (E := E) (F := cel M) ha
  show W p l e' _ s m args below meth c H locs cells slots _ (F0 m pc ls (.ref (ph E a) :: st.map (cvv E)))
  rw [ph_lt E (nn1 ha)]
  rcases ht with rfl | rfl | rfl
  · rw [cel_i hk] at hg
    exact va_alen B.1.1 B.1.2.1 B.2.2.2.1.1 hP a 0 hg rfl hv hd (h M' ρ e l E p e' s m args below meth c ls H locs B b hl hP hS hz)
  · rw [cel_b hk] at hg
    exact va_alen B.1.1 B.1.2.1 B.2.2.2.1.1 hP a 1 hg rfl hv hd (h M' ρ e l E p e' s m args below meth c ls H locs B b hl hP hS hz)
  · rw [cel_l hk] at hg
    exact va_alen B.1.1 B.1.2.1 B.2.2.2.1.1 hP a 2 hg rfl hv hd (h M' ρ e l E p e' s m args below meth c ls H locs B b hl hP hS hz)
theorem g_ireturn {v : Int32} {M1 : Mem} {ρ1 : Nat ⊕ Option Value} (hr : mi.2.2.1 = some .int) (hc : cells ≤ mc) (hs : slots ≤ ms) (hd : decode mi.1 pc = .ok (.ireturn, 1)) (hM : M1 = M) (hρ : ρ1 = .inr (some (.int v))) : GO mi d mc ms cells slots pc L [.int v] M (some (M1, ρ1)) := by
  subst hM; subst hρ
  intro M' ρ e l E p e' s m args below meth c ls H locs B b hl hP hS hz
  cases e
  refine W.widen hc hs (vx_ret ?_)
  exact W.iret B.1.1 B.1.2.1 (B.1.2.2.2.1.trans hr) (fun t ht _ => ⟨⟨_, rfl, rfl⟩, by rw [ht]; exact hP, fun q => absurd q (Nat.lt_irrefl _), hS.F ht⟩) hS.2.2 hd B.1.2.2.2.2.1
theorem g_zreturn {v : Int32} (hr : mi.2.2.1 = some .boolean) (hc : cells ≤ mc) (hs : slots ≤ ms) (hd : decode mi.1 pc = .ok (.ireturn, 1)) (hz : isZ v = true) : GO mi d mc ms cells slots pc L [.int v] M (some (M, .inr (some (.int v)))) := by
  intro M' ρ e l E p e' s m args below meth c ls H locs B b hl hP hS hz2
  cases e
  refine W.widen hc hs (vx_ret ?_)
  exact W.zret B.1.1 B.1.2.1 (B.1.2.2.2.1.trans hr) (isZ_nar hz) (fun t ht _ => ⟨⟨_, rfl, rfl⟩, by rw [ht]; exact hP, fun q => absurd q (Nat.lt_irrefl _), hS.F ht⟩) hS.2.2 hd B.1.2.2.2.2.1
theorem g_lreturn {v : Int64} (hr : mi.2.2.1 = some .long) (hc : cells ≤ mc) (hs : slots ≤ ms) (hd : decode mi.1 pc = .ok (.lreturn, 1)) : GO mi d mc ms cells slots pc L [.long v] M (some (M, .inr (some (.long v)))) := by
  intro M' ρ e l E p e' s m args below meth c ls H locs B b hl hP hS hz
  cases e
  refine W.widen hc hs (vx_ret ?_)
  exact W.lret B.1.1 B.1.2.1 (B.1.2.2.2.1.trans hr) (fun t ht _ => ⟨⟨_, rfl, rfl⟩, by rw [ht]; exact hP, fun q => absurd q (Nat.lt_irrefl _), hS.F ht⟩) hS.2.2 hd B.1.2.2.2.2.1
theorem g_vreturn (hr : mi.2.2.1 = none) (hc : cells ≤ mc) (hs : slots ≤ ms) (hd : decode mi.1 pc = .ok (.return_, 1)) : GO mi d mc ms cells slots pc L [] M (some (M, .inr none)) := by
  intro M' ρ e l E p e' s m args below meth c ls H locs B b hl hP hS hz
  cases e
  refine W.widen hc hs (vx_ret ?_)
  exact W.vret B.1.1 B.1.2.1 (B.1.2.2.2.1.trans hr) (fun t ht _ => ⟨⟨_, rfl, rfl⟩, by rw [ht]; exact hP, fun q => absurd q (Nat.lt_irrefl _), hS.F ht⟩) hS.2.2 hd B.1.2.2.2.2.1
end
def bI (r : RS) (k : Mem → Int32 → RS) : RS := match r with
  | some (M, .inr (some (.int v))) => k M v
  | some (M, .inl x) => some (M, .inl x)
  | _ => none
def bL (r : RS) (k : Mem → Int64 → RS) : RS := match r with
  | some (M, .inr (some (.long v))) => k M v
  | some (M, .inl x) => some (M, .inl x)
  | _ => none
def bV (r : RS) (k : Mem → RS) : RS := match r with
  | some (M, .inr none) => k M
  | some (M, .inl x) => some (M, .inl x)
  | _ => none
theorem Old.at {E : EV} {s U : State} {H : Heap} {locs : List Loc} (h : Old E s s.heap) (hS : va_S (Ab E) s.heap H locs) (hU : U.heap = H) (hW : s.WarmedH U.vm) : Old E U U.heap := by
  rw [hU]
  exact Old.moved hW.alike (Old.kept h hS.2.1)
section
variable {p : Program} {l : Launch} {e : Env} {R : Room} {s : State} {m : MethodId} {args : Array Value} {below : List Frame} {meth : Method} {c : Code} {H : Heap} {locs : List Loc} {cells slots mc1 ms1 pc : Nat} {Q : State → Prop} {ls : Array Slot} {st0 rest : List Value} {E : EV} {M1 : Mem} {a : Array Value}
theorem call_ret {r : Option Value} (hr : vx_Run p l e R s m args below meth c H locs cells slots mc1 ms1 (F0 m pc ls st0) rest (Cq E NN (cel M1) (.inr r) a) (Cx E NN (cel M1) (.inr r)) (Ab E)) (hS : va_S (Ab E) s.heap H locs)
    (kk : ∀ (H1 : Heap) (locs1 : List Loc), va_P E.2.1 vwCl (wld E NN (cel M1)) H1 → va_S (Ab E) s.heap H1 locs1 → W p l e R s m args below meth c H1 locs1 (cells + mc1) (slots + ms1) Q (F0 m (pc + 3) ls ((r.map (cvv E)).toList ++ rest))) : W p l e R s m args below meth c H locs cells slots Q (F0 m pc ls st0) := by
  intro T hT X
  rcases hr T hT X with ⟨v, st₀, t, T', L, h0, X', hL, e1, e2, ⟨⟨r1, hr1, hv⟩, hP, -, hF⟩, st⟩ | ⟨q, st₀, t, T', L, X9, ce, h0, X', hL, e1, e2, ⟨hr1, -⟩, hce, hcv, hcl, st⟩
  · cases hr1
    cases hv
    obtain ⟨k1, k2, k3⟩ := vx_keep h0 e1 hS (fun _ _ h => h) (fun _ h => h) hL hF
    obtain ⟨t2, a1, b1⟩ := kk T'.heap (locs ++ L) (by rw [e1]; exact hP) k3 T' rfl X'
    exact ⟨t2, st t2 a1, b1⟩
  · cases hr1
theorem call_thr {X0 : String} (hr : vx_Run p l e R s m args below meth c H locs cells slots mc1 ms1 (F0 m pc ls st0) rest (Cq E NN (cel M1) (.inl X0) a) (Cx E NN (cel M1) (.inl X0)) (Ab E)) (hS : va_S (Ab E) s.heap H locs)
    (kk : ∀ (H1 : Heap) (locs1 : List Loc) (q9 : Addr) (ce : Cell), va_P E.2.1 vwCl (wld E NN (cel M1)) H1 → va_S (Ab E) s.heap H1 locs1 → H1[q9]? = some ce → ce.vm = .none → s.vm.findClass X0 = some ce.cls → vx_W p l e R s m args below meth c H1 locs1 (cells + mc1) (slots + ms1) Q (F0 m pc ls rest) q9) : W p l e R s m args below meth c H locs cells slots Q (F0 m pc ls st0) := by
  intro T hT X
  rcases hr T hT X with ⟨v, st₀, t, T', L, h0, X', hL, e1, e2, ⟨⟨r1, hr1, hv⟩, hP, -, hF⟩, st⟩ | ⟨q, st₀, t, T', L, X9, ce, h0, X', hL, e1, e2, ⟨hr1, hP, -, hF⟩, hce, hcv, hcl, st⟩
  · cases hr1
  · cases hr1
    obtain ⟨k1, k2, k3⟩ := vx_keep h0 e1 hS (fun _ _ h => h) (fun _ h => h) hL hF
    obtain ⟨t2, a1, b1⟩ := kk T'.heap (locs ++ L) q ce (by rw [e1]; exact hP) k3 (by rw [e1]; exact hce) hcv hcl T' rfl X'
    exact ⟨t2, st.trans a1, b1⟩
end
theorem Mok.callB {y : MI} {n index mc ms d d2 mc2 ms2 : Nat} {own : String} {args : Array Value} {s : State} (h : Mok y n) (ht : ∀ w ∈ TB, w.before args s = true) (hl : Cond.methodLink own index y.2.2.2 ∈ TB) (hd : d2 + 1 ≤ d) :
    CallB (rmOf d mc ms) s args own index y.2.2.2 y.1 y.2.1 y.2.2.1 (wsOf y) (rmOf d2 mc2 ms2) mc2 ms2 n := by
  refine callB_of n ht (fun w hw => ?_) rfl rfl rfl (ht _ h.2.1) (ht _ hl) h.1.1 ⟨hd, ?_⟩
  · rcases List.mem_cons.mp hw with rfl | hw
    · exact tb_good _ h.2.2
    · exact tb_good _ hw
  · show 8 + (y.2.1 + 11) + 100 * d2 ≤ 100 * d
    have := h.1.2
    omega
section
variable {mi y : MI} {d mc ms cells slots pc d2 mc2 ms2 idx n : Nat} {L : List (Nat × Value)} {rest As : List Value} {M : Mem} {r : RS}
theorem cp_pre {E : EV} {s : State} {H : Heap} {locs : List Loc} {av : List Value} (hT : Tb E s) (hO : Old E s s.heap) (hb : E.1 ≤ s.heap.size) (hP : va_P E.2.1 vwCl (wld E NN (cel M)) H) (hS : va_S (Ab E) s.heap H locs) : ∀ U : State, U.heap = H → s.WarmedH U.vm → Cp E NN (cel M) av (av.map (cvv E)).toArray U := by
  intro U hU hW
  refine ⟨rfl, by rw [hU]; exact hP, Tb.warm hW hT, Old.at hO hS hU hW, fun q => absurd q (Nat.lt_irrefl _), ?_⟩
  rw [hU]
  exact Nat.le_trans hb hS.1
/-- a call goes on: the callee's contract, then what comes behind it -/
theorem runV {ci N a : Nat} {C : String} {T : u_T} {M1 : Mem} {ρ1 : Nat ⊕ Option Value} {st0 : List Value} (hC : Cls ci C T N) (hk : kd a = (ci, N)) (hyC : y.2.2.2.cls = C) (hm : MokV y n) (hn : As.length = n) (hlink : Cond.methodLink mi.2.2.2.cls idx y.2.2.2 ∈ TB) (hd2 : d2 + 1 ≤ d) (hmc : cells + mc2 ≤ mc ∧ slots + ms2 ≤ ms) (hcat : (rest.map fun v => v.category).sum ≤ 8) (hst : st0 = As.reverse ++ .ref a :: rest)
    (hd : decode mi.1 pc = .ok (.invokevirtual idx, 3)) (hK : CT d2 y NN NN mc2 ms2 (.ref a :: As) (cel M) (rho ρ1) (cel M1)) {l : Launch} {E : EV} {p : Program} {e : Env} {s : State} {m : MethodId} {args : Array Value} {below : List Frame} {meth : Method} {c : Code} {ls : Array Slot} {H : Heap} {locs : List Loc}
    (B : Bd mi l E p s m args meth c) (hl : lv_has ls mi.2.1 (L.map (cvl E))) (hP : va_P E.2.1 vwCl (wld E NN (cel M)) H) (hS : va_S (Ab E) s.heap H locs) :
    vx_Run p l e (rmOf d mc ms) s m args below meth c H locs cells slots mc2 ms2 (F0 m pc ls (st0.map (cvv E))) (rest.map (cvv E)) (Cq E NN (cel M1) (rho ρ1) ((Value.ref (E.1 + a) :: As.map (cvv E)).toArray)) (Cx E NN (cel M1) (rho ρ1)) (Ab E) := by
  have ha : a < NN := kd_lt hk (by have := hC.1.2.1; omega)
  have hg := wld_get (E := E) (F := cel M) ha
  rw [cel_obj hk hC.1.2.1] at hg
  subst hyC
  have hp1 := cp_pre (av := .ref a :: As) B.2.2.2.1 B.2.2.2.2.1 B.2.2.2.2.2.2 hP hS
  have e1 : ((Value.ref a :: As).map (cvv E)).toArray = (Value.ref (E.1 + a) :: As.map (cvv E)).toArray := by
    show (Value.ref (ph E a) :: As.map (cvv E)).toArray = _
    rw [ph_lt E (nn1 ha)]
  rw [e1] at hp1
  refine vx_runV (As := As.map (cvv E)) (b := E.1 + a) (C := y.2.2.2.cls) (nL := mi.2.1) ⟨B.1.1, B.1.2.1, B.1.2.2.1, B.2.1, B.2.2.1⟩ (hK l E B.2.2.2.2.2.1) ⟨hm.1.callB B.2.2.1 hlink hd2, B.2.2.1 _ hm.2.1, B.2.2.1 _ hm.2.2⟩ ⟨Cp.blind, va_recv B.2.2.2.1.1 hP hC.1.1 hg, hp1⟩ rfl ?_ ?_ ?_ ?_ hd hmc
  · rw [List.length_map]; exact hn
  · exact hl.1
  · show st0.map (cvv E) = _
    rw [hst, List.map_append, List.map_reverse, List.map_cons]
    show _ ++ Value.ref (ph E a) :: _ = _
    rw [ph_lt E (nn1 ha)]
  · show 2 * 0 + ((rest.map (cvv E)).map fun v => v.category).sum ≤ 8
    rw [List.map_map]
    have : ((fun v => Value.category v) ∘ cvv E) = fun v => Value.category v := by funext v; exact cvv_cat E v
    rw [this]
    omega
theorem runS {M1 : Mem} {ρ1 : Nat ⊕ Option Value} {st0 : List Value} (hm : MokS y n) (hn : As.length = n) (hlink : Cond.methodLink mi.2.2.2.cls idx y.2.2.2 ∈ TB) (hd2 : d2 + 1 ≤ d) (hmc : cells + mc2 ≤ mc ∧ slots + ms2 ≤ ms) (hcat : (rest.map fun v => v.category).sum ≤ 8) (hst : st0 = As.reverse ++ rest)
    (hd : decode mi.1 pc = .ok (.invokestatic idx, 3)) (hK : CT d2 y NN NN mc2 ms2 As (cel M) (rho ρ1) (cel M1)) {l : Launch} {E : EV} {p : Program} {e : Env} {s : State} {m : MethodId} {args : Array Value} {below : List Frame} {meth : Method} {c : Code} {ls : Array Slot} {H : Heap} {locs : List Loc}
    (B : Bd mi l E p s m args meth c) (hl : lv_has ls mi.2.1 (L.map (cvl E))) (hP : va_P E.2.1 vwCl (wld E NN (cel M)) H) (hS : va_S (Ab E) s.heap H locs) :
    vx_Run p l e (rmOf d mc ms) s m args below meth c H locs cells slots mc2 ms2 (F0 m pc ls (st0.map (cvv E))) (rest.map (cvv E)) (Cq E NN (cel M1) (rho ρ1) ((As.map (cvv E)).toArray)) (Cx E NN (cel M1) (rho ρ1)) (Ab E) := by
  have hp1 := cp_pre (av := As) B.2.2.2.1 B.2.2.2.2.1 B.2.2.2.2.2.2 hP hS
  refine vx_runS (As := As.map (cvv E)) (nL := mi.2.1) ⟨B.1.1, B.1.2.1, B.1.2.2.1, B.2.1, B.2.2.1⟩ (hK l E B.2.2.2.2.2.1) ⟨hm.1.callB B.2.2.1 hlink hd2, B.2.2.1 _ hm.2⟩ ⟨Cp.blind, hp1⟩ rfl ?_ ?_ ?_ ?_ hd hmc
  · rw [List.length_map]; exact hn
  · exact hl.1
  · show st0.map (cvv E) = _
    rw [hst, List.map_append, List.map_reverse]
  · show 2 * 0 + ((rest.map (cvv E)).map fun v => v.category).sum ≤ 8
    rw [List.map_map]
    have : ((fun v => Value.category v) ∘ cvv E) = fun v => Value.category v := by funext v; exact cvv_cat E v
    rw [this]
    omega
/-- an exception that comes out of a call goes on to the caller -/
theorem out_thr {M1 : Mem} {k : Nat} {l : Launch} {E : EV} {p : Program} {e : Env} {s : State} {m : MethodId} {args : Array Value} {below : List Frame} {meth : Method} {c : Code} {ls : Array Slot} {H1 : Heap} {locs1 : List Loc} {st : List Value} {q9 : Addr} {ce : Cell} (B : Bd mi l E p s m args meth c) (b : BXm E s args c) (hc : cells ≤ mc) (hs : slots ≤ ms)
    (hP : va_P E.2.1 vwCl (wld E NN (cel M1)) H1) (hS : va_S (Ab E) s.heap H1 locs1) (h1 : H1[q9]? = some ce) (h2 : ce.vm = .none) (h3 : s.vm.findClass (exN k) = some ce.cls) : vx_W p l e (rmOf d mc ms) s m args below meth c H1 locs1 cells slots (QM NN (cel M1) (rho (.inl k)) mc ms E s args below) (F0 m pc ls st) q9 :=
  vx_out (fun x hx => absurd hx (fun hx => b x hx)) B.1.2.2.2.2.1 h1 h2 h3 (fun t ht _ => ⟨rfl, by rw [ht]; exact hP, fun q => absurd q (Nat.lt_irrefl _), hS.F ht⟩) hS.2.2 hc hs
theorem g_callVI {ci N a : Nat} {C : String} {T : u_T} {k : Mem → Int32 → RS} {st0 : List Value} (hC : Cls ci C T N) (hk : kd a = (ci, N)) (hyC : y.2.2.2.cls = C) (hm : MokV y n) (hn : As.length = n) (hlink : Cond.methodLink mi.2.2.2.cls idx y.2.2.2 ∈ TB) (hd2 : d2 + 1 ≤ d) (hmc : cells + mc2 ≤ mc ∧ slots + ms2 ≤ ms) (hcat : (rest.map fun v => v.category).sum ≤ 8) (hst : st0 = As.reverse ++ .ref a :: rest)
    (hd : decode mi.1 pc = .ok (.invokevirtual idx, 3)) (hK : CTO d2 y mc2 ms2 (.ref a :: As) M r) (h : ∀ M1 v, GO mi d mc ms (cells + mc2) (slots + ms2) (pc + 3) L (.int v :: rest) M1 (k M1 v)) : GO mi d mc ms cells slots pc L st0 M (bI r k) := by
  intro M' ρ e l E p e' s m args below meth c ls H locs B b hl hP hS hz
  unfold bI at e
  split at e
  · rename_i M1 v
    exact call_ret (r := some (.int v)) (runV (ρ1 := .inr (some (.int v))) hC hk hyC hm hn hlink hd2 hmc hcat hst hd (hK M1 _ rfl) B hl hP hS) hS (fun H1 locs1 hP1 hS1 => h M1 v M' ρ e l E p e' s m args below meth c ls H1 locs1 B b hl hP1 hS1 (fun q => absurd q (Nat.lt_irrefl _)))
  · rename_i M1 x
    cases e
    exact call_thr (X0 := exN x) (runV (ρ1 := .inl x) hC hk hyC hm hn hlink hd2 hmc hcat hst hd (hK M' _ rfl) B hl hP hS) hS (fun H1 locs1 q9 ce hP1 hS1 h1 h2 h3 => out_thr B b hmc.1 hmc.2 hP1 hS1 h1 h2 h3)
  · cases e
theorem g_callSI {k : Mem → Int32 → RS} {st0 : List Value} (hm : MokS y n) (hn : As.length = n) (hlink : Cond.methodLink mi.2.2.2.cls idx y.2.2.2 ∈ TB) (hd2 : d2 + 1 ≤ d) (hmc : cells + mc2 ≤ mc ∧ slots + ms2 ≤ ms) (hcat : (rest.map fun v => v.category).sum ≤ 8) (hst : st0 = As.reverse ++ rest)
    (hd : decode mi.1 pc = .ok (.invokestatic idx, 3)) (hK : CTO d2 y mc2 ms2 As M r) (h : ∀ M1 v, GO mi d mc ms (cells + mc2) (slots + ms2) (pc + 3) L (.int v :: rest) M1 (k M1 v)) : GO mi d mc ms cells slots pc L st0 M (bI r k) := by
  intro M' ρ e l E p e' s m args below meth c ls H locs B b hl hP hS hz
  unfold bI at e
  split at e
  · rename_i M1 v
    exact call_ret (r := some (.int v)) (runS (ρ1 := .inr (some (.int v))) hm hn hlink hd2 hmc hcat hst hd (hK M1 _ rfl) B hl hP hS) hS (fun H1 locs1 hP1 hS1 => h M1 v M' ρ e l E p e' s m args below meth c ls H1 locs1 B b hl hP1 hS1 (fun q => absurd q (Nat.lt_irrefl _)))
  · rename_i M1 x
    cases e
    exact call_thr (X0 := exN x) (runS (ρ1 := .inl x) hm hn hlink hd2 hmc hcat hst hd (hK M' _ rfl) B hl hP hS) hS (fun H1 locs1 q9 ce hP1 hS1 h1 h2 h3 => out_thr B b hmc.1 hmc.2 hP1 hS1 h1 h2 h3)
  · cases e
theorem g_callVL {ci N a : Nat} {C : String} {T : u_T} {k : Mem → Int64 → RS} {st0 : List Value} (hC : Cls ci C T N) (hk : kd a = (ci, N)) (hyC : y.2.2.2.cls = C) (hm : MokV y n) (hn : As.length = n) (hlink : Cond.methodLink mi.2.2.2.cls idx y.2.2.2 ∈ TB) (hd2 : d2 + 1 ≤ d) (hmc : cells + mc2 ≤ mc ∧ slots + ms2 ≤ ms) (hcat : (rest.map fun v => v.category).sum ≤ 8) (hst : st0 = As.reverse ++ .ref a :: rest)
    (hd : decode mi.1 pc = .ok (.invokevirtual idx, 3)) (hK : CTO d2 y mc2 ms2 (.ref a :: As) M r) (h : ∀ M1 v, GO mi d mc ms (cells + mc2) (slots + ms2) (pc + 3) L (.long v :: rest) M1 (k M1 v)) : GO mi d mc ms cells slots pc L st0 M (bL r k) := by
  intro M' ρ e l E p e' s m args below meth c ls H locs B b hl hP hS hz
  unfold bL at e
  split at e
  · rename_i M1 v
    exact call_ret (r := some (.long v)) (runV (ρ1 := .inr (some (.long v))) hC hk hyC hm hn hlink hd2 hmc hcat hst hd (hK M1 _ rfl) B hl hP hS) hS (fun H1 locs1 hP1 hS1 => h M1 v M' ρ e l E p e' s m args below meth c ls H1 locs1 B b hl hP1 hS1 (fun q => absurd q (Nat.lt_irrefl _)))
  · rename_i M1 x
    cases e
    exact call_thr (X0 := exN x) (runV (ρ1 := .inl x) hC hk hyC hm hn hlink hd2 hmc hcat hst hd (hK M' _ rfl) B hl hP hS) hS (fun H1 locs1 q9 ce hP1 hS1 h1 h2 h3 => out_thr B b hmc.1 hmc.2 hP1 hS1 h1 h2 h3)
  · cases e
theorem g_callSL {k : Mem → Int64 → RS} {st0 : List Value} (hm : MokS y n) (hn : As.length = n) (hlink : Cond.methodLink mi.2.2.2.cls idx y.2.2.2 ∈ TB) (hd2 : d2 + 1 ≤ d) (hmc : cells + mc2 ≤ mc ∧ slots + ms2 ≤ ms) (hcat : (rest.map fun v => v.category).sum ≤ 8) (hst : st0 = As.reverse ++ rest)
    (hd : decode mi.1 pc = .ok (.invokestatic idx, 3)) (hK : CTO d2 y mc2 ms2 As M r) (h : ∀ M1 v, GO mi d mc ms (cells + mc2) (slots + ms2) (pc + 3) L (.long v :: rest) M1 (k M1 v)) : GO mi d mc ms cells slots pc L st0 M (bL r k) := by
  intro M' ρ e l E p e' s m args below meth c ls H locs B b hl hP hS hz
  unfold bL at e
  split at e
  · rename_i M1 v
    exact call_ret (r := some (.long v)) (runS (ρ1 := .inr (some (.long v))) hm hn hlink hd2 hmc hcat hst hd (hK M1 _ rfl) B hl hP hS) hS (fun H1 locs1 hP1 hS1 => h M1 v M' ρ e l E p e' s m args below meth c ls H1 locs1 B b hl hP1 hS1 (fun q => absurd q (Nat.lt_irrefl _)))
  · rename_i M1 x
    cases e
    exact call_thr (X0 := exN x) (runS (ρ1 := .inl x) hm hn hlink hd2 hmc hcat hst hd (hK M' _ rfl) B hl hP hS) hS (fun H1 locs1 q9 ce hP1 hS1 h1 h2 h3 => out_thr B b hmc.1 hmc.2 hP1 hS1 h1 h2 h3)
  · cases e
theorem g_callVV {ci N a : Nat} {C : String} {T : u_T} {k : Mem → RS} {st0 : List Value} (hC : Cls ci C T N) (hk : kd a = (ci, N)) (hyC : y.2.2.2.cls = C) (hm : MokV y n) (hn : As.length = n) (hlink : Cond.methodLink mi.2.2.2.cls idx y.2.2.2 ∈ TB) (hd2 : d2 + 1 ≤ d) (hmc : cells + mc2 ≤ mc ∧ slots + ms2 ≤ ms) (hcat : (rest.map fun v => v.category).sum ≤ 8) (hst : st0 = As.reverse ++ .ref a :: rest)
    (hd : decode mi.1 pc = .ok (.invokevirtual idx, 3)) (hK : CTO d2 y mc2 ms2 (.ref a :: As) M r) (h : ∀ M1, GO mi d mc ms (cells + mc2) (slots + ms2) (pc + 3) L rest M1 (k M1)) : GO mi d mc ms cells slots pc L st0 M (bV r k) := by
  intro M' ρ e l E p e' s m args below meth c ls H locs B b hl hP hS hz
  unfold bV at e
  split at e
  · rename_i M1
    exact call_ret (r := none) (runV (ρ1 := .inr none) hC hk hyC hm hn hlink hd2 hmc hcat hst hd (hK M1 _ rfl) B hl hP hS) hS (fun H1 locs1 hP1 hS1 => h M1 M' ρ e l E p e' s m args below meth c ls H1 locs1 B b hl hP1 hS1 (fun q => absurd q (Nat.lt_irrefl _)))
  · rename_i M1 x
    cases e
    exact call_thr (X0 := exN x) (runV (ρ1 := .inl x) hC hk hyC hm hn hlink hd2 hmc hcat hst hd (hK M' _ rfl) B hl hP hS) hS (fun H1 locs1 q9 ce hP1 hS1 h1 h2 h3 => out_thr B b hmc.1 hmc.2 hP1 hS1 h1 h2 h3)
  · cases e
theorem g_callSV {k : Mem → RS} {st0 : List Value} (hm : MokS y n) (hn : As.length = n) (hlink : Cond.methodLink mi.2.2.2.cls idx y.2.2.2 ∈ TB) (hd2 : d2 + 1 ≤ d) (hmc : cells + mc2 ≤ mc ∧ slots + ms2 ≤ ms) (hcat : (rest.map fun v => v.category).sum ≤ 8) (hst : st0 = As.reverse ++ rest)
    (hd : decode mi.1 pc = .ok (.invokestatic idx, 3)) (hK : CTO d2 y mc2 ms2 As M r) (h : ∀ M1, GO mi d mc ms (cells + mc2) (slots + ms2) (pc + 3) L rest M1 (k M1)) : GO mi d mc ms cells slots pc L st0 M (bV r k) := by
  intro M' ρ e l E p e' s m args below meth c ls H locs B b hl hP hS hz
  unfold bV at e
  split at e
  · rename_i M1
    exact call_ret (r := none) (runS (ρ1 := .inr none) hm hn hlink hd2 hmc hcat hst hd (hK M1 _ rfl) B hl hP hS) hS (fun H1 locs1 hP1 hS1 => h M1 M' ρ e l E p e' s m args below meth c ls H1 locs1 B b hl hP1 hS1 (fun q => absurd q (Nat.lt_irrefl _)))
  · rename_i M1 x
    cases e
    exact call_thr (X0 := exN x) (runS (ρ1 := .inl x) hm hn hlink hd2 hmc hcat hst hd (hK M' _ rfl) B hl hP hS) hS (fun H1 locs1 q9 ce hP1 hS1 h1 h2 h3 => out_thr B b hmc.1 hmc.2 hP1 hS1 h1 h2 h3)
  · cases e
end

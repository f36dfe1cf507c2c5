def R_law : String := "SonsLotLaw"
def lw_P (b : Addr) (xs : List Int32) (args : Array Value) (s : State) : Prop := args = #[.ref b] ∧ s.IntsAt b xs ∧ xs.length ≤ 3072 ∧ (Jvm.Cond.and given_1 narrow_1).before args s = true
def lw_Q (_ : Array Value) (s : State) (o : Outcome) (t : State) : Prop := o = .returned (some (.int 1)) ∧ Framed s o t [] 601024 7293034
def lw_Z (below : List Frame) (a : Array Value) (s : State) : State → Prop := fun t => ∃ o, t.status = .running ∧ Ended t below o ∧ lw_Q a s o t
/-- the law's own end, with 1 on the stack, nothing written that was there before, its room as the claim has it -/
theorem lw_ret {p : Program} {l : Launch} {e : Env} {s : State} {m : MethodId} {below : List Frame} {meth : Method} {c : Code} {b : Nat} (hx : p.tables.exec = Jvm.exec) (hb : c.code = code) (hr : meth.sig.returnType = ret) (hlocks : meth.locks = false) {pc : Nat} {H : Heap} {ls : Array Slot} (hdg : decode code pc = .ok (.ireturn, 1)) : W p l e room_1 s m #[Value.ref b] below meth c H [] 601024 7293034 (lw_Z below #[Value.ref b] s) (F0 m pc ls [.int 1]) := by
  intro T hT X
  obtain ⟨fs, hret, hrun, hended, hW, hframe⟩ := X.leave (v := some (.int 1)) (hlocks := hlocks) (fun h => by rw [hr] at h; cases h)
  have hmeth' : T.vm.method? m = some meth := X.method'
  refine ⟨T.setFrames fs, ?_, .returned (some (.int 1)), hrun, hended, rfl, ⟨_, rfl⟩, hW, hframe⟩
  jvm_step X.here [X.here.top, hx, hb, hdg, hmeth', hr, ret, narrow_b1]
  (try refine ⟨rfl, ?_⟩); (try refine ⟨rfl, ?_⟩)
  first | (intro acts; rw [hret _ acts rfl rfl rfl]) | rw [hret _ _ rfl rfl rfl]
  exact Steps.refl _
/-- what holds at the law's entry: the machine, the code, the tables' words (any of lw_tbl by 'hts w (by decide +kernel)'), the script of L ints xs at the cell b, what the Statement gives of the start (any of its parts by flat_of_before) -/
def lw_At (p : Program) (s : State) (m : MethodId) (meth : Method) (c : Code) (b L : Nat) (xs : Nat → Int32) : Prop :=
  p.tables.exec = Jvm.exec ∧ c.code = code ∧ meth.sig.returnType = ret ∧ c.maxLocals = 8 ∧ s.vm.findClass R_law = some m.cls ∧ (∀ w ∈ lw_tbl, w.before #[Value.ref b] s = true) ∧ va_X b L xs s s.heap ∧ b < s.heap.size ∧ meth.locks = false ∧ (Jvm.Cond.and given_1 narrow_1).before #[Value.ref b] s = true
def MokH (y : MI) (hh : List (Nat × Nat × Nat × Nat)) (n : Nat) : Prop := ((y.2.2.2.cls ≠ "java/lang/invoke/MethodHandle" ∧ y.2.2.2.cls ≠ "java/lang/invoke/VarHandle" ∧ (parseMethodDescriptor y.2.2.2.desc).map (fun d => d.parameters.length) = some n) ∧ y.2.1 ≤ 81) ∧ Cond.initialized y.2.2.2.cls ∈ TB ∧ Cond.codeWith y.2.2.2 y.1 y.2.1 y.2.2.1 hh ∈ TB ∧ Cond.static y.2.2.2 ∈ TB
section
variable {BX : BXT} {R : Room} {QX : Mem → (Nat ⊕ Option Value) → QXT} {mi y : MI} {hh : List (Nat × Nat × Nat × Nat)} {cells slots pc d2 mc2 ms2 idx n : Nat} {L : List (Nat × Value)} {rest As : List Value} {M : Mem} {r : RS}
theorem runSH {M1 : Mem} {ρ1 : Nat ⊕ Option Value} {st0 : List Value} (hm : MokH y hh n) (hn : As.length = n) (hlink : Cond.methodLink mi.2.2.2.cls idx y.2.2.2 ∈ TB) (hd2 : d2 + 1 ≤ R.frames ∧ 100 * d2 + 100 ≤ R.locals) (hmc : cells + mc2 ≤ R.cells ∧ slots + ms2 ≤ R.slots) (hcat : (rest.map fun v => v.category).sum ≤ 8) (hst : st0 = As.reverse ++ rest)
    (hd : decode mi.1 pc = .ok (.invokestatic idx, 3)) (hK : CTH d2 y hh mc2 ms2 As M (some (M1, ρ1))) {l : Launch} {E : EV} {p : Program} {e : Env} {s : State} {m : MethodId} {args : Array Value} {below : List Frame} {meth : Method} {c : Code} {ls : Array Slot} {H : Heap} {locs : List Loc}
    (B : Bd mi l E p s m args meth c) (hl : lv_has ls mi.2.1 (L.map (cvl E))) (hP : va_P E.2.1 vwCl (wld E NN (cel M)) H) (hS : va_S (Ab E) s.heap H locs) :
    vx_Run p l e R s m args below meth c H locs cells slots mc2 ms2 (F0 m pc ls (st0.map (cvv E))) (rest.map (cvv E)) (Cq E NN (cel M1) (rho ρ1) ((As.map (cvv E)).toArray)) (Cx E NN (cel M1) (rho ρ1)) (Ab E) := by
  have hp1 := cp_pre (av := As) B.2.2.2.1 B.2.2.2.2.1 B.2.2.2.2.2.2 hP hS
  refine vx_runSX (As := As.map (cvv E)) (nL := mi.2.1) (hh := hh) ⟨B.1.1, B.1.2.1, B.1.2.2.1, B.2.1, B.2.2.1⟩ (hK M1 ρ1 rfl l E B.2.2.2.2.2.1) (vx_cwSW n B.2.2.1 (fun w hw => ?_) rfl rfl rfl hm.1.1 ⟨hd2.1, ?_⟩) ⟨Cp.blind, hp1⟩ rfl ?_ ?_ ?_ ?_ hd hmc
  · unfold va_wsS at hw
    rcases List.mem_append.mp hw with hw | hw
    · simp only [List.mem_cons, List.not_mem_nil, or_false] at hw
      rcases hw with rfl | rfl | rfl
      · exact tb_good _ hlink
      · exact tb_good _ hm.2.2.2
      · exact tb_good _ hm.2.1
    · rcases List.mem_cons.mp hw with rfl | hw
      · exact tb_good _ hm.2.2.1
      · exact tb_good _ hw
  · show 8 + (y.2.1 + 11) + 100 * d2 ≤ R.locals
    have := hm.1.2
    omega
  · rw [List.length_map]; exact hn
  · exact hl.1
  · show st0.map (cvv E) = _
    rw [hst, List.map_append, List.map_reverse]
  · show 2 * 0 + ((rest.map (cvv E)).map fun v => v.category).sum ≤ 8
    rw [cat_sum]
    omega
theorem x_callSH {k : Mem → Int32 → RS} {kx : Mem → Nat → RS} {st0 : List Value} (hm : MokH y hh n) (hn : As.length = n) (hlink : Cond.methodLink mi.2.2.2.cls idx y.2.2.2 ∈ TB) (hd2 : d2 + 1 ≤ R.frames ∧ 100 * d2 + 100 ≤ R.locals) (hmc : cells + mc2 ≤ R.cells ∧ slots + ms2 ≤ R.slots) (hcat : (rest.map fun v => v.category).sum ≤ 8) (hst : st0 = As.reverse ++ rest)
    (hd : decode mi.1 pc = .ok (.invokestatic idx, 3)) (hK : CTH d2 y hh mc2 ms2 As M r) (hx : ∀ M1 x, XH BX R QX mi (cells + mc2) (slots + ms2) pc L rest M1 x (kx M1 x)) (h : ∀ M1 v, GX BX R QX mi (cells + mc2) (slots + ms2) (pc + 3) L (.int v :: rest) M1 (k M1 v)) : GX BX R QX mi cells slots pc L st0 M (cI r k kx) := by
  intro M' ρ e l E p e' s m args below meth c ls H locs B b hl hP hS hz
  unfold cI at e
  split at e
  · rename_i M1 v
    exact call_ret (r := some (.int v)) (runSH (ρ1 := .inr (some (.int v))) hm hn hlink hd2 hmc hcat hst hd hK B hl hP hS) hS (fun H1 locs1 hP1 hS1 => h M1 v M' ρ e l E p e' s m args below meth c ls H1 locs1 B b hl hP1 hS1 (fun q => absurd q (Nat.lt_irrefl _)))
  · rename_i M1 x
    exact call_thr (X0 := exN x) (runSH (ρ1 := .inl x) hm hn hlink hd2 hmc hcat hst hd hK B hl hP hS) hS (fun H1 locs1 q9 ce hP1 hS1 h1 h2 h3 => hx M1 x M' ρ e l E p e' s m args below meth c ls H1 locs1 q9 ce B b hl hP1 hS1 h1 h2 h3)
  · cases e
end
abbrev miLaw : MI := (code, 8, ret, x)
/-- the law's frame: the script b of N ints xs, all new cells above it -/
def BXL (b N : Nat) (xs : Nat → Int32) : BXT := fun E s args _ => va_X b N xs s s.heap ∧ b < s.heap.size ∧ E.1 = s.heap.size ∧ E.2.2.2.1 33 = b ∧ args = #[Value.ref b]
def QXL : Mem → (Nat ⊕ Option Value) → QXT := fun _ ρ _ s args below t => ρ = .inr (some (.int 1)) → lw_Z below args s t
section
variable {b N : Nat} {xs : Nat → Int32} {cells slots pc : Nat} {L : List (Nat × Value)} {st : List Value} {M : Mem} {o : RS}
theorem x_sld {i : Int32} (hd : decode code pc = .ok (.iaload, 1)) (h : inb i N = true → GX (BXL b N xs) room_1 QXL miLaw cells slots (pc + 1) L (.int (xs (ix i)) :: st) M o) : GX (BXL b N xs) room_1 QXL miLaw cells slots pc L (.int i :: .ref (1000 + 33) :: st) M (chk (inb i N) o) := by
  refine GX.chk fun hi => ?_
  intro M' ρ e l E p e' s m args below meth c ls H locs B b9 hl hP hS hz
  show W p l e' _ s m args below meth c H locs cells slots _ (F0 m pc ls (.int i :: .ref (ph E (1000 + 33)) :: st.map (cvv E)))
  rw [ph_s, b9.2.2.2.1]
  exact va_sld B.1.1 B.1.2.1 b9.1 b9.2.1 (show ¬ E.1 ≤ b by rw [b9.2.2.1]; have := b9.2.1; omega) hS (inb_iff.mp hi) hd (h hi M' ρ e l E p e' s m args below meth c ls H locs B b9 hl hP hS hz)
theorem x_sln (hd : decode code pc = .ok (.arraylength, 1)) (h : GX (BXL b N xs) room_1 QXL miLaw cells slots (pc + 1) L (.int (Int32.ofNat N) :: st) M o) : GX (BXL b N xs) room_1 QXL miLaw cells slots pc L (.ref (1000 + 33) :: st) M o := by
  intro M' ρ e l E p e' s m args below meth c ls H locs B b9 hl hP hS hz
  show W p l e' _ s m args below meth c H locs cells slots _ (F0 m pc ls (.ref (ph E (1000 + 33)) :: st.map (cvv E)))
  rw [ph_s, b9.2.2.2.1]
  exact va_slen B.1.1 B.1.2.1 b9.1 b9.2.1 (show ¬ E.1 ≤ b by rw [b9.2.2.1]; have := b9.2.1; omega) hS hd (h M' ρ e l E p e' s m args below meth c ls H locs B b9 hl hP hS hz)
theorem l_ret0 (hd : decode code pc = .ok (.ireturn, 1)) : GX (BXL b N xs) room_1 QXL miLaw cells slots pc L [.int 0] M (some (M, .inr (some (.int 0)))) := by
  intro M' ρ e l E p e' s m args below meth c ls H locs B b9 hl hP hS hz
  cases e
  intro T hT X
  refine ⟨_, Steps.refl _, fun h => ?_⟩
  exact absurd h (by intro h; injection h with h; injection h with h; injection h with h; exact absurd h (by decide))
theorem l_ret1 (hd : decode code pc = .ok (.ireturn, 1)) (hc : cells ≤ 601024) (hs : slots ≤ 7293034) : GX (BXL b N xs) room_1 QXL miLaw cells slots pc L [.int 1] M (some (M, .inr (some (.int 1)))) := by
  intro M' ρ e l E p e' s m args below meth c ls H locs B b9 hl hP hS hz
  cases e
  obtain ⟨h1, h2, h3, h4, rfl⟩ := b9
  have := lw_ret (p := p) (l := l) (e := e') (s := s) (m := m) (below := below) (meth := meth) (c := c) (b := b) (H := H) (ls := ls) B.1.1 B.1.2.1 B.1.2.2.2.1 B.1.2.2.2.2.1 hd
  refine va_forget (fun q hq => by have := hS.2.2 q hq; rw [← h3]; exact this) ?_
  refine W.widen hc hs ?_
  intro T hT X
  obtain ⟨t, a1, b1⟩ := this T hT X
  exact ⟨t, a1, fun _ => b1⟩
end
theorem mhL_island : MokH miL_island [(0, 9, 12, 13)] 3 := ⟨⟨⟨by decide, by decide, by decide +kernel⟩, by decide⟩, tbm (k := 114) (by decide +kernel) (by decide +kernel), tbm (k := 778) (by decide +kernel) (by decide +kernel), tbm (k := 777) (by decide +kernel) (by decide +kernel)⟩
theorem mhL_count : MokH miL_count [(0, 9, 12, 18)] 3 := ⟨⟨⟨by decide, by decide, by decide +kernel⟩, by decide⟩, tbm (k := 114) (by decide +kernel) (by decide +kernel), tbm (k := 1105) (by decide +kernel) (by decide +kernel), tbm (k := 1104) (by decide +kernel) (by decide +kernel)⟩
theorem mhL_house : MokH miL_house [(0, 10, 13, 18)] 4 := ⟨⟨⟨by decide, by decide, by decide +kernel⟩, by decide⟩, tbm (k := 114) (by decide +kernel) (by decide +kernel), tbm (k := 1129) (by decide +kernel) (by decide +kernel), tbm (k := 1128) (by decide +kernel) (by decide +kernel)⟩
theorem mhL_plot : MokH miL_plot [(0, 10, 13, 18)] 4 := ⟨⟨⟨by decide, by decide, by decide +kernel⟩, by decide⟩, tbm (k := 114) (by decide +kernel) (by decide +kernel), tbm (k := 1141) (by decide +kernel) (by decide +kernel), tbm (k := 1140) (by decide +kernel) (by decide +kernel)⟩
theorem mhL_worth : MokH miL_worth [(0, 10, 13, 18)] 4 := ⟨⟨⟨by decide, by decide, by decide +kernel⟩, by decide⟩, tbm (k := 114) (by decide +kernel) (by decide +kernel), tbm (k := 1161) (by decide +kernel) (by decide +kernel), tbm (k := 1160) (by decide +kernel) (by decide +kernel)⟩
theorem mhL_harvest : MokH miL_harvest [(0, 12, 15, 18), (0, 12, 19, 13)] 5 := ⟨⟨⟨by decide, by decide, by decide +kernel⟩, by decide⟩, tbm (k := 114) (by decide +kernel) (by decide +kernel), tbm (k := 1169) (by decide +kernel) (by decide +kernel), tbm (k := 1168) (by decide +kernel) (by decide +kernel)⟩
theorem mhL_turn : MokH miL_turn [(0, 9, 12, 18)] 3 := ⟨⟨⟨by decide, by decide, by decide +kernel⟩, by decide⟩, tbm (k := 114) (by decide +kernel) (by decide +kernel), tbm (k := 1180) (by decide +kernel) (by decide +kernel), tbm (k := 1179) (by decide +kernel) (by decide +kernel)⟩
theorem mhL_order : MokH miL_order [(0, 10, 13, 18)] 4 := ⟨⟨⟨by decide, by decide, by decide +kernel⟩, by decide⟩, tbm (k := 114) (by decide +kernel) (by decide +kernel), tbm (k := 1191) (by decide +kernel) (by decide +kernel), tbm (k := 1190) (by decide +kernel) (by decide +kernel)⟩
theorem mhL_exchange : MokH miL_exchange [(0, 17, 20, 18)] 4 := ⟨⟨⟨by decide, by decide, by decide +kernel⟩, by decide⟩, tbm (k := 114) (by decide +kernel) (by decide +kernel), tbm (k := 1202) (by decide +kernel) (by decide +kernel), tbm (k := 1201) (by decide +kernel) (by decide +kernel)⟩
theorem mhL_best : MokH miL_best [(0, 8, 11, 18)] 3 := ⟨⟨⟨by decide, by decide, by decide +kernel⟩, by decide⟩, tbm (k := 114) (by decide +kernel) (by decide +kernel), tbm (k := 1209) (by decide +kernel) (by decide +kernel), tbm (k := 1208) (by decide +kernel) (by decide +kernel)⟩
theorem mhL_fairest : MokH miL_fairest [(0, 9, 12, 18)] 3 := ⟨⟨⟨by decide, by decide, by decide +kernel⟩, by decide⟩, tbm (k := 114) (by decide +kernel) (by decide +kernel), tbm (k := 1260) (by decide +kernel) (by decide +kernel), tbm (k := 1259) (by decide +kernel) (by decide +kernel)⟩
theorem mhL_then : MokH miL_then [(0, 10, 13, 18), (0, 10, 17, 13)] 4 := ⟨⟨⟨by decide, by decide, by decide +kernel⟩, by decide⟩, tbm (k := 114) (by decide +kernel) (by decide +kernel), tbm (k := 1275) (by decide +kernel) (by decide +kernel), tbm (k := 1274) (by decide +kernel) (by decide +kernel)⟩
theorem mhL_starves : MokH miL_starves [(0, 9, 12, 18)] 3 := ⟨⟨⟨by decide, by decide, by decide +kernel⟩, by decide⟩, tbm (k := 114) (by decide +kernel) (by decide +kernel), tbm (k := 1286) (by decide +kernel) (by decide +kernel), tbm (k := 1285) (by decide +kernel) (by decide +kernel)⟩
theorem mhL_tithes : MokH miL_tithes [(0, 9, 12, 13)] 3 := ⟨⟨⟨by decide, by decide, by decide +kernel⟩, by decide⟩, tbm (k := 114) (by decide +kernel) (by decide +kernel), tbm (k := 1294) (by decide +kernel) (by decide +kernel), tbm (k := 1293) (by decide +kernel) (by decide +kernel)⟩
theorem mhL_lotsFor : MokH miL_lotsFor [(0, 10, 13, 18), (0, 10, 17, 13)] 4 := ⟨⟨⟨by decide, by decide, by decide +kernel⟩, by decide⟩, tbm (k := 114) (by decide +kernel) (by decide +kernel), tbm (k := 1301) (by decide +kernel) (by decide +kernel), tbm (k := 1300) (by decide +kernel) (by decide +kernel)⟩
theorem mhL_change : MokH miL_change [(0, 9, 12, 13)] 3 := ⟨⟨⟨by decide, by decide, by decide +kernel⟩, by decide⟩, tbm (k := 114) (by decide +kernel) (by decide +kernel), tbm (k := 1313) (by decide +kernel) (by decide +kernel), tbm (k := 1312) (by decide +kernel) (by decide +kernel)⟩
theorem mhL_envied : MokH miL_envied [(0, 9, 12, 18)] 3 := ⟨⟨⟨by decide, by decide, by decide +kernel⟩, by decide⟩, tbm (k := 114) (by decide +kernel) (by decide +kernel), tbm (k := 1324) (by decide +kernel) (by decide +kernel), tbm (k := 1323) (by decide +kernel) (by decide +kernel)⟩
theorem mhL_without : MokH miL_without [(0, 10, 13, 18), (0, 10, 17, 13)] 4 := ⟨⟨⟨by decide, by decide, by decide +kernel⟩, by decide⟩, tbm (k := 114) (by decide +kernel) (by decide +kernel), tbm (k := 1335) (by decide +kernel) (by decide +kernel), tbm (k := 1334) (by decide +kernel) (by decide +kernel)⟩
theorem mhL_lastPlace : MokH miL_lastPlace [(0, 9, 12, 18)] 3 := ⟨⟨⟨by decide, by decide, by decide +kernel⟩, by decide⟩, tbm (k := 114) (by decide +kernel) (by decide +kernel), tbm (k := 1342) (by decide +kernel) (by decide +kernel), tbm (k := 1341) (by decide +kernel) (by decide +kernel)⟩
theorem mhL_famine : MokH miL_famine [(0, 9, 12, 13)] 3 := ⟨⟨⟨by decide, by decide, by decide +kernel⟩, by decide⟩, tbm (k := 114) (by decide +kernel) (by decide +kernel), tbm (k := 1351) (by decide +kernel) (by decide +kernel), tbm (k := 1350) (by decide +kernel) (by decide +kernel)⟩
theorem mhL_bushels : MokH miL_bushels [(0, 10, 13, 18), (0, 10, 17, 13)] 4 := ⟨⟨⟨by decide, by decide, by decide +kernel⟩, by decide⟩, tbm (k := 114) (by decide +kernel) (by decide +kernel), tbm (k := 1359) (by decide +kernel) (by decide +kernel), tbm (k := 1358) (by decide +kernel) (by decide +kernel)⟩
theorem mhL_richest : MokH miL_richest [(0, 9, 12, 13)] 3 := ⟨⟨⟨by decide, by decide, by decide +kernel⟩, by decide⟩, tbm (k := 114) (by decide +kernel) (by decide +kernel), tbm (k := 1367) (by decide +kernel) (by decide +kernel), tbm (k := 1366) (by decide +kernel) (by decide +kernel)⟩
theorem mhL_see : MokH miL_see [(0, 12, 15, 18)] 5 := ⟨⟨⟨by decide, by decide, by decide +kernel⟩, by decide⟩, tbm (k := 114) (by decide +kernel) (by decide +kernel), tbm (k := 1374) (by decide +kernel) (by decide +kernel), tbm (k := 1373) (by decide +kernel) (by decide +kernel)⟩
theorem mhL_look : MokH miL_look [(0, 10, 13, 18)] 4 := ⟨⟨⟨by decide, by decide, by decide +kernel⟩, by decide⟩, tbm (k := 114) (by decide +kernel) (by decide +kernel), tbm (k := 1385) (by decide +kernel) (by decide +kernel), tbm (k := 1384) (by decide +kernel) (by decide +kernel)⟩
theorem mhL_game : MokH miL_game [(0, 14, 17, 18), (0, 14, 21, 13)] 6 := ⟨⟨⟨by decide, by decide, by decide +kernel⟩, by decide⟩, tbm (k := 114) (by decide +kernel) (by decide +kernel), tbm (k := 1393) (by decide +kernel) (by decide +kernel), tbm (k := 1392) (by decide +kernel) (by decide +kernel)⟩
theorem mhL_founders : MokH miL_founders [(0, 12, 15, 18), (0, 12, 19, 13)] 5 := ⟨⟨⟨by decide, by decide, by decide +kernel⟩, by decide⟩, tbm (k := 114) (by decide +kernel) (by decide +kernel), tbm (k := 1409) (by decide +kernel) (by decide +kernel), tbm (k := 1408) (by decide +kernel) (by decide +kernel)⟩
theorem mlL_101 : Cond.methodLink RL 101 yX11_feed ∈ TB := tbm (k := 523) (by decide +kernel) (by decide +kernel)
theorem mlL_105 : Cond.methodLink RL 105 yX12_feed ∈ TB := tbm (k := 1620) (by decide +kernel) (by decide +kernel)
theorem mlL_106 : Cond.methodLink RL 106 yL_island ∈ TB := tbm (k := 776) (by decide +kernel) (by decide +kernel)
theorem mlL_111 : Cond.methodLink RL 111 yX12_island ∈ TB := tbm (k := 1624) (by decide +kernel) (by decide +kernel)
theorem mlL_112 : Cond.methodLink RL 112 yX12_thrown ∈ TB := tbm (k := 1616) (by decide +kernel) (by decide +kernel)
theorem mlL_116 : Cond.methodLink RL 116 yX11_fault ∈ TB := tbm (k := 531) (by decide +kernel) (by decide +kernel)
theorem mlL_119 : Cond.methodLink RL 119 yX12_fault ∈ TB := tbm (k := 1784) (by decide +kernel) (by decide +kernel)
theorem mlL_120 : Cond.methodLink RL 120 yL_count ∈ TB := tbm (k := 1103) (by decide +kernel) (by decide +kernel)
theorem mlL_122 : Cond.methodLink RL 122 yX12_count ∈ TB := tbm (k := 1788) (by decide +kernel) (by decide +kernel)
theorem mlL_123 : Cond.methodLink RL 123 yL_house ∈ TB := tbm (k := 1127) (by decide +kernel) (by decide +kernel)
theorem mlL_126 : Cond.methodLink RL 126 yX12_house ∈ TB := tbm (k := 1796) (by decide +kernel) (by decide +kernel)
theorem mlL_127 : Cond.methodLink RL 127 yL_plot ∈ TB := tbm (k := 1139) (by decide +kernel) (by decide +kernel)
theorem mlL_129 : Cond.methodLink RL 129 yX12_plot ∈ TB := tbm (k := 1815) (by decide +kernel) (by decide +kernel)
theorem mlL_130 : Cond.methodLink RL 130 yL_worth ∈ TB := tbm (k := 1159) (by decide +kernel) (by decide +kernel)
theorem mlL_132 : Cond.methodLink RL 132 yX12_worth ∈ TB := tbm (k := 1824) (by decide +kernel) (by decide +kernel)
theorem mlL_133 : Cond.methodLink RL 133 yL_harvest ∈ TB := tbm (k := 1167) (by decide +kernel) (by decide +kernel)
theorem mlL_136 : Cond.methodLink RL 136 yX12_harvest ∈ TB := tbm (k := 1828) (by decide +kernel) (by decide +kernel)
theorem mlL_137 : Cond.methodLink RL 137 yX11_lots ∈ TB := tbm (k := 547) (by decide +kernel) (by decide +kernel)
theorem mlL_140 : Cond.methodLink RL 140 yX12_lots ∈ TB := tbm (k := 1838) (by decide +kernel) (by decide +kernel)
theorem mlL_141 : Cond.methodLink RL 141 yL_turn ∈ TB := tbm (k := 1178) (by decide +kernel) (by decide +kernel)
theorem mlL_143 : Cond.methodLink RL 143 yX12_turn ∈ TB := tbm (k := 1859) (by decide +kernel) (by decide +kernel)
theorem mlL_144 : Cond.methodLink RL 144 yL_order ∈ TB := tbm (k := 1189) (by decide +kernel) (by decide +kernel)
theorem mlL_146 : Cond.methodLink RL 146 yX12_order ∈ TB := tbm (k := 1863) (by decide +kernel) (by decide +kernel)
theorem mlL_147 : Cond.methodLink RL 147 yL_exchange ∈ TB := tbm (k := 1200) (by decide +kernel) (by decide +kernel)
theorem mlL_149 : Cond.methodLink RL 149 yX12_exchange ∈ TB := tbm (k := 1875) (by decide +kernel) (by decide +kernel)
theorem mlL_150 : Cond.methodLink RL 150 yX11_market ∈ TB := tbm (k := 620) (by decide +kernel) (by decide +kernel)
theorem mlL_153 : Cond.methodLink RL 153 yX12_market ∈ TB := tbm (k := 1883) (by decide +kernel) (by decide +kernel)
theorem mlL_154 : Cond.methodLink RL 154 yX11_years ∈ TB := tbm (k := 632) (by decide +kernel) (by decide +kernel)
theorem mlL_157 : Cond.methodLink RL 157 yX12_years ∈ TB := tbm (k := 1888) (by decide +kernel) (by decide +kernel)
theorem mlL_158 : Cond.methodLink RL 158 yX11_undo ∈ TB := tbm (k := 670) (by decide +kernel) (by decide +kernel)
theorem mlL_161 : Cond.methodLink RL 161 yX12_undo ∈ TB := tbm (k := 1901) (by decide +kernel) (by decide +kernel)
theorem mlL_162 : Cond.methodLink RL 162 yX11_ring ∈ TB := tbm (k := 682) (by decide +kernel) (by decide +kernel)
theorem mlL_165 : Cond.methodLink RL 165 yX12_ring ∈ TB := tbm (k := 1909) (by decide +kernel) (by decide +kernel)
theorem mlL_166 : Cond.methodLink RL 166 yL_best ∈ TB := tbm (k := 1207) (by decide +kernel) (by decide +kernel)
theorem mlL_168 : Cond.methodLink RL 168 yX12_best ∈ TB := tbm (k := 1917) (by decide +kernel) (by decide +kernel)
theorem mlL_169 : Cond.methodLink RL 169 yL_fairest ∈ TB := tbm (k := 1258) (by decide +kernel) (by decide +kernel)
theorem mlL_171 : Cond.methodLink RL 171 yX12_fairest ∈ TB := tbm (k := 1939) (by decide +kernel) (by decide +kernel)
theorem mlL_172 : Cond.methodLink RL 172 yX11_tribes ∈ TB := tbm (k := 703) (by decide +kernel) (by decide +kernel)
theorem mlL_175 : Cond.methodLink RL 175 yX12_tribes ∈ TB := tbm (k := 1948) (by decide +kernel) (by decide +kernel)
theorem mlL_176 : Cond.methodLink RL 176 yX11_middle ∈ TB := tbm (k := 717) (by decide +kernel) (by decide +kernel)
theorem mlL_179 : Cond.methodLink RL 179 yX12_middle ∈ TB := tbm (k := 1957) (by decide +kernel) (by decide +kernel)
theorem mlL_180 : Cond.methodLink RL 180 yL_then ∈ TB := tbm (k := 1273) (by decide +kernel) (by decide +kernel)
theorem mlL_182 : Cond.methodLink RL 182 yX12_then ∈ TB := tbm (k := 1965) (by decide +kernel) (by decide +kernel)
theorem mlL_183 : Cond.methodLink RL 183 yL_starves ∈ TB := tbm (k := 1284) (by decide +kernel) (by decide +kernel)
theorem mlL_185 : Cond.methodLink RL 185 yX12_starves ∈ TB := tbm (k := 1970) (by decide +kernel) (by decide +kernel)
theorem mlL_186 : Cond.methodLink RL 186 yL_tithes ∈ TB := tbm (k := 1292) (by decide +kernel) (by decide +kernel)
theorem mlL_188 : Cond.methodLink RL 188 yX12_tithes ∈ TB := tbm (k := 1974) (by decide +kernel) (by decide +kernel)
theorem mlL_189 : Cond.methodLink RL 189 yX11_holdsOut ∈ TB := tbm (k := 726) (by decide +kernel) (by decide +kernel)
theorem mlL_192 : Cond.methodLink RL 192 yX12_holdsOut ∈ TB := tbm (k := 1978) (by decide +kernel) (by decide +kernel)
theorem mlL_193 : Cond.methodLink RL 193 yL_lotsFor ∈ TB := tbm (k := 1299) (by decide +kernel) (by decide +kernel)
theorem mlL_195 : Cond.methodLink RL 195 yX12_lotsFor ∈ TB := tbm (k := 1982) (by decide +kernel) (by decide +kernel)
theorem mlL_196 : Cond.methodLink RL 196 yL_change ∈ TB := tbm (k := 1311) (by decide +kernel) (by decide +kernel)
theorem mlL_198 : Cond.methodLink RL 198 yX12_change ∈ TB := tbm (k := 1991) (by decide +kernel) (by decide +kernel)
theorem mlL_199 : Cond.methodLink RL 199 yL_envied ∈ TB := tbm (k := 1322) (by decide +kernel) (by decide +kernel)
theorem mlL_201 : Cond.methodLink RL 201 yX12_envied ∈ TB := tbm (k := 1999) (by decide +kernel) (by decide +kernel)
theorem mlL_202 : Cond.methodLink RL 202 yL_without ∈ TB := tbm (k := 1333) (by decide +kernel) (by decide +kernel)
theorem mlL_204 : Cond.methodLink RL 204 yX12_without ∈ TB := tbm (k := 2003) (by decide +kernel) (by decide +kernel)
theorem mlL_205 : Cond.methodLink RL 205 yL_lastPlace ∈ TB := tbm (k := 1340) (by decide +kernel) (by decide +kernel)
theorem mlL_207 : Cond.methodLink RL 207 yX12_lastPlace ∈ TB := tbm (k := 2007) (by decide +kernel) (by decide +kernel)
theorem mlL_208 : Cond.methodLink RL 208 yL_famine ∈ TB := tbm (k := 1349) (by decide +kernel) (by decide +kernel)
theorem mlL_210 : Cond.methodLink RL 210 yX12_famine ∈ TB := tbm (k := 2011) (by decide +kernel) (by decide +kernel)
theorem mlL_211 : Cond.methodLink RL 211 yL_bushels ∈ TB := tbm (k := 1357) (by decide +kernel) (by decide +kernel)
theorem mlL_213 : Cond.methodLink RL 213 yX12_bushels ∈ TB := tbm (k := 2015) (by decide +kernel) (by decide +kernel)
theorem mlL_214 : Cond.methodLink RL 214 yX11_free ∈ TB := tbm (k := 535) (by decide +kernel) (by decide +kernel)
theorem mlL_217 : Cond.methodLink RL 217 yX12_free ∈ TB := tbm (k := 2023) (by decide +kernel) (by decide +kernel)
theorem mlL_218 : Cond.methodLink RL 218 yL_richest ∈ TB := tbm (k := 1365) (by decide +kernel) (by decide +kernel)
theorem mlL_220 : Cond.methodLink RL 220 yX12_richest ∈ TB := tbm (k := 2027) (by decide +kernel) (by decide +kernel)
theorem mlL_221 : Cond.methodLink RL 221 yL_see ∈ TB := tbm (k := 1372) (by decide +kernel) (by decide +kernel)
theorem mlL_223 : Cond.methodLink RL 223 yX12_see ∈ TB := tbm (k := 2031) (by decide +kernel) (by decide +kernel)
theorem mlL_224 : Cond.methodLink RL 224 yX11_brothers ∈ TB := tbm (k := 734) (by decide +kernel) (by decide +kernel)
theorem mlL_227 : Cond.methodLink RL 227 yX12_brothers ∈ TB := tbm (k := 2035) (by decide +kernel) (by decide +kernel)
theorem mlL_228 : Cond.methodLink RL 228 yL_look ∈ TB := tbm (k := 1383) (by decide +kernel) (by decide +kernel)
theorem mlL_230 : Cond.methodLink RL 230 yX12_look ∈ TB := tbm (k := 2043) (by decide +kernel) (by decide +kernel)
theorem mlL_231 : Cond.methodLink RL 231 yX11_forget ∈ TB := tbm (k := 748) (by decide +kernel) (by decide +kernel)
theorem mlL_234 : Cond.methodLink RL 234 yX12_forget ∈ TB := tbm (k := 2047) (by decide +kernel) (by decide +kernel)
theorem mlL_235 : Cond.methodLink RL 235 yL_game ∈ TB := tbm (k := 1391) (by decide +kernel) (by decide +kernel)
theorem mlL_238 : Cond.methodLink RL 238 yX12_game ∈ TB := tbm (k := 2051) (by decide +kernel) (by decide +kernel)
theorem mlL_239 : Cond.methodLink RL 239 yL_founders ∈ TB := tbm (k := 1407) (by decide +kernel) (by decide +kernel)
theorem mlL_241 : Cond.methodLink RL 241 yX12_founders ∈ TB := tbm (k := 2060) (by decide +kernel) (by decide +kernel)
theorem mlL_242 : Cond.methodLink RL 242 yX11_image ∈ TB := tbm (k := 752) (by decide +kernel) (by decide +kernel)
theorem mlL_245 : Cond.methodLink RL 245 yX12_image ∈ TB := tbm (k := 2065) (by decide +kernel) (by decide +kernel)
theorem mlL_246 : Cond.methodLink RL 246 yX11_restore ∈ TB := tbm (k := 772) (by decide +kernel) (by decide +kernel)
theorem mlL_250 : Cond.methodLink RL 250 yX12_restore ∈ TB := tbm (k := 2072) (by decide +kernel) (by decide +kernel)
def flaw_b2209 (N : Nat) (xs : Nat → Int32) (rec23 : Mem → Int32 → RS) (M : Mem) (x4 : Int32) : RS := rec23 M (x4 + 6)
theorem Slaw_b2209 (b N : Nat) (xs : Nat → Int32) (kc ks : Nat) (hc : kc + 5 ≤ 601024) (hs : ks + 30 ≤ 7293034) (rec23 : Mem → Int32 → RS) (hrec23 : ∀ (M : Mem) (x4 : Int32), GX (BXL b N xs) room_1 QXL miLaw (kc + 5) (ks + 30) 23 [(0, .ref (1000 + 33)), (1, .ref 0), (2, .ref 87), (3, .ref 121), (4, .int x4)] [] M (rec23 M x4)) (M : Mem) (x4 : Int32) : GX (BXL b N xs) room_1 QXL miLaw (kc + 5) (ks + 30) 2209 [(0, .ref (1000 + 33)), (1, .ref 0), (2, .ref 87), (3, .ref 121), (4, .int x4)] [] M (flaw_b2209 N xs rec23 M x4) := by
  show GX (BXL b N xs) room_1 QXL miLaw (kc + 5) (ks + 30) 2209 [(0, .ref (1000 + 33)), (1, .ref 0), (2, .ref 87), (3, .ref 121), (4, .int x4)] [] M (rec23 M (x4 + 6))
  refine x_iinc (v := x4 + 6) (L' := [(4, .int (x4 + 6)), (0, .ref (1000 + 33)), (1, .ref 0), (2, .ref 87), (3, .ref 121)]) 4 rfl rfl (by decide) rfl dL_law_2209 ?_
  refine x_goto (tgt := 23) rfl dL_law_2212 ?_
  exact GX.pick [1, 2, 3, 4, 0] rfl <| hrec23 M (x4 + 6)
def flaw_b346 (N : Nat) (xs : Nat → Int32) (rec23 : Mem → Int32 → RS) (M : Mem) (x4 : Int32) : RS := flaw_b2209 N xs rec23 M x4
theorem Slaw_b346 (b N : Nat) (xs : Nat → Int32) (kc ks : Nat) (hc : kc + 5 ≤ 601024) (hs : ks + 30 ≤ 7293034) (rec23 : Mem → Int32 → RS) (hrec23 : ∀ (M : Mem) (x4 : Int32), GX (BXL b N xs) room_1 QXL miLaw (kc + 5) (ks + 30) 23 [(0, .ref (1000 + 33)), (1, .ref 0), (2, .ref 87), (3, .ref 121), (4, .int x4)] [] M (rec23 M x4)) (M : Mem) (x4 : Int32) : GX (BXL b N xs) room_1 QXL miLaw (kc + 5) (ks + 30) 346 [(0, .ref (1000 + 33)), (1, .ref 0), (2, .ref 87), (3, .ref 121), (4, .int x4)] [] M (flaw_b346 N xs rec23 M x4) := by
  show GX (BXL b N xs) room_1 QXL miLaw (kc + 5) (ks + 30) 346 [(0, .ref (1000 + 33)), (1, .ref 0), (2, .ref 87), (3, .ref 121), (4, .int x4)] [] M (flaw_b2209 N xs rec23 M x4)
  refine x_goto (tgt := 2209) rfl dL_law_346 ?_
  exact GX.pick [0, 1, 2, 3, 4] rfl <| Slaw_b2209 b N xs kc ks hc hs  rec23 hrec23 M x4
def flaw_b415 (N : Nat) (xs : Nat → Int32) (rec23 : Mem → Int32 → RS) (M : Mem) (x4 : Int32) : RS := flaw_b2209 N xs rec23 M x4
theorem Slaw_b415 (b N : Nat) (xs : Nat → Int32) (kc ks : Nat) (hc : kc + 5 ≤ 601024) (hs : ks + 30 ≤ 7293034) (rec23 : Mem → Int32 → RS) (hrec23 : ∀ (M : Mem) (x4 : Int32), GX (BXL b N xs) room_1 QXL miLaw (kc + 5) (ks + 30) 23 [(0, .ref (1000 + 33)), (1, .ref 0), (2, .ref 87), (3, .ref 121), (4, .int x4)] [] M (rec23 M x4)) (M : Mem) (x4 : Int32) : GX (BXL b N xs) room_1 QXL miLaw (kc + 5) (ks + 30) 415 [(0, .ref (1000 + 33)), (1, .ref 0), (2, .ref 87), (3, .ref 121), (4, .int x4)] [] M (flaw_b415 N xs rec23 M x4) := by
  show GX (BXL b N xs) room_1 QXL miLaw (kc + 5) (ks + 30) 415 [(0, .ref (1000 + 33)), (1, .ref 0), (2, .ref 87), (3, .ref 121), (4, .int x4)] [] M (flaw_b2209 N xs rec23 M x4)
  refine x_goto (tgt := 2209) rfl dL_law_415 ?_
  exact GX.pick [0, 1, 2, 3, 4] rfl <| Slaw_b2209 b N xs kc ks hc hs  rec23 hrec23 M x4
def flaw_b483 (N : Nat) (xs : Nat → Int32) (rec23 : Mem → Int32 → RS) (M : Mem) (x4 : Int32) : RS := flaw_b2209 N xs rec23 M x4
theorem Slaw_b483 (b N : Nat) (xs : Nat → Int32) (kc ks : Nat) (hc : kc + 5 ≤ 601024) (hs : ks + 30 ≤ 7293034) (rec23 : Mem → Int32 → RS) (hrec23 : ∀ (M : Mem) (x4 : Int32), GX (BXL b N xs) room_1 QXL miLaw (kc + 5) (ks + 30) 23 [(0, .ref (1000 + 33)), (1, .ref 0), (2, .ref 87), (3, .ref 121), (4, .int x4)] [] M (rec23 M x4)) (M : Mem) (x4 : Int32) : GX (BXL b N xs) room_1 QXL miLaw (kc + 5) (ks + 30) 483 [(0, .ref (1000 + 33)), (1, .ref 0), (2, .ref 87), (3, .ref 121), (4, .int x4)] [] M (flaw_b483 N xs rec23 M x4) := by
  show GX (BXL b N xs) room_1 QXL miLaw (kc + 5) (ks + 30) 483 [(0, .ref (1000 + 33)), (1, .ref 0), (2, .ref 87), (3, .ref 121), (4, .int x4)] [] M (flaw_b2209 N xs rec23 M x4)
  refine x_goto (tgt := 2209) rfl dL_law_483 ?_
  exact GX.pick [0, 1, 2, 3, 4] rfl <| Slaw_b2209 b N xs kc ks hc hs  rec23 hrec23 M x4
def flaw_b551 (N : Nat) (xs : Nat → Int32) (rec23 : Mem → Int32 → RS) (M : Mem) (x4 : Int32) : RS := flaw_b2209 N xs rec23 M x4
theorem Slaw_b551 (b N : Nat) (xs : Nat → Int32) (kc ks : Nat) (hc : kc + 5 ≤ 601024) (hs : ks + 30 ≤ 7293034) (rec23 : Mem → Int32 → RS) (hrec23 : ∀ (M : Mem) (x4 : Int32), GX (BXL b N xs) room_1 QXL miLaw (kc + 5) (ks + 30) 23 [(0, .ref (1000 + 33)), (1, .ref 0), (2, .ref 87), (3, .ref 121), (4, .int x4)] [] M (rec23 M x4)) (M : Mem) (x4 : Int32) : GX (BXL b N xs) room_1 QXL miLaw (kc + 5) (ks + 30) 551 [(0, .ref (1000 + 33)), (1, .ref 0), (2, .ref 87), (3, .ref 121), (4, .int x4)] [] M (flaw_b551 N xs rec23 M x4) := by
  show GX (BXL b N xs) room_1 QXL miLaw (kc + 5) (ks + 30) 551 [(0, .ref (1000 + 33)), (1, .ref 0), (2, .ref 87), (3, .ref 121), (4, .int x4)] [] M (flaw_b2209 N xs rec23 M x4)
  refine x_goto (tgt := 2209) rfl dL_law_551 ?_
  exact GX.pick [0, 1, 2, 3, 4] rfl <| Slaw_b2209 b N xs kc ks hc hs  rec23 hrec23 M x4
def flaw_b619 (N : Nat) (xs : Nat → Int32) (rec23 : Mem → Int32 → RS) (M : Mem) (x4 : Int32) : RS := flaw_b2209 N xs rec23 M x4
theorem Slaw_b619 (b N : Nat) (xs : Nat → Int32) (kc ks : Nat) (hc : kc + 5 ≤ 601024) (hs : ks + 30 ≤ 7293034) (rec23 : Mem → Int32 → RS) (hrec23 : ∀ (M : Mem) (x4 : Int32), GX (BXL b N xs) room_1 QXL miLaw (kc + 5) (ks + 30) 23 [(0, .ref (1000 + 33)), (1, .ref 0), (2, .ref 87), (3, .ref 121), (4, .int x4)] [] M (rec23 M x4)) (M : Mem) (x4 : Int32) : GX (BXL b N xs) room_1 QXL miLaw (kc + 5) (ks + 30) 619 [(0, .ref (1000 + 33)), (1, .ref 0), (2, .ref 87), (3, .ref 121), (4, .int x4)] [] M (flaw_b619 N xs rec23 M x4) := by
  show GX (BXL b N xs) room_1 QXL miLaw (kc + 5) (ks + 30) 619 [(0, .ref (1000 + 33)), (1, .ref 0), (2, .ref 87), (3, .ref 121), (4, .int x4)] [] M (flaw_b2209 N xs rec23 M x4)
  refine x_goto (tgt := 2209) rfl dL_law_619 ?_
  exact GX.pick [0, 1, 2, 3, 4] rfl <| Slaw_b2209 b N xs kc ks hc hs  rec23 hrec23 M x4
def flaw_b699 (N : Nat) (xs : Nat → Int32) (rec23 : Mem → Int32 → RS) (M : Mem) (x4 : Int32) : RS := flaw_b2209 N xs rec23 M x4
theorem Slaw_b699 (b N : Nat) (xs : Nat → Int32) (kc ks : Nat) (hc : kc + 5 ≤ 601024) (hs : ks + 30 ≤ 7293034) (rec23 : Mem → Int32 → RS) (hrec23 : ∀ (M : Mem) (x4 : Int32), GX (BXL b N xs) room_1 QXL miLaw (kc + 5) (ks + 30) 23 [(0, .ref (1000 + 33)), (1, .ref 0), (2, .ref 87), (3, .ref 121), (4, .int x4)] [] M (rec23 M x4)) (M : Mem) (x4 : Int32) : GX (BXL b N xs) room_1 QXL miLaw (kc + 5) (ks + 30) 699 [(0, .ref (1000 + 33)), (1, .ref 0), (2, .ref 87), (3, .ref 121), (4, .int x4)] [] M (flaw_b699 N xs rec23 M x4) := by
  show GX (BXL b N xs) room_1 QXL miLaw (kc + 5) (ks + 30) 699 [(0, .ref (1000 + 33)), (1, .ref 0), (2, .ref 87), (3, .ref 121), (4, .int x4)] [] M (flaw_b2209 N xs rec23 M x4)
  refine x_goto (tgt := 2209) rfl dL_law_699 ?_
  exact GX.pick [0, 1, 2, 3, 4] rfl <| Slaw_b2209 b N xs kc ks hc hs  rec23 hrec23 M x4
def flaw_b780 (N : Nat) (xs : Nat → Int32) (rec23 : Mem → Int32 → RS) (M : Mem) (x4 : Int32) : RS := flaw_b2209 N xs rec23 M x4
theorem Slaw_b780 (b N : Nat) (xs : Nat → Int32) (kc ks : Nat) (hc : kc + 5 ≤ 601024) (hs : ks + 30 ≤ 7293034) (rec23 : Mem → Int32 → RS) (hrec23 : ∀ (M : Mem) (x4 : Int32), GX (BXL b N xs) room_1 QXL miLaw (kc + 5) (ks + 30) 23 [(0, .ref (1000 + 33)), (1, .ref 0), (2, .ref 87), (3, .ref 121), (4, .int x4)] [] M (rec23 M x4)) (M : Mem) (x4 : Int32) : GX (BXL b N xs) room_1 QXL miLaw (kc + 5) (ks + 30) 780 [(0, .ref (1000 + 33)), (1, .ref 0), (2, .ref 87), (3, .ref 121), (4, .int x4)] [] M (flaw_b780 N xs rec23 M x4) := by
  show GX (BXL b N xs) room_1 QXL miLaw (kc + 5) (ks + 30) 780 [(0, .ref (1000 + 33)), (1, .ref 0), (2, .ref 87), (3, .ref 121), (4, .int x4)] [] M (flaw_b2209 N xs rec23 M x4)
  refine x_goto (tgt := 2209) rfl dL_law_780 ?_
  exact GX.pick [0, 1, 2, 3, 4] rfl <| Slaw_b2209 b N xs kc ks hc hs  rec23 hrec23 M x4
def flaw_b848 (N : Nat) (xs : Nat → Int32) (rec23 : Mem → Int32 → RS) (M : Mem) (x4 : Int32) : RS := flaw_b2209 N xs rec23 M x4
theorem Slaw_b848 (b N : Nat) (xs : Nat → Int32) (kc ks : Nat) (hc : kc + 5 ≤ 601024) (hs : ks + 30 ≤ 7293034) (rec23 : Mem → Int32 → RS) (hrec23 : ∀ (M : Mem) (x4 : Int32), GX (BXL b N xs) room_1 QXL miLaw (kc + 5) (ks + 30) 23 [(0, .ref (1000 + 33)), (1, .ref 0), (2, .ref 87), (3, .ref 121), (4, .int x4)] [] M (rec23 M x4)) (M : Mem) (x4 : Int32) : GX (BXL b N xs) room_1 QXL miLaw (kc + 5) (ks + 30) 848 [(0, .ref (1000 + 33)), (1, .ref 0), (2, .ref 87), (3, .ref 121), (4, .int x4)] [] M (flaw_b848 N xs rec23 M x4) := by
  show GX (BXL b N xs) room_1 QXL miLaw (kc + 5) (ks + 30) 848 [(0, .ref (1000 + 33)), (1, .ref 0), (2, .ref 87), (3, .ref 121), (4, .int x4)] [] M (flaw_b2209 N xs rec23 M x4)
  refine x_goto (tgt := 2209) rfl dL_law_848 ?_
  exact GX.pick [0, 1, 2, 3, 4] rfl <| Slaw_b2209 b N xs kc ks hc hs  rec23 hrec23 M x4
def flaw_b923 (N : Nat) (xs : Nat → Int32) (rec23 : Mem → Int32 → RS) (M : Mem) (x4 : Int32) : RS := flaw_b2209 N xs rec23 M x4
theorem Slaw_b923 (b N : Nat) (xs : Nat → Int32) (kc ks : Nat) (hc : kc + 5 ≤ 601024) (hs : ks + 30 ≤ 7293034) (rec23 : Mem → Int32 → RS) (hrec23 : ∀ (M : Mem) (x4 : Int32), GX (BXL b N xs) room_1 QXL miLaw (kc + 5) (ks + 30) 23 [(0, .ref (1000 + 33)), (1, .ref 0), (2, .ref 87), (3, .ref 121), (4, .int x4)] [] M (rec23 M x4)) (M : Mem) (x4 : Int32) : GX (BXL b N xs) room_1 QXL miLaw (kc + 5) (ks + 30) 923 [(0, .ref (1000 + 33)), (1, .ref 0), (2, .ref 87), (3, .ref 121), (4, .int x4)] [] M (flaw_b923 N xs rec23 M x4) := by
  show GX (BXL b N xs) room_1 QXL miLaw (kc + 5) (ks + 30) 923 [(0, .ref (1000 + 33)), (1, .ref 0), (2, .ref 87), (3, .ref 121), (4, .int x4)] [] M (flaw_b2209 N xs rec23 M x4)
  refine x_goto (tgt := 2209) rfl dL_law_923 ?_
  exact GX.pick [0, 1, 2, 3, 4] rfl <| Slaw_b2209 b N xs kc ks hc hs  rec23 hrec23 M x4
def flaw_b917 (N : Nat) (xs : Nat → Int32) (rec23 : Mem → Int32 → RS) (M : Mem) (x4 : Int32) (s0 : Int64) (s1 : Int64) : RS := if (lg_cmp s1 s0) = 0 then flaw_b923 N xs rec23 M x4 else some (M, .inr (some (.int 0)))
theorem Slaw_b917 (b N : Nat) (xs : Nat → Int32) (kc ks : Nat) (hc : kc + 5 ≤ 601024) (hs : ks + 30 ≤ 7293034) (rec23 : Mem → Int32 → RS) (hrec23 : ∀ (M : Mem) (x4 : Int32), GX (BXL b N xs) room_1 QXL miLaw (kc + 5) (ks + 30) 23 [(0, .ref (1000 + 33)), (1, .ref 0), (2, .ref 87), (3, .ref 121), (4, .int x4)] [] M (rec23 M x4)) (M : Mem) (x4 : Int32) (s0 : Int64) (s1 : Int64) : GX (BXL b N xs) room_1 QXL miLaw (kc + 5) (ks + 30) 917 [(0, .ref (1000 + 33)), (1, .ref 0), (2, .ref 87), (3, .ref 121), (4, .int x4)] [.long s0, .long s1] M (flaw_b917 N xs rec23 M x4 s0 s1) := by
  show GX (BXL b N xs) room_1 QXL miLaw (kc + 5) (ks + 30) 917 [(0, .ref (1000 + 33)), (1, .ref 0), (2, .ref 87), (3, .ref 121), (4, .int x4)] [.long s0, .long s1] M (if (lg_cmp s1 s0) = 0 then flaw_b923 N xs rec23 M x4 else some (M, .inr (some (.int 0))))
  refine x_lcmp dL_law_917 ?_
  refine x_if_eq (tgt := 923) rfl dL_law_918 (fun c => ?_) (fun c => ?_)
  · exact GX.pick [0, 1, 2, 3, 4] rfl <| Slaw_b923 b N xs kc ks hc hs  rec23 hrec23 M x4
  · refine x_iconst (v := 0) (by decide) dL_law_921 ?_
    exact l_ret0 dL_law_922
def flaw_b1066 (N : Nat) (xs : Nat → Int32) (rec23 : Mem → Int32 → RS) (M : Mem) (x4 : Int32) : RS := flaw_b2209 N xs rec23 M x4
theorem Slaw_b1066 (b N : Nat) (xs : Nat → Int32) (kc ks : Nat) (hc : kc + 5 ≤ 601024) (hs : ks + 30 ≤ 7293034) (rec23 : Mem → Int32 → RS) (hrec23 : ∀ (M : Mem) (x4 : Int32), GX (BXL b N xs) room_1 QXL miLaw (kc + 5) (ks + 30) 23 [(0, .ref (1000 + 33)), (1, .ref 0), (2, .ref 87), (3, .ref 121), (4, .int x4)] [] M (rec23 M x4)) (M : Mem) (x4 : Int32) : GX (BXL b N xs) room_1 QXL miLaw (kc + 5) (ks + 30) 1066 [(0, .ref (1000 + 33)), (1, .ref 0), (2, .ref 87), (3, .ref 121), (4, .int x4)] [] M (flaw_b1066 N xs rec23 M x4) := by
  show GX (BXL b N xs) room_1 QXL miLaw (kc + 5) (ks + 30) 1066 [(0, .ref (1000 + 33)), (1, .ref 0), (2, .ref 87), (3, .ref 121), (4, .int x4)] [] M (flaw_b2209 N xs rec23 M x4)
  refine x_goto (tgt := 2209) rfl dL_law_1066 ?_
  exact GX.pick [0, 1, 2, 3, 4] rfl <| Slaw_b2209 b N xs kc ks hc hs  rec23 hrec23 M x4
def flaw_b1122 (N : Nat) (xs : Nat → Int32) (rec23 : Mem → Int32 → RS) (M : Mem) (x4 : Int32) : RS := flaw_b2209 N xs rec23 M x4
theorem Slaw_b1122 (b N : Nat) (xs : Nat → Int32) (kc ks : Nat) (hc : kc + 5 ≤ 601024) (hs : ks + 30 ≤ 7293034) (rec23 : Mem → Int32 → RS) (hrec23 : ∀ (M : Mem) (x4 : Int32), GX (BXL b N xs) room_1 QXL miLaw (kc + 5) (ks + 30) 23 [(0, .ref (1000 + 33)), (1, .ref 0), (2, .ref 87), (3, .ref 121), (4, .int x4)] [] M (rec23 M x4)) (M : Mem) (x4 : Int32) : GX (BXL b N xs) room_1 QXL miLaw (kc + 5) (ks + 30) 1122 [(0, .ref (1000 + 33)), (1, .ref 0), (2, .ref 87), (3, .ref 121), (4, .int x4)] [] M (flaw_b1122 N xs rec23 M x4) := by
  show GX (BXL b N xs) room_1 QXL miLaw (kc + 5) (ks + 30) 1122 [(0, .ref (1000 + 33)), (1, .ref 0), (2, .ref 87), (3, .ref 121), (4, .int x4)] [] M (flaw_b2209 N xs rec23 M x4)
  refine x_goto (tgt := 2209) rfl dL_law_1122 ?_
  exact GX.pick [0, 1, 2, 3, 4] rfl <| Slaw_b2209 b N xs kc ks hc hs  rec23 hrec23 M x4
def flaw_b1216 (N : Nat) (xs : Nat → Int32) (rec23 : Mem → Int32 → RS) (M : Mem) (x4 : Int32) : RS := flaw_b2209 N xs rec23 M x4
theorem Slaw_b1216 (b N : Nat) (xs : Nat → Int32) (kc ks : Nat) (hc : kc + 5 ≤ 601024) (hs : ks + 30 ≤ 7293034) (rec23 : Mem → Int32 → RS) (hrec23 : ∀ (M : Mem) (x4 : Int32), GX (BXL b N xs) room_1 QXL miLaw (kc + 5) (ks + 30) 23 [(0, .ref (1000 + 33)), (1, .ref 0), (2, .ref 87), (3, .ref 121), (4, .int x4)] [] M (rec23 M x4)) (M : Mem) (x4 : Int32) : GX (BXL b N xs) room_1 QXL miLaw (kc + 5) (ks + 30) 1216 [(0, .ref (1000 + 33)), (1, .ref 0), (2, .ref 87), (3, .ref 121), (4, .int x4)] [] M (flaw_b1216 N xs rec23 M x4) := by
  show GX (BXL b N xs) room_1 QXL miLaw (kc + 5) (ks + 30) 1216 [(0, .ref (1000 + 33)), (1, .ref 0), (2, .ref 87), (3, .ref 121), (4, .int x4)] [] M (flaw_b2209 N xs rec23 M x4)
  refine x_goto (tgt := 2209) rfl dL_law_1216 ?_
  exact GX.pick [0, 1, 2, 3, 4] rfl <| Slaw_b2209 b N xs kc ks hc hs  rec23 hrec23 M x4
def flaw_b1272 (N : Nat) (xs : Nat → Int32) (rec23 : Mem → Int32 → RS) (M : Mem) (x4 : Int32) : RS := flaw_b2209 N xs rec23 M x4
theorem Slaw_b1272 (b N : Nat) (xs : Nat → Int32) (kc ks : Nat) (hc : kc + 5 ≤ 601024) (hs : ks + 30 ≤ 7293034) (rec23 : Mem → Int32 → RS) (hrec23 : ∀ (M : Mem) (x4 : Int32), GX (BXL b N xs) room_1 QXL miLaw (kc + 5) (ks + 30) 23 [(0, .ref (1000 + 33)), (1, .ref 0), (2, .ref 87), (3, .ref 121), (4, .int x4)] [] M (rec23 M x4)) (M : Mem) (x4 : Int32) : GX (BXL b N xs) room_1 QXL miLaw (kc + 5) (ks + 30) 1272 [(0, .ref (1000 + 33)), (1, .ref 0), (2, .ref 87), (3, .ref 121), (4, .int x4)] [] M (flaw_b1272 N xs rec23 M x4) := by
  show GX (BXL b N xs) room_1 QXL miLaw (kc + 5) (ks + 30) 1272 [(0, .ref (1000 + 33)), (1, .ref 0), (2, .ref 87), (3, .ref 121), (4, .int x4)] [] M (flaw_b2209 N xs rec23 M x4)
  refine x_goto (tgt := 2209) rfl dL_law_1272 ?_
  exact GX.pick [0, 1, 2, 3, 4] rfl <| Slaw_b2209 b N xs kc ks hc hs  rec23 hrec23 M x4
def flaw_b1328 (N : Nat) (xs : Nat → Int32) (rec23 : Mem → Int32 → RS) (M : Mem) (x4 : Int32) : RS := flaw_b2209 N xs rec23 M x4
theorem Slaw_b1328 (b N : Nat) (xs : Nat → Int32) (kc ks : Nat) (hc : kc + 5 ≤ 601024) (hs : ks + 30 ≤ 7293034) (rec23 : Mem → Int32 → RS) (hrec23 : ∀ (M : Mem) (x4 : Int32), GX (BXL b N xs) room_1 QXL miLaw (kc + 5) (ks + 30) 23 [(0, .ref (1000 + 33)), (1, .ref 0), (2, .ref 87), (3, .ref 121), (4, .int x4)] [] M (rec23 M x4)) (M : Mem) (x4 : Int32) : GX (BXL b N xs) room_1 QXL miLaw (kc + 5) (ks + 30) 1328 [(0, .ref (1000 + 33)), (1, .ref 0), (2, .ref 87), (3, .ref 121), (4, .int x4)] [] M (flaw_b1328 N xs rec23 M x4) := by
  show GX (BXL b N xs) room_1 QXL miLaw (kc + 5) (ks + 30) 1328 [(0, .ref (1000 + 33)), (1, .ref 0), (2, .ref 87), (3, .ref 121), (4, .int x4)] [] M (flaw_b2209 N xs rec23 M x4)
  refine x_goto (tgt := 2209) rfl dL_law_1328 ?_
  exact GX.pick [0, 1, 2, 3, 4] rfl <| Slaw_b2209 b N xs kc ks hc hs  rec23 hrec23 M x4
def flaw_b1409 (N : Nat) (xs : Nat → Int32) (rec23 : Mem → Int32 → RS) (M : Mem) (x4 : Int32) : RS := flaw_b2209 N xs rec23 M x4
theorem Slaw_b1409 (b N : Nat) (xs : Nat → Int32) (kc ks : Nat) (hc : kc + 5 ≤ 601024) (hs : ks + 30 ≤ 7293034) (rec23 : Mem → Int32 → RS) (hrec23 : ∀ (M : Mem) (x4 : Int32), GX (BXL b N xs) room_1 QXL miLaw (kc + 5) (ks + 30) 23 [(0, .ref (1000 + 33)), (1, .ref 0), (2, .ref 87), (3, .ref 121), (4, .int x4)] [] M (rec23 M x4)) (M : Mem) (x4 : Int32) : GX (BXL b N xs) room_1 QXL miLaw (kc + 5) (ks + 30) 1409 [(0, .ref (1000 + 33)), (1, .ref 0), (2, .ref 87), (3, .ref 121), (4, .int x4)] [] M (flaw_b1409 N xs rec23 M x4) := by
  show GX (BXL b N xs) room_1 QXL miLaw (kc + 5) (ks + 30) 1409 [(0, .ref (1000 + 33)), (1, .ref 0), (2, .ref 87), (3, .ref 121), (4, .int x4)] [] M (flaw_b2209 N xs rec23 M x4)
  refine x_goto (tgt := 2209) rfl dL_law_1409 ?_
  exact GX.pick [0, 1, 2, 3, 4] rfl <| Slaw_b2209 b N xs kc ks hc hs  rec23 hrec23 M x4
def flaw_b1465 (N : Nat) (xs : Nat → Int32) (rec23 : Mem → Int32 → RS) (M : Mem) (x4 : Int32) : RS := flaw_b2209 N xs rec23 M x4
theorem Slaw_b1465 (b N : Nat) (xs : Nat → Int32) (kc ks : Nat) (hc : kc + 5 ≤ 601024) (hs : ks + 30 ≤ 7293034) (rec23 : Mem → Int32 → RS) (hrec23 : ∀ (M : Mem) (x4 : Int32), GX (BXL b N xs) room_1 QXL miLaw (kc + 5) (ks + 30) 23 [(0, .ref (1000 + 33)), (1, .ref 0), (2, .ref 87), (3, .ref 121), (4, .int x4)] [] M (rec23 M x4)) (M : Mem) (x4 : Int32) : GX (BXL b N xs) room_1 QXL miLaw (kc + 5) (ks + 30) 1465 [(0, .ref (1000 + 33)), (1, .ref 0), (2, .ref 87), (3, .ref 121), (4, .int x4)] [] M (flaw_b1465 N xs rec23 M x4) := by
  show GX (BXL b N xs) room_1 QXL miLaw (kc + 5) (ks + 30) 1465 [(0, .ref (1000 + 33)), (1, .ref 0), (2, .ref 87), (3, .ref 121), (4, .int x4)] [] M (flaw_b2209 N xs rec23 M x4)
  refine x_goto (tgt := 2209) rfl dL_law_1465 ?_
  exact GX.pick [0, 1, 2, 3, 4] rfl <| Slaw_b2209 b N xs kc ks hc hs  rec23 hrec23 M x4
def flaw_b1521 (N : Nat) (xs : Nat → Int32) (rec23 : Mem → Int32 → RS) (M : Mem) (x4 : Int32) : RS := flaw_b2209 N xs rec23 M x4
theorem Slaw_b1521 (b N : Nat) (xs : Nat → Int32) (kc ks : Nat) (hc : kc + 5 ≤ 601024) (hs : ks + 30 ≤ 7293034) (rec23 : Mem → Int32 → RS) (hrec23 : ∀ (M : Mem) (x4 : Int32), GX (BXL b N xs) room_1 QXL miLaw (kc + 5) (ks + 30) 23 [(0, .ref (1000 + 33)), (1, .ref 0), (2, .ref 87), (3, .ref 121), (4, .int x4)] [] M (rec23 M x4)) (M : Mem) (x4 : Int32) : GX (BXL b N xs) room_1 QXL miLaw (kc + 5) (ks + 30) 1521 [(0, .ref (1000 + 33)), (1, .ref 0), (2, .ref 87), (3, .ref 121), (4, .int x4)] [] M (flaw_b1521 N xs rec23 M x4) := by
  show GX (BXL b N xs) room_1 QXL miLaw (kc + 5) (ks + 30) 1521 [(0, .ref (1000 + 33)), (1, .ref 0), (2, .ref 87), (3, .ref 121), (4, .int x4)] [] M (flaw_b2209 N xs rec23 M x4)
  refine x_goto (tgt := 2209) rfl dL_law_1521 ?_
  exact GX.pick [0, 1, 2, 3, 4] rfl <| Slaw_b2209 b N xs kc ks hc hs  rec23 hrec23 M x4
def flaw_b1589 (N : Nat) (xs : Nat → Int32) (rec23 : Mem → Int32 → RS) (M : Mem) (x4 : Int32) : RS := flaw_b2209 N xs rec23 M x4
theorem Slaw_b1589 (b N : Nat) (xs : Nat → Int32) (kc ks : Nat) (hc : kc + 5 ≤ 601024) (hs : ks + 30 ≤ 7293034) (rec23 : Mem → Int32 → RS) (hrec23 : ∀ (M : Mem) (x4 : Int32), GX (BXL b N xs) room_1 QXL miLaw (kc + 5) (ks + 30) 23 [(0, .ref (1000 + 33)), (1, .ref 0), (2, .ref 87), (3, .ref 121), (4, .int x4)] [] M (rec23 M x4)) (M : Mem) (x4 : Int32) : GX (BXL b N xs) room_1 QXL miLaw (kc + 5) (ks + 30) 1589 [(0, .ref (1000 + 33)), (1, .ref 0), (2, .ref 87), (3, .ref 121), (4, .int x4)] [] M (flaw_b1589 N xs rec23 M x4) := by
  show GX (BXL b N xs) room_1 QXL miLaw (kc + 5) (ks + 30) 1589 [(0, .ref (1000 + 33)), (1, .ref 0), (2, .ref 87), (3, .ref 121), (4, .int x4)] [] M (flaw_b2209 N xs rec23 M x4)
  refine x_goto (tgt := 2209) rfl dL_law_1589 ?_
  exact GX.pick [0, 1, 2, 3, 4] rfl <| Slaw_b2209 b N xs kc ks hc hs  rec23 hrec23 M x4
def flaw_b1645 (N : Nat) (xs : Nat → Int32) (rec23 : Mem → Int32 → RS) (M : Mem) (x4 : Int32) : RS := flaw_b2209 N xs rec23 M x4
theorem Slaw_b1645 (b N : Nat) (xs : Nat → Int32) (kc ks : Nat) (hc : kc + 5 ≤ 601024) (hs : ks + 30 ≤ 7293034) (rec23 : Mem → Int32 → RS) (hrec23 : ∀ (M : Mem) (x4 : Int32), GX (BXL b N xs) room_1 QXL miLaw (kc + 5) (ks + 30) 23 [(0, .ref (1000 + 33)), (1, .ref 0), (2, .ref 87), (3, .ref 121), (4, .int x4)] [] M (rec23 M x4)) (M : Mem) (x4 : Int32) : GX (BXL b N xs) room_1 QXL miLaw (kc + 5) (ks + 30) 1645 [(0, .ref (1000 + 33)), (1, .ref 0), (2, .ref 87), (3, .ref 121), (4, .int x4)] [] M (flaw_b1645 N xs rec23 M x4) := by
  show GX (BXL b N xs) room_1 QXL miLaw (kc + 5) (ks + 30) 1645 [(0, .ref (1000 + 33)), (1, .ref 0), (2, .ref 87), (3, .ref 121), (4, .int x4)] [] M (flaw_b2209 N xs rec23 M x4)
  refine x_goto (tgt := 2209) rfl dL_law_1645 ?_
  exact GX.pick [0, 1, 2, 3, 4] rfl <| Slaw_b2209 b N xs kc ks hc hs  rec23 hrec23 M x4
def flaw_b1701 (N : Nat) (xs : Nat → Int32) (rec23 : Mem → Int32 → RS) (M : Mem) (x4 : Int32) : RS := flaw_b2209 N xs rec23 M x4
theorem Slaw_b1701 (b N : Nat) (xs : Nat → Int32) (kc ks : Nat) (hc : kc + 5 ≤ 601024) (hs : ks + 30 ≤ 7293034) (rec23 : Mem → Int32 → RS) (hrec23 : ∀ (M : Mem) (x4 : Int32), GX (BXL b N xs) room_1 QXL miLaw (kc + 5) (ks + 30) 23 [(0, .ref (1000 + 33)), (1, .ref 0), (2, .ref 87), (3, .ref 121), (4, .int x4)] [] M (rec23 M x4)) (M : Mem) (x4 : Int32) : GX (BXL b N xs) room_1 QXL miLaw (kc + 5) (ks + 30) 1701 [(0, .ref (1000 + 33)), (1, .ref 0), (2, .ref 87), (3, .ref 121), (4, .int x4)] [] M (flaw_b1701 N xs rec23 M x4) := by
  show GX (BXL b N xs) room_1 QXL miLaw (kc + 5) (ks + 30) 1701 [(0, .ref (1000 + 33)), (1, .ref 0), (2, .ref 87), (3, .ref 121), (4, .int x4)] [] M (flaw_b2209 N xs rec23 M x4)
  refine x_goto (tgt := 2209) rfl dL_law_1701 ?_
  exact GX.pick [0, 1, 2, 3, 4] rfl <| Slaw_b2209 b N xs kc ks hc hs  rec23 hrec23 M x4
def flaw_b1769 (N : Nat) (xs : Nat → Int32) (rec23 : Mem → Int32 → RS) (M : Mem) (x4 : Int32) : RS := flaw_b2209 N xs rec23 M x4
theorem Slaw_b1769 (b N : Nat) (xs : Nat → Int32) (kc ks : Nat) (hc : kc + 5 ≤ 601024) (hs : ks + 30 ≤ 7293034) (rec23 : Mem → Int32 → RS) (hrec23 : ∀ (M : Mem) (x4 : Int32), GX (BXL b N xs) room_1 QXL miLaw (kc + 5) (ks + 30) 23 [(0, .ref (1000 + 33)), (1, .ref 0), (2, .ref 87), (3, .ref 121), (4, .int x4)] [] M (rec23 M x4)) (M : Mem) (x4 : Int32) : GX (BXL b N xs) room_1 QXL miLaw (kc + 5) (ks + 30) 1769 [(0, .ref (1000 + 33)), (1, .ref 0), (2, .ref 87), (3, .ref 121), (4, .int x4)] [] M (flaw_b1769 N xs rec23 M x4) := by
  show GX (BXL b N xs) room_1 QXL miLaw (kc + 5) (ks + 30) 1769 [(0, .ref (1000 + 33)), (1, .ref 0), (2, .ref 87), (3, .ref 121), (4, .int x4)] [] M (flaw_b2209 N xs rec23 M x4)
  refine x_goto (tgt := 2209) rfl dL_law_1769 ?_
  exact GX.pick [0, 1, 2, 3, 4] rfl <| Slaw_b2209 b N xs kc ks hc hs  rec23 hrec23 M x4
def flaw_b1838 (N : Nat) (xs : Nat → Int32) (rec23 : Mem → Int32 → RS) (M : Mem) (x4 : Int32) : RS := flaw_b2209 N xs rec23 M x4
theorem Slaw_b1838 (b N : Nat) (xs : Nat → Int32) (kc ks : Nat) (hc : kc + 5 ≤ 601024) (hs : ks + 30 ≤ 7293034) (rec23 : Mem → Int32 → RS) (hrec23 : ∀ (M : Mem) (x4 : Int32), GX (BXL b N xs) room_1 QXL miLaw (kc + 5) (ks + 30) 23 [(0, .ref (1000 + 33)), (1, .ref 0), (2, .ref 87), (3, .ref 121), (4, .int x4)] [] M (rec23 M x4)) (M : Mem) (x4 : Int32) : GX (BXL b N xs) room_1 QXL miLaw (kc + 5) (ks + 30) 1838 [(0, .ref (1000 + 33)), (1, .ref 0), (2, .ref 87), (3, .ref 121), (4, .int x4)] [] M (flaw_b1838 N xs rec23 M x4) := by
  show GX (BXL b N xs) room_1 QXL miLaw (kc + 5) (ks + 30) 1838 [(0, .ref (1000 + 33)), (1, .ref 0), (2, .ref 87), (3, .ref 121), (4, .int x4)] [] M (flaw_b2209 N xs rec23 M x4)
  refine x_goto (tgt := 2209) rfl dL_law_1838 ?_
  exact GX.pick [0, 1, 2, 3, 4] rfl <| Slaw_b2209 b N xs kc ks hc hs  rec23 hrec23 M x4
def flaw_b1918 (N : Nat) (xs : Nat → Int32) (rec23 : Mem → Int32 → RS) (M : Mem) (x4 : Int32) : RS := flaw_b2209 N xs rec23 M x4
theorem Slaw_b1918 (b N : Nat) (xs : Nat → Int32) (kc ks : Nat) (hc : kc + 5 ≤ 601024) (hs : ks + 30 ≤ 7293034) (rec23 : Mem → Int32 → RS) (hrec23 : ∀ (M : Mem) (x4 : Int32), GX (BXL b N xs) room_1 QXL miLaw (kc + 5) (ks + 30) 23 [(0, .ref (1000 + 33)), (1, .ref 0), (2, .ref 87), (3, .ref 121), (4, .int x4)] [] M (rec23 M x4)) (M : Mem) (x4 : Int32) : GX (BXL b N xs) room_1 QXL miLaw (kc + 5) (ks + 30) 1918 [(0, .ref (1000 + 33)), (1, .ref 0), (2, .ref 87), (3, .ref 121), (4, .int x4)] [] M (flaw_b1918 N xs rec23 M x4) := by
  show GX (BXL b N xs) room_1 QXL miLaw (kc + 5) (ks + 30) 1918 [(0, .ref (1000 + 33)), (1, .ref 0), (2, .ref 87), (3, .ref 121), (4, .int x4)] [] M (flaw_b2209 N xs rec23 M x4)
  refine x_goto (tgt := 2209) rfl dL_law_1918 ?_
  exact GX.pick [0, 1, 2, 3, 4] rfl <| Slaw_b2209 b N xs kc ks hc hs  rec23 hrec23 M x4
def flaw_b1999 (N : Nat) (xs : Nat → Int32) (rec23 : Mem → Int32 → RS) (M : Mem) (x4 : Int32) : RS := flaw_b2209 N xs rec23 M x4
theorem Slaw_b1999 (b N : Nat) (xs : Nat → Int32) (kc ks : Nat) (hc : kc + 5 ≤ 601024) (hs : ks + 30 ≤ 7293034) (rec23 : Mem → Int32 → RS) (hrec23 : ∀ (M : Mem) (x4 : Int32), GX (BXL b N xs) room_1 QXL miLaw (kc + 5) (ks + 30) 23 [(0, .ref (1000 + 33)), (1, .ref 0), (2, .ref 87), (3, .ref 121), (4, .int x4)] [] M (rec23 M x4)) (M : Mem) (x4 : Int32) : GX (BXL b N xs) room_1 QXL miLaw (kc + 5) (ks + 30) 1999 [(0, .ref (1000 + 33)), (1, .ref 0), (2, .ref 87), (3, .ref 121), (4, .int x4)] [] M (flaw_b1999 N xs rec23 M x4) := by
  show GX (BXL b N xs) room_1 QXL miLaw (kc + 5) (ks + 30) 1999 [(0, .ref (1000 + 33)), (1, .ref 0), (2, .ref 87), (3, .ref 121), (4, .int x4)] [] M (flaw_b2209 N xs rec23 M x4)
  refine x_goto (tgt := 2209) rfl dL_law_1999 ?_
  exact GX.pick [0, 1, 2, 3, 4] rfl <| Slaw_b2209 b N xs kc ks hc hs  rec23 hrec23 M x4
def flaw_b2102 (N : Nat) (xs : Nat → Int32) (rec23 : Mem → Int32 → RS) (M : Mem) (x4 : Int32) : RS := flaw_b2209 N xs rec23 M x4
theorem Slaw_b2102 (b N : Nat) (xs : Nat → Int32) (kc ks : Nat) (hc : kc + 5 ≤ 601024) (hs : ks + 30 ≤ 7293034) (rec23 : Mem → Int32 → RS) (hrec23 : ∀ (M : Mem) (x4 : Int32), GX (BXL b N xs) room_1 QXL miLaw (kc + 5) (ks + 30) 23 [(0, .ref (1000 + 33)), (1, .ref 0), (2, .ref 87), (3, .ref 121), (4, .int x4)] [] M (rec23 M x4)) (M : Mem) (x4 : Int32) : GX (BXL b N xs) room_1 QXL miLaw (kc + 5) (ks + 30) 2102 [(0, .ref (1000 + 33)), (1, .ref 0), (2, .ref 87), (3, .ref 121), (4, .int x4)] [] M (flaw_b2102 N xs rec23 M x4) := by
  show GX (BXL b N xs) room_1 QXL miLaw (kc + 5) (ks + 30) 2102 [(0, .ref (1000 + 33)), (1, .ref 0), (2, .ref 87), (3, .ref 121), (4, .int x4)] [] M (flaw_b2209 N xs rec23 M x4)
  refine x_goto (tgt := 2209) rfl dL_law_2102 ?_
  exact GX.pick [0, 1, 2, 3, 4] rfl <| Slaw_b2209 b N xs kc ks hc hs  rec23 hrec23 M x4
def flaw_b2182 (N : Nat) (xs : Nat → Int32) (rec23 : Mem → Int32 → RS) (M : Mem) (x4 : Int32) : RS := flaw_b2209 N xs rec23 M x4
theorem Slaw_b2182 (b N : Nat) (xs : Nat → Int32) (kc ks : Nat) (hc : kc + 5 ≤ 601024) (hs : ks + 30 ≤ 7293034) (rec23 : Mem → Int32 → RS) (hrec23 : ∀ (M : Mem) (x4 : Int32), GX (BXL b N xs) room_1 QXL miLaw (kc + 5) (ks + 30) 23 [(0, .ref (1000 + 33)), (1, .ref 0), (2, .ref 87), (3, .ref 121), (4, .int x4)] [] M (rec23 M x4)) (M : Mem) (x4 : Int32) : GX (BXL b N xs) room_1 QXL miLaw (kc + 5) (ks + 30) 2182 [(0, .ref (1000 + 33)), (1, .ref 0), (2, .ref 87), (3, .ref 121), (4, .int x4)] [] M (flaw_b2182 N xs rec23 M x4) := by
  show GX (BXL b N xs) room_1 QXL miLaw (kc + 5) (ks + 30) 2182 [(0, .ref (1000 + 33)), (1, .ref 0), (2, .ref 87), (3, .ref 121), (4, .int x4)] [] M (flaw_b2209 N xs rec23 M x4)
  refine x_goto (tgt := 2209) rfl dL_law_2182 ?_
  exact GX.pick [0, 1, 2, 3, 4] rfl <| Slaw_b2209 b N xs kc ks hc hs  rec23 hrec23 M x4
def flaw (N : Nat) (xs : Nat → Int32) : Nat → Mem → Int32 → RS
  | 0 => fun _ _ => none
  | n + 1 => fun M x4 => if ((Int32.ofNat N) - 6) < x4 then some (M, .inr (some (.int 1))) else chk (inb x4 N) (if ((xs (ix x4)) &&& 63) = 0 then chk (inb (x4 + 1) N) (chk (inb (x4 + 2) N) (chk (inb (x4 + 3) N) (chk (inb (x4 + 4) N) (chk (inb (x4 + 5) N) (cI (fX11_feed M (xs (ix (x4 + 1))) (xs (ix (x4 + 2))) (xs (ix (x4 + 3))) (xs (ix (x4 + 4))) (xs (ix (x4 + 5)))) (fun M1 v2 => chk (inb (x4 + 1) N) (chk (inb (x4 + 2) N) (chk (inb (x4 + 3) N) (chk (inb (x4 + 4) N) (chk (inb (x4 + 5) N) (cI (fX12_feed M1 (xs (ix (x4 + 1))) (xs (ix (x4 + 2))) (xs (ix (x4 + 3))) (xs (ix (x4 + 4))) (xs (ix (x4 + 5)))) (fun M3 v4 => if v2 = v4 then flaw_b2209 N xs (flaw N xs n) M3 x4 else some (M3, .inr (some (.int 0)))) (fun _ _ => none))))))) (fun _ _ => none)))))) else if ((xs (ix x4)) &&& 63) = 1 then chk (inb (x4 + 1) N) (cI (fL_island M (xs (ix (x4 + 1)))) (fun M5 v6 => chk (inb (x4 + 1) N) (cI (fX12_island M5 (xs (ix (x4 + 1)))) (fun M7 v8 => cI (fX12_thrown M7) (fun M9 v10 => if v10 = v6 then if v6 = 0 then if (lg_cmp (gl M9 121 0) (Int32.toInt64 v8)) = 0 then flaw_b346 N xs (flaw N xs n) M9 x4 else some (M9, .inr (some (.int 0))) else flaw_b346 N xs (flaw N xs n) M9 x4 else some (M9, .inr (some (.int 0)))) (fun _ _ => none)) (fun _ _ => none))) (fun _ _ => none)) else if ((xs (ix x4)) &&& 63) = 2 then cI (fX11_fault M) (fun M11 v12 => cI (fX12_fault M11) (fun M13 v14 => if v12 = v14 then flaw_b2209 N xs (flaw N xs n) M13 x4 else some (M13, .inr (some (.int 0)))) (fun _ _ => none)) (fun _ _ => none) else if ((xs (ix x4)) &&& 63) = 3 then chk (inb (x4 + 1) N) (cI (fL_count M (xs (ix (x4 + 1)))) (fun M15 v16 => chk (inb (x4 + 1) N) (cI (fX12_count M15 (xs (ix (x4 + 1)))) (fun M17 v18 => cI (fX12_thrown M17) (fun M19 v20 => if v20 = v16 then if v16 = 0 then if (lg_cmp (gl M19 121 0) (Int32.toInt64 v18)) = 0 then flaw_b415 N xs (flaw N xs n) M19 x4 else some (M19, .inr (some (.int 0))) else flaw_b415 N xs (flaw N xs n) M19 x4 else some (M19, .inr (some (.int 0)))) (fun _ _ => none)) (fun _ _ => none))) (fun _ _ => none)) else if ((xs (ix x4)) &&& 63) = 4 then chk (inb (x4 + 1) N) (chk (inb (x4 + 2) N) (cI (fL_house M (xs (ix (x4 + 1))) (xs (ix (x4 + 2)))) (fun M21 v22 => chk (inb (x4 + 1) N) (chk (inb (x4 + 2) N) (cI (fX12_house M21 (xs (ix (x4 + 1))) (xs (ix (x4 + 2)))) (fun M23 v24 => cI (fX12_thrown M23) (fun M25 v26 => if v26 = v22 then if v22 = 0 then if (lg_cmp (gl M25 121 0) (Int32.toInt64 v24)) = 0 then flaw_b483 N xs (flaw N xs n) M25 x4 else some (M25, .inr (some (.int 0))) else flaw_b483 N xs (flaw N xs n) M25 x4 else some (M25, .inr (some (.int 0)))) (fun _ _ => none)) (fun _ _ => none)))) (fun _ _ => none))) else if ((xs (ix x4)) &&& 63) = 5 then chk (inb (x4 + 1) N) (chk (inb (x4 + 2) N) (cI (fL_plot M (xs (ix (x4 + 1))) (xs (ix (x4 + 2)))) (fun M27 v28 => chk (inb (x4 + 1) N) (chk (inb (x4 + 2) N) (cI (fX12_plot M27 (xs (ix (x4 + 1))) (xs (ix (x4 + 2)))) (fun M29 v30 => cI (fX12_thrown M29) (fun M31 v32 => if v32 = v28 then if v28 = 0 then if (lg_cmp (gl M31 121 0) (Int32.toInt64 v30)) = 0 then flaw_b551 N xs (flaw N xs n) M31 x4 else some (M31, .inr (some (.int 0))) else flaw_b551 N xs (flaw N xs n) M31 x4 else some (M31, .inr (some (.int 0)))) (fun _ _ => none)) (fun _ _ => none)))) (fun _ _ => none))) else if ((xs (ix x4)) &&& 63) = 6 then chk (inb (x4 + 1) N) (chk (inb (x4 + 2) N) (cI (fL_worth M (xs (ix (x4 + 1))) (xs (ix (x4 + 2)))) (fun M33 v34 => chk (inb (x4 + 1) N) (chk (inb (x4 + 2) N) (cI (fX12_worth M33 (xs (ix (x4 + 1))) (xs (ix (x4 + 2)))) (fun M35 v36 => cI (fX12_thrown M35) (fun M37 v38 => if v38 = v34 then if v34 = 0 then if (lg_cmp (gl M37 121 0) (Int32.toInt64 v36)) = 0 then flaw_b619 N xs (flaw N xs n) M37 x4 else some (M37, .inr (some (.int 0))) else flaw_b619 N xs (flaw N xs n) M37 x4 else some (M37, .inr (some (.int 0)))) (fun _ _ => none)) (fun _ _ => none)))) (fun _ _ => none))) else if ((xs (ix x4)) &&& 63) = 7 then chk (inb (x4 + 1) N) (chk (inb (x4 + 2) N) (chk (inb (x4 + 3) N) (cI (fL_harvest M (xs (ix (x4 + 1))) (xs (ix (x4 + 2))) (xs (ix (x4 + 3)))) (fun M39 v40 => chk (inb (x4 + 1) N) (chk (inb (x4 + 2) N) (chk (inb (x4 + 3) N) (cI (fX12_harvest M39 (xs (ix (x4 + 1))) (xs (ix (x4 + 2))) (xs (ix (x4 + 3)))) (fun M41 v42 => cI (fX12_thrown M41) (fun M43 v44 => if v44 = v40 then if v40 = 0 then if (lg_cmp (gl M43 121 0) (Int32.toInt64 v42)) = 0 then flaw_b699 N xs (flaw N xs n) M43 x4 else some (M43, .inr (some (.int 0))) else flaw_b699 N xs (flaw N xs n) M43 x4 else some (M43, .inr (some (.int 0)))) (fun _ _ => none)) (fun _ _ => none))))) (fun _ _ => none)))) else if ((xs (ix x4)) &&& 63) = 8 then chk (inb (x4 + 1) N) (cI (fX11_lots M (xs (ix (x4 + 1)))) (fun M45 v46 => chk (inb (x4 + 1) N) (cI (fX12_lots M45 (xs (ix (x4 + 1)))) (fun M47 v48 => if v46 = v48 then flaw_b2209 N xs (flaw N xs n) M47 x4 else some (M47, .inr (some (.int 0)))) (fun _ _ => none))) (fun _ _ => none)) else if ((xs (ix x4)) &&& 63) = 9 then chk (inb (x4 + 1) N) (cI (fL_turn M (xs (ix (x4 + 1)))) (fun M49 v50 => chk (inb (x4 + 1) N) (cI (fX12_turn M49 (xs (ix (x4 + 1)))) (fun M51 v52 => cI (fX12_thrown M51) (fun M53 v54 => if v54 = v50 then if v50 = 0 then if (lg_cmp (gl M53 121 0) (Int32.toInt64 v52)) = 0 then flaw_b780 N xs (flaw N xs n) M53 x4 else some (M53, .inr (some (.int 0))) else flaw_b780 N xs (flaw N xs n) M53 x4 else some (M53, .inr (some (.int 0)))) (fun _ _ => none)) (fun _ _ => none))) (fun _ _ => none)) else if ((xs (ix x4)) &&& 63) = 10 then chk (inb (x4 + 1) N) (chk (inb (x4 + 2) N) (cI (fL_order M (xs (ix (x4 + 1))) (xs (ix (x4 + 2)))) (fun M55 v56 => chk (inb (x4 + 1) N) (chk (inb (x4 + 2) N) (cI (fX12_order M55 (xs (ix (x4 + 1))) (xs (ix (x4 + 2)))) (fun M57 v58 => cI (fX12_thrown M57) (fun M59 v60 => if v60 = v56 then if v56 = 0 then if (lg_cmp (gl M59 121 0) (Int32.toInt64 v58)) = 0 then flaw_b848 N xs (flaw N xs n) M59 x4 else some (M59, .inr (some (.int 0))) else flaw_b848 N xs (flaw N xs n) M59 x4 else some (M59, .inr (some (.int 0)))) (fun _ _ => none)) (fun _ _ => none)))) (fun _ _ => none))) else if ((xs (ix x4)) &&& 63) = 11 then chk (inb (x4 + 1) N) (chk (inb (x4 + 2) N) (cI (fL_exchange M (xs (ix (x4 + 1))) (xs (ix (x4 + 2)))) (fun M61 v62 => chk (inb (x4 + 1) N) (chk (inb (x4 + 2) N) (cI (fX12_exchange M61 (xs (ix (x4 + 1))) (xs (ix (x4 + 2)))) (fun M63 v64 => cI (fX12_thrown M63) (fun M65 v66 => if v66 = v62 then if v62 = 0 then if v64 = 0 then flaw_b917 N xs (flaw N xs n) M65 x4 0 (gl M65 121 0) else flaw_b917 N xs (flaw N xs n) M65 x4 1 (gl M65 121 0) else flaw_b923 N xs (flaw N xs n) M65 x4 else some (M65, .inr (some (.int 0)))) (fun _ _ => none)) (fun _ _ => none)))) (fun _ _ => none))) else if ((xs (ix x4)) &&& 63) = 12 then chk (inb (x4 + 1) N) (chk (inb (x4 + 2) N) (cI (fX11_market M (xs (ix (x4 + 1))) (xs (ix (x4 + 2)))) (fun M67 v68 => chk (inb (x4 + 1) N) (chk (inb (x4 + 2) N) (cI (fX12_market M67 (xs (ix (x4 + 1))) (xs (ix (x4 + 2)))) (fun M69 v70 => if v68 = v70 then flaw_b2209 N xs (flaw N xs n) M69 x4 else some (M69, .inr (some (.int 0)))) (fun _ _ => none)))) (fun _ _ => none))) else if ((xs (ix x4)) &&& 63) = 13 then chk (inb (x4 + 1) N) (cI (fX11_years M (xs (ix (x4 + 1)))) (fun M71 v72 => chk (inb (x4 + 1) N) (cI (fX12_years M71 (xs (ix (x4 + 1)))) (fun M73 v74 => if v72 = v74 then flaw_b2209 N xs (flaw N xs n) M73 x4 else some (M73, .inr (some (.int 0)))) (fun _ _ => none))) (fun _ _ => none)) else if ((xs (ix x4)) &&& 63) = 14 then cI (fX11_undo M) (fun M75 v76 => cI (fX12_undo M75) (fun M77 v78 => if v76 = v78 then flaw_b2209 N xs (flaw N xs n) M77 x4 else some (M77, .inr (some (.int 0)))) (fun _ _ => none)) (fun _ _ => none) else if ((xs (ix x4)) &&& 63) = 15 then cI (fX11_ring M) (fun M79 v80 => cI (fX12_ring M79) (fun M81 v82 => if v80 = v82 then flaw_b2209 N xs (flaw N xs n) M81 x4 else some (M81, .inr (some (.int 0)))) (fun _ _ => none)) (fun _ _ => none) else if ((xs (ix x4)) &&& 63) = 16 then chk (inb (x4 + 1) N) (cI (fL_best M (xs (ix (x4 + 1)))) (fun M83 v84 => chk (inb (x4 + 1) N) (cL (fX12_best M83 (xs (ix (x4 + 1)))) (fun M85 v86 => cI (fX12_thrown M85) (fun M87 v88 => if v88 = v84 then if v84 = 0 then if (lg_cmp (gl M87 121 0) v86) = 0 then flaw_b1066 N xs (flaw N xs n) M87 x4 else some (M87, .inr (some (.int 0))) else flaw_b1066 N xs (flaw N xs n) M87 x4 else some (M87, .inr (some (.int 0)))) (fun _ _ => none)) (fun _ _ => none))) (fun _ _ => none)) else if ((xs (ix x4)) &&& 63) = 17 then chk (inb (x4 + 1) N) (cI (fL_fairest M (xs (ix (x4 + 1)))) (fun M89 v90 => chk (inb (x4 + 1) N) (cI (fX12_fairest M89 (xs (ix (x4 + 1)))) (fun M91 v92 => cI (fX12_thrown M91) (fun M93 v94 => if v94 = v90 then if v90 = 0 then if (lg_cmp (gl M93 121 0) (Int32.toInt64 v92)) = 0 then flaw_b1122 N xs (flaw N xs n) M93 x4 else some (M93, .inr (some (.int 0))) else flaw_b1122 N xs (flaw N xs n) M93 x4 else some (M93, .inr (some (.int 0)))) (fun _ _ => none)) (fun _ _ => none))) (fun _ _ => none)) else if ((xs (ix x4)) &&& 63) = 18 then cI (fX11_tribes M) (fun M95 v96 => cI (fX12_tribes M95) (fun M97 v98 => if v96 = v98 then flaw_b2209 N xs (flaw N xs n) M97 x4 else some (M97, .inr (some (.int 0)))) (fun _ _ => none)) (fun _ _ => none) else if ((xs (ix x4)) &&& 63) = 19 then cI (fX11_middle M) (fun M99 v100 => cI (fX12_middle M99) (fun M101 v102 => if v100 = v102 then flaw_b2209 N xs (flaw N xs n) M101 x4 else some (M101, .inr (some (.int 0)))) (fun _ _ => none)) (fun _ _ => none) else if ((xs (ix x4)) &&& 63) = 20 then chk (inb (x4 + 1) N) (chk (inb (x4 + 2) N) (cI (fL_then M (xs (ix (x4 + 1))) (xs (ix (x4 + 2)))) (fun M103 v104 => chk (inb (x4 + 1) N) (chk (inb (x4 + 2) N) (cI (fX12_then M103 (xs (ix (x4 + 1))) (xs (ix (x4 + 2)))) (fun M105 v106 => cI (fX12_thrown M105) (fun M107 v108 => if v108 = v104 then if v104 = 0 then if (lg_cmp (gl M107 121 0) (Int32.toInt64 v106)) = 0 then flaw_b1216 N xs (flaw N xs n) M107 x4 else some (M107, .inr (some (.int 0))) else flaw_b1216 N xs (flaw N xs n) M107 x4 else some (M107, .inr (some (.int 0)))) (fun _ _ => none)) (fun _ _ => none)))) (fun _ _ => none))) else if ((xs (ix x4)) &&& 63) = 21 then chk (inb (x4 + 1) N) (cI (fL_starves M (xs (ix (x4 + 1)))) (fun M109 v110 => chk (inb (x4 + 1) N) (cI (fX12_starves M109 (xs (ix (x4 + 1)))) (fun M111 v112 => cI (fX12_thrown M111) (fun M113 v114 => if v114 = v110 then if v110 = 0 then if (lg_cmp (gl M113 121 0) (Int32.toInt64 v112)) = 0 then flaw_b1272 N xs (flaw N xs n) M113 x4 else some (M113, .inr (some (.int 0))) else flaw_b1272 N xs (flaw N xs n) M113 x4 else some (M113, .inr (some (.int 0)))) (fun _ _ => none)) (fun _ _ => none))) (fun _ _ => none)) else if ((xs (ix x4)) &&& 63) = 22 then chk (inb (x4 + 1) N) (cI (fL_tithes M (xs (ix (x4 + 1)))) (fun M115 v116 => chk (inb (x4 + 1) N) (cI (fX12_tithes M115 (xs (ix (x4 + 1)))) (fun M117 v118 => cI (fX12_thrown M117) (fun M119 v120 => if v120 = v116 then if v116 = 0 then if (lg_cmp (gl M119 121 0) (Int32.toInt64 v118)) = 0 then flaw_b1328 N xs (flaw N xs n) M119 x4 else some (M119, .inr (some (.int 0))) else flaw_b1328 N xs (flaw N xs n) M119 x4 else some (M119, .inr (some (.int 0)))) (fun _ _ => none)) (fun _ _ => none))) (fun _ _ => none)) else if ((xs (ix x4)) &&& 63) = 23 then cI (fX11_holdsOut M) (fun M121 v122 => cI (fX12_holdsOut M121) (fun M123 v124 => if v122 = v124 then flaw_b2209 N xs (flaw N xs n) M123 x4 else some (M123, .inr (some (.int 0)))) (fun _ _ => none)) (fun _ _ => none) else if ((xs (ix x4)) &&& 63) = 24 then chk (inb (x4 + 1) N) (chk (inb (x4 + 2) N) (cI (fL_lotsFor M (xs (ix (x4 + 1))) (xs (ix (x4 + 2)))) (fun M125 v126 => chk (inb (x4 + 1) N) (chk (inb (x4 + 2) N) (cI (fX12_lotsFor M125 (xs (ix (x4 + 1))) (xs (ix (x4 + 2)))) (fun M127 v128 => cI (fX12_thrown M127) (fun M129 v130 => if v130 = v126 then if v126 = 0 then if (lg_cmp (gl M129 121 0) (Int32.toInt64 v128)) = 0 then flaw_b1409 N xs (flaw N xs n) M129 x4 else some (M129, .inr (some (.int 0))) else flaw_b1409 N xs (flaw N xs n) M129 x4 else some (M129, .inr (some (.int 0)))) (fun _ _ => none)) (fun _ _ => none)))) (fun _ _ => none))) else if ((xs (ix x4)) &&& 63) = 25 then chk (inb (x4 + 1) N) (cI (fL_change M (xs (ix (x4 + 1)))) (fun M131 v132 => chk (inb (x4 + 1) N) (cI (fX12_change M131 (xs (ix (x4 + 1)))) (fun M133 v134 => cI (fX12_thrown M133) (fun M135 v136 => if v136 = v132 then if v132 = 0 then if (lg_cmp (gl M135 121 0) (Int32.toInt64 v134)) = 0 then flaw_b1465 N xs (flaw N xs n) M135 x4 else some (M135, .inr (some (.int 0))) else flaw_b1465 N xs (flaw N xs n) M135 x4 else some (M135, .inr (some (.int 0)))) (fun _ _ => none)) (fun _ _ => none))) (fun _ _ => none)) else if ((xs (ix x4)) &&& 63) = 26 then chk (inb (x4 + 1) N) (cI (fL_envied M (xs (ix (x4 + 1)))) (fun M137 v138 => chk (inb (x4 + 1) N) (cI (fX12_envied M137 (xs (ix (x4 + 1)))) (fun M139 v140 => cI (fX12_thrown M139) (fun M141 v142 => if v142 = v138 then if v138 = 0 then if (lg_cmp (gl M141 121 0) (Int32.toInt64 v140)) = 0 then flaw_b1521 N xs (flaw N xs n) M141 x4 else some (M141, .inr (some (.int 0))) else flaw_b1521 N xs (flaw N xs n) M141 x4 else some (M141, .inr (some (.int 0)))) (fun _ _ => none)) (fun _ _ => none))) (fun _ _ => none)) else if ((xs (ix x4)) &&& 63) = 27 then chk (inb (x4 + 1) N) (chk (inb (x4 + 2) N) (cI (fL_without M (xs (ix (x4 + 1))) (xs (ix (x4 + 2)))) (fun M143 v144 => chk (inb (x4 + 1) N) (chk (inb (x4 + 2) N) (cI (fX12_without M143 (xs (ix (x4 + 1))) (xs (ix (x4 + 2)))) (fun M145 v146 => cI (fX12_thrown M145) (fun M147 v148 => if v148 = v144 then if v144 = 0 then if (lg_cmp (gl M147 121 0) (Int32.toInt64 v146)) = 0 then flaw_b1589 N xs (flaw N xs n) M147 x4 else some (M147, .inr (some (.int 0))) else flaw_b1589 N xs (flaw N xs n) M147 x4 else some (M147, .inr (some (.int 0)))) (fun _ _ => none)) (fun _ _ => none)))) (fun _ _ => none))) else if ((xs (ix x4)) &&& 63) = 28 then chk (inb (x4 + 1) N) (cI (fL_lastPlace M (xs (ix (x4 + 1)))) (fun M149 v150 => chk (inb (x4 + 1) N) (cI (fX12_lastPlace M149 (xs (ix (x4 + 1)))) (fun M151 v152 => cI (fX12_thrown M151) (fun M153 v154 => if v154 = v150 then if v150 = 0 then if (lg_cmp (gl M153 121 0) (Int32.toInt64 v152)) = 0 then flaw_b1645 N xs (flaw N xs n) M153 x4 else some (M153, .inr (some (.int 0))) else flaw_b1645 N xs (flaw N xs n) M153 x4 else some (M153, .inr (some (.int 0)))) (fun _ _ => none)) (fun _ _ => none))) (fun _ _ => none)) else if ((xs (ix x4)) &&& 63) = 29 then chk (inb (x4 + 1) N) (cI (fL_famine M (xs (ix (x4 + 1)))) (fun M155 v156 => chk (inb (x4 + 1) N) (cI (fX12_famine M155 (xs (ix (x4 + 1)))) (fun M157 v158 => cI (fX12_thrown M157) (fun M159 v160 => if v160 = v156 then if v156 = 0 then if (lg_cmp (gl M159 121 0) (Int32.toInt64 v158)) = 0 then flaw_b1701 N xs (flaw N xs n) M159 x4 else some (M159, .inr (some (.int 0))) else flaw_b1701 N xs (flaw N xs n) M159 x4 else some (M159, .inr (some (.int 0)))) (fun _ _ => none)) (fun _ _ => none))) (fun _ _ => none)) else if ((xs (ix x4)) &&& 63) = 30 then chk (inb (x4 + 1) N) (chk (inb (x4 + 2) N) (cI (fL_bushels M (xs (ix (x4 + 1))) (xs (ix (x4 + 2)))) (fun M161 v162 => chk (inb (x4 + 1) N) (chk (inb (x4 + 2) N) (cI (fX12_bushels M161 (xs (ix (x4 + 1))) (xs (ix (x4 + 2)))) (fun M163 v164 => cI (fX12_thrown M163) (fun M165 v166 => if v166 = v162 then if v162 = 0 then if (lg_cmp (gl M165 121 0) (Int32.toInt64 v164)) = 0 then flaw_b1769 N xs (flaw N xs n) M165 x4 else some (M165, .inr (some (.int 0))) else flaw_b1769 N xs (flaw N xs n) M165 x4 else some (M165, .inr (some (.int 0)))) (fun _ _ => none)) (fun _ _ => none)))) (fun _ _ => none))) else if ((xs (ix x4)) &&& 63) = 31 then cI (fX11_free M) (fun M167 v168 => cI (fX12_free M167) (fun M169 v170 => if v168 = v170 then flaw_b2209 N xs (flaw N xs n) M169 x4 else some (M169, .inr (some (.int 0)))) (fun _ _ => none)) (fun _ _ => none) else if ((xs (ix x4)) &&& 63) = 32 then chk (inb (x4 + 1) N) (cI (fL_richest M (xs (ix (x4 + 1)))) (fun M171 v172 => chk (inb (x4 + 1) N) (cI (fX12_richest M171 (xs (ix (x4 + 1)))) (fun M173 v174 => cI (fX12_thrown M173) (fun M175 v176 => if v176 = v172 then if v172 = 0 then if (lg_cmp (gl M175 121 0) (Int32.toInt64 v174)) = 0 then flaw_b1838 N xs (flaw N xs n) M175 x4 else some (M175, .inr (some (.int 0))) else flaw_b1838 N xs (flaw N xs n) M175 x4 else some (M175, .inr (some (.int 0)))) (fun _ _ => none)) (fun _ _ => none))) (fun _ _ => none)) else if ((xs (ix x4)) &&& 63) = 33 then chk (inb (x4 + 1) N) (chk (inb (x4 + 2) N) (chk (inb (x4 + 3) N) (cI (fL_see M (xs (ix (x4 + 1))) (xs (ix (x4 + 2))) (xs (ix (x4 + 3)))) (fun M177 v178 => chk (inb (x4 + 1) N) (chk (inb (x4 + 2) N) (chk (inb (x4 + 3) N) (cI (fX12_see M177 (xs (ix (x4 + 1))) (xs (ix (x4 + 2))) (xs (ix (x4 + 3)))) (fun M179 v180 => cI (fX12_thrown M179) (fun M181 v182 => if v182 = v178 then if v178 = 0 then if (lg_cmp (gl M181 121 0) (Int32.toInt64 v180)) = 0 then flaw_b1918 N xs (flaw N xs n) M181 x4 else some (M181, .inr (some (.int 0))) else flaw_b1918 N xs (flaw N xs n) M181 x4 else some (M181, .inr (some (.int 0)))) (fun _ _ => none)) (fun _ _ => none))))) (fun _ _ => none)))) else if ((xs (ix x4)) &&& 63) = 34 then cI (fX11_brothers M) (fun M183 v184 => cI (fX12_brothers M183) (fun M185 v186 => if v184 = v186 then flaw_b2209 N xs (flaw N xs n) M185 x4 else some (M185, .inr (some (.int 0)))) (fun _ _ => none)) (fun _ _ => none) else if ((xs (ix x4)) &&& 63) = 35 then chk (inb (x4 + 1) N) (chk (inb (x4 + 2) N) (cI (fL_look M (xs (ix (x4 + 1))) (xs (ix (x4 + 2)))) (fun M187 v188 => chk (inb (x4 + 1) N) (chk (inb (x4 + 2) N) (cI (fX12_look M187 (xs (ix (x4 + 1))) (xs (ix (x4 + 2)))) (fun M189 v190 => cI (fX12_thrown M189) (fun M191 v192 => if v192 = v188 then if v188 = 0 then if (lg_cmp (gl M191 121 0) (Int32.toInt64 v190)) = 0 then flaw_b1999 N xs (flaw N xs n) M191 x4 else some (M191, .inr (some (.int 0))) else flaw_b1999 N xs (flaw N xs n) M191 x4 else some (M191, .inr (some (.int 0)))) (fun _ _ => none)) (fun _ _ => none)))) (fun _ _ => none))) else if ((xs (ix x4)) &&& 63) = 36 then cV (fX11_forget M) (fun M193 => cV (fX12_forget M193) (fun M195 => flaw_b2209 N xs (flaw N xs n) M195 x4) (fun _ _ => none)) (fun _ _ => none) else if ((xs (ix x4)) &&& 63) = 37 then chk (inb (x4 + 1) N) (chk (inb (x4 + 2) N) (chk (inb (x4 + 3) N) (chk (inb (x4 + 4) N) (cI (fL_game M (xs (ix (x4 + 1))) (xs (ix (x4 + 2))) (xs (ix (x4 + 3))) (xs (ix (x4 + 4)))) (fun M197 v198 => chk (inb (x4 + 1) N) (chk (inb (x4 + 2) N) (chk (inb (x4 + 3) N) (chk (inb (x4 + 4) N) (cI (fX12_game M197 (xs (ix (x4 + 1))) (xs (ix (x4 + 2))) (xs (ix (x4 + 3))) (xs (ix (x4 + 4)))) (fun M199 v200 => cI (fX12_thrown M199) (fun M201 v202 => if v202 = v198 then if v198 = 0 then if (lg_cmp (gl M201 121 0) (Int32.toInt64 v200)) = 0 then flaw_b2102 N xs (flaw N xs n) M201 x4 else some (M201, .inr (some (.int 0))) else flaw_b2102 N xs (flaw N xs n) M201 x4 else some (M201, .inr (some (.int 0)))) (fun _ _ => none)) (fun _ _ => none)))))) (fun _ _ => none))))) else if ((xs (ix x4)) &&& 63) = 38 then chk (inb (x4 + 1) N) (chk (inb (x4 + 2) N) (chk (inb (x4 + 3) N) (cI (fL_founders M (xs (ix (x4 + 1))) (xs (ix (x4 + 2))) (xs (ix (x4 + 3)))) (fun M203 v204 => chk (inb (x4 + 1) N) (chk (inb (x4 + 2) N) (chk (inb (x4 + 3) N) (cI (fX12_founders M203 (xs (ix (x4 + 1))) (xs (ix (x4 + 2))) (xs (ix (x4 + 3)))) (fun M205 v206 => cI (fX12_thrown M205) (fun M207 v208 => if v208 = v204 then if v204 = 0 then if (lg_cmp (gl M207 121 0) (Int32.toInt64 v206)) = 0 then flaw_b2182 N xs (flaw N xs n) M207 x4 else some (M207, .inr (some (.int 0))) else flaw_b2182 N xs (flaw N xs n) M207 x4 else some (M207, .inr (some (.int 0)))) (fun _ _ => none)) (fun _ _ => none))))) (fun _ _ => none)))) else if ((xs (ix x4)) &&& 63) = 39 then cV (fX11_image M) (fun M209 => cV (fX12_image M209) (fun M211 => flaw_b2209 N xs (flaw N xs n) M211 x4) (fun _ _ => none)) (fun _ _ => none) else if ((xs (ix x4)) &&& 63) = 40 then cI (fX11_restore M) (fun M213 v214 => cI (fX12_restore M213) (fun M215 v216 => if v214 = v216 then flaw_b2209 N xs (flaw N xs n) M215 x4 else some (M215, .inr (some (.int 0)))) (fun _ _ => none)) (fun _ _ => none) else flaw_b2209 N xs (flaw N xs n) M x4)
set_option maxRecDepth 4000 in
theorem Slaw (b N : Nat) (xs : Nat → Int32) (n : Nat) : ∀ (kc ks : Nat), kc + 5 * n ≤ 601024 → ks + 30 * n ≤ 7293034 → ∀ (M : Mem) (x4 : Int32), GX (BXL b N xs) room_1 QXL miLaw kc ks 23 [(0, .ref (1000 + 33)), (1, .ref 0), (2, .ref 87), (3, .ref 121), (4, .int x4)] [] M (flaw N xs n M x4) := by
  induction n with
  | zero => intro kc ks _ _ M x4; exact GX.none
  | succ n ih =>
    intro kc ks hc0 hs0 M x4
    have hc : kc + 5 ≤ 601024 := by omega
    have hs : ks + 30 ≤ 7293034 := by omega
    have hrec23 := ih (kc + 5) (ks + 30) (by omega) (by omega)
    show GX (BXL b N xs) room_1 QXL miLaw kc ks 23 [(0, .ref (1000 + 33)), (1, .ref 0), (2, .ref 87), (3, .ref 121), (4, .int x4)] [] M (if ((Int32.ofNat N) - 6) < x4 then some (M, .inr (some (.int 1))) else chk (inb x4 N) (if ((xs (ix x4)) &&& 63) = 0 then chk (inb (x4 + 1) N) (chk (inb (x4 + 2) N) (chk (inb (x4 + 3) N) (chk (inb (x4 + 4) N) (chk (inb (x4 + 5) N) (cI (fX11_feed M (xs (ix (x4 + 1))) (xs (ix (x4 + 2))) (xs (ix (x4 + 3))) (xs (ix (x4 + 4))) (xs (ix (x4 + 5)))) (fun M1 v2 => chk (inb (x4 + 1) N) (chk (inb (x4 + 2) N) (chk (inb (x4 + 3) N) (chk (inb (x4 + 4) N) (chk (inb (x4 + 5) N) (cI (fX12_feed M1 (xs (ix (x4 + 1))) (xs (ix (x4 + 2))) (xs (ix (x4 + 3))) (xs (ix (x4 + 4))) (xs (ix (x4 + 5)))) (fun M3 v4 => if v2 = v4 then flaw_b2209 N xs (flaw N xs n) M3 x4 else some (M3, .inr (some (.int 0)))) (fun _ _ => none))))))) (fun _ _ => none)))))) else if ((xs (ix x4)) &&& 63) = 1 then chk (inb (x4 + 1) N) (cI (fL_island M (xs (ix (x4 + 1)))) (fun M5 v6 => chk (inb (x4 + 1) N) (cI (fX12_island M5 (xs (ix (x4 + 1)))) (fun M7 v8 => cI (fX12_thrown M7) (fun M9 v10 => if v10 = v6 then if v6 = 0 then if (lg_cmp (gl M9 121 0) (Int32.toInt64 v8)) = 0 then flaw_b346 N xs (flaw N xs n) M9 x4 else some (M9, .inr (some (.int 0))) else flaw_b346 N xs (flaw N xs n) M9 x4 else some (M9, .inr (some (.int 0)))) (fun _ _ => none)) (fun _ _ => none))) (fun _ _ => none)) else if ((xs (ix x4)) &&& 63) = 2 then cI (fX11_fault M) (fun M11 v12 => cI (fX12_fault M11) (fun M13 v14 => if v12 = v14 then flaw_b2209 N xs (flaw N xs n) M13 x4 else some (M13, .inr (some (.int 0)))) (fun _ _ => none)) (fun _ _ => none) else if ((xs (ix x4)) &&& 63) = 3 then chk (inb (x4 + 1) N) (cI (fL_count M (xs (ix (x4 + 1)))) (fun M15 v16 => chk (inb (x4 + 1) N) (cI (fX12_count M15 (xs (ix (x4 + 1)))) (fun M17 v18 => cI (fX12_thrown M17) (fun M19 v20 => if v20 = v16 then if v16 = 0 then if (lg_cmp (gl M19 121 0) (Int32.toInt64 v18)) = 0 then flaw_b415 N xs (flaw N xs n) M19 x4 else some (M19, .inr (some (.int 0))) else flaw_b415 N xs (flaw N xs n) M19 x4 else some (M19, .inr (some (.int 0)))) (fun _ _ => none)) (fun _ _ => none))) (fun _ _ => none)) else if ((xs (ix x4)) &&& 63) = 4 then chk (inb (x4 + 1) N) (chk (inb (x4 + 2) N) (cI (fL_house M (xs (ix (x4 + 1))) (xs (ix (x4 + 2)))) (fun M21 v22 => chk (inb (x4 + 1) N) (chk (inb (x4 + 2) N) (cI (fX12_house M21 (xs (ix (x4 + 1))) (xs (ix (x4 + 2)))) (fun M23 v24 => cI (fX12_thrown M23) (fun M25 v26 => if v26 = v22 then if v22 = 0 then if (lg_cmp (gl M25 121 0) (Int32.toInt64 v24)) = 0 then flaw_b483 N xs (flaw N xs n) M25 x4 else some (M25, .inr (some (.int 0))) else flaw_b483 N xs (flaw N xs n) M25 x4 else some (M25, .inr (some (.int 0)))) (fun _ _ => none)) (fun _ _ => none)))) (fun _ _ => none))) else if ((xs (ix x4)) &&& 63) = 5 then chk (inb (x4 + 1) N) (chk (inb (x4 + 2) N) (cI (fL_plot M (xs (ix (x4 + 1))) (xs (ix (x4 + 2)))) (fun M27 v28 => chk (inb (x4 + 1) N) (chk (inb (x4 + 2) N) (cI (fX12_plot M27 (xs (ix (x4 + 1))) (xs (ix (x4 + 2)))) (fun M29 v30 => cI (fX12_thrown M29) (fun M31 v32 => if v32 = v28 then if v28 = 0 then if (lg_cmp (gl M31 121 0) (Int32.toInt64 v30)) = 0 then flaw_b551 N xs (flaw N xs n) M31 x4 else some (M31, .inr (some (.int 0))) else flaw_b551 N xs (flaw N xs n) M31 x4 else some (M31, .inr (some (.int 0)))) (fun _ _ => none)) (fun _ _ => none)))) (fun _ _ => none))) else if ((xs (ix x4)) &&& 63) = 6 then chk (inb (x4 + 1) N) (chk (inb (x4 + 2) N) (cI (fL_worth M (xs (ix (x4 + 1))) (xs (ix (x4 + 2)))) (fun M33 v34 => chk (inb (x4 + 1) N) (chk (inb (x4 + 2) N) (cI (fX12_worth M33 (xs (ix (x4 + 1))) (xs (ix (x4 + 2)))) (fun M35 v36 => cI (fX12_thrown M35) (fun M37 v38 => if v38 = v34 then if v34 = 0 then if (lg_cmp (gl M37 121 0) (Int32.toInt64 v36)) = 0 then flaw_b619 N xs (flaw N xs n) M37 x4 else some (M37, .inr (some (.int 0))) else flaw_b619 N xs (flaw N xs n) M37 x4 else some (M37, .inr (some (.int 0)))) (fun _ _ => none)) (fun _ _ => none)))) (fun _ _ => none))) else if ((xs (ix x4)) &&& 63) = 7 then chk (inb (x4 + 1) N) (chk (inb (x4 + 2) N) (chk (inb (x4 + 3) N) (cI (fL_harvest M (xs (ix (x4 + 1))) (xs (ix (x4 + 2))) (xs (ix (x4 + 3)))) (fun M39 v40 => chk (inb (x4 + 1) N) (chk (inb (x4 + 2) N) (chk (inb (x4 + 3) N) (cI (fX12_harvest M39 (xs (ix (x4 + 1))) (xs (ix (x4 + 2))) (xs (ix (x4 + 3)))) (fun M41 v42 => cI (fX12_thrown M41) (fun M43 v44 => if v44 = v40 then if v40 = 0 then if (lg_cmp (gl M43 121 0) (Int32.toInt64 v42)) = 0 then flaw_b699 N xs (flaw N xs n) M43 x4 else some (M43, .inr (some (.int 0))) else flaw_b699 N xs (flaw N xs n) M43 x4 else some (M43, .inr (some (.int 0)))) (fun _ _ => none)) (fun _ _ => none))))) (fun _ _ => none)))) else if ((xs (ix x4)) &&& 63) = 8 then chk (inb (x4 + 1) N) (cI (fX11_lots M (xs (ix (x4 + 1)))) (fun M45 v46 => chk (inb (x4 + 1) N) (cI (fX12_lots M45 (xs (ix (x4 + 1)))) (fun M47 v48 => if v46 = v48 then flaw_b2209 N xs (flaw N xs n) M47 x4 else some (M47, .inr (some (.int 0)))) (fun _ _ => none))) (fun _ _ => none)) else if ((xs (ix x4)) &&& 63) = 9 then chk (inb (x4 + 1) N) (cI (fL_turn M (xs (ix (x4 + 1)))) (fun M49 v50 => chk (inb (x4 + 1) N) (cI (fX12_turn M49 (xs (ix (x4 + 1)))) (fun M51 v52 => cI (fX12_thrown M51) (fun M53 v54 => if v54 = v50 then if v50 = 0 then if (lg_cmp (gl M53 121 0) (Int32.toInt64 v52)) = 0 then flaw_b780 N xs (flaw N xs n) M53 x4 else some (M53, .inr (some (.int 0))) else flaw_b780 N xs (flaw N xs n) M53 x4 else some (M53, .inr (some (.int 0)))) (fun _ _ => none)) (fun _ _ => none))) (fun _ _ => none)) else if ((xs (ix x4)) &&& 63) = 10 then chk (inb (x4 + 1) N) (chk (inb (x4 + 2) N) (cI (fL_order M (xs (ix (x4 + 1))) (xs (ix (x4 + 2)))) (fun M55 v56 => chk (inb (x4 + 1) N) (chk (inb (x4 + 2) N) (cI (fX12_order M55 (xs (ix (x4 + 1))) (xs (ix (x4 + 2)))) (fun M57 v58 => cI (fX12_thrown M57) (fun M59 v60 => if v60 = v56 then if v56 = 0 then if (lg_cmp (gl M59 121 0) (Int32.toInt64 v58)) = 0 then flaw_b848 N xs (flaw N xs n) M59 x4 else some (M59, .inr (some (.int 0))) else flaw_b848 N xs (flaw N xs n) M59 x4 else some (M59, .inr (some (.int 0)))) (fun _ _ => none)) (fun _ _ => none)))) (fun _ _ => none))) else if ((xs (ix x4)) &&& 63) = 11 then chk (inb (x4 + 1) N) (chk (inb (x4 + 2) N) (cI (fL_exchange M (xs (ix (x4 + 1))) (xs (ix (x4 + 2)))) (fun M61 v62 => chk (inb (x4 + 1) N) (chk (inb (x4 + 2) N) (cI (fX12_exchange M61 (xs (ix (x4 + 1))) (xs (ix (x4 + 2)))) (fun M63 v64 => cI (fX12_thrown M63) (fun M65 v66 => if v66 = v62 then if v62 = 0 then if v64 = 0 then flaw_b917 N xs (flaw N xs n) M65 x4 0 (gl M65 121 0) else flaw_b917 N xs (flaw N xs n) M65 x4 1 (gl M65 121 0) else flaw_b923 N xs (flaw N xs n) M65 x4 else some (M65, .inr (some (.int 0)))) (fun _ _ => none)) (fun _ _ => none)))) (fun _ _ => none))) else if ((xs (ix x4)) &&& 63) = 12 then chk (inb (x4 + 1) N) (chk (inb (x4 + 2) N) (cI (fX11_market M (xs (ix (x4 + 1))) (xs (ix (x4 + 2)))) (fun M67 v68 => chk (inb (x4 + 1) N) (chk (inb (x4 + 2) N) (cI (fX12_market M67 (xs (ix (x4 + 1))) (xs (ix (x4 + 2)))) (fun M69 v70 => if v68 = v70 then flaw_b2209 N xs (flaw N xs n) M69 x4 else some (M69, .inr (some (.int 0)))) (fun _ _ => none)))) (fun _ _ => none))) else if ((xs (ix x4)) &&& 63) = 13 then chk (inb (x4 + 1) N) (cI (fX11_years M (xs (ix (x4 + 1)))) (fun M71 v72 => chk (inb (x4 + 1) N) (cI (fX12_years M71 (xs (ix (x4 + 1)))) (fun M73 v74 => if v72 = v74 then flaw_b2209 N xs (flaw N xs n) M73 x4 else some (M73, .inr (some (.int 0)))) (fun _ _ => none))) (fun _ _ => none)) else if ((xs (ix x4)) &&& 63) = 14 then cI (fX11_undo M) (fun M75 v76 => cI (fX12_undo M75) (fun M77 v78 => if v76 = v78 then flaw_b2209 N xs (flaw N xs n) M77 x4 else some (M77, .inr (some (.int 0)))) (fun _ _ => none)) (fun _ _ => none) else if ((xs (ix x4)) &&& 63) = 15 then cI (fX11_ring M) (fun M79 v80 => cI (fX12_ring M79) (fun M81 v82 => if v80 = v82 then flaw_b2209 N xs (flaw N xs n) M81 x4 else some (M81, .inr (some (.int 0)))) (fun _ _ => none)) (fun _ _ => none) else if ((xs (ix x4)) &&& 63) = 16 then chk (inb (x4 + 1) N) (cI (fL_best M (xs (ix (x4 + 1)))) (fun M83 v84 => chk (inb (x4 + 1) N) (cL (fX12_best M83 (xs (ix (x4 + 1)))) (fun M85 v86 => cI (fX12_thrown M85) (fun M87 v88 => if v88 = v84 then if v84 = 0 then if (lg_cmp (gl M87 121 0) v86) = 0 then flaw_b1066 N xs (flaw N xs n) M87 x4 else some (M87, .inr (some (.int 0))) else flaw_b1066 N xs (flaw N xs n) M87 x4 else some (M87, .inr (some (.int 0)))) (fun _ _ => none)) (fun _ _ => none))) (fun _ _ => none)) else if ((xs (ix x4)) &&& 63) = 17 then chk (inb (x4 + 1) N) (cI (fL_fairest M (xs (ix (x4 + 1)))) (fun M89 v90 => chk (inb (x4 + 1) N) (cI (fX12_fairest M89 (xs (ix (x4 + 1)))) (fun M91 v92 => cI (fX12_thrown M91) (fun M93 v94 => if v94 = v90 then if v90 = 0 then if (lg_cmp (gl M93 121 0) (Int32.toInt64 v92)) = 0 then flaw_b1122 N xs (flaw N xs n) M93 x4 else some (M93, .inr (some (.int 0))) else flaw_b1122 N xs (flaw N xs n) M93 x4 else some (M93, .inr (some (.int 0)))) (fun _ _ => none)) (fun _ _ => none))) (fun _ _ => none)) else if ((xs (ix x4)) &&& 63) = 18 then cI (fX11_tribes M) (fun M95 v96 => cI (fX12_tribes M95) (fun M97 v98 => if v96 = v98 then flaw_b2209 N xs (flaw N xs n) M97 x4 else some (M97, .inr (some (.int 0)))) (fun _ _ => none)) (fun _ _ => none) else if ((xs (ix x4)) &&& 63) = 19 then cI (fX11_middle M) (fun M99 v100 => cI (fX12_middle M99) (fun M101 v102 => if v100 = v102 then flaw_b2209 N xs (flaw N xs n) M101 x4 else some (M101, .inr (some (.int 0)))) (fun _ _ => none)) (fun _ _ => none) else if ((xs (ix x4)) &&& 63) = 20 then chk (inb (x4 + 1) N) (chk (inb (x4 + 2) N) (cI (fL_then M (xs (ix (x4 + 1))) (xs (ix (x4 + 2)))) (fun M103 v104 => chk (inb (x4 + 1) N) (chk (inb (x4 + 2) N) (cI (fX12_then M103 (xs (ix (x4 + 1))) (xs (ix (x4 + 2)))) (fun M105 v106 => cI (fX12_thrown M105) (fun M107 v108 => if v108 = v104 then if v104 = 0 then if (lg_cmp (gl M107 121 0) (Int32.toInt64 v106)) = 0 then flaw_b1216 N xs (flaw N xs n) M107 x4 else some (M107, .inr (some (.int 0))) else flaw_b1216 N xs (flaw N xs n) M107 x4 else some (M107, .inr (some (.int 0)))) (fun _ _ => none)) (fun _ _ => none)))) (fun _ _ => none))) else if ((xs (ix x4)) &&& 63) = 21 then chk (inb (x4 + 1) N) (cI (fL_starves M (xs (ix (x4 + 1)))) (fun M109 v110 => chk (inb (x4 + 1) N) (cI (fX12_starves M109 (xs (ix (x4 + 1)))) (fun M111 v112 => cI (fX12_thrown M111) (fun M113 v114 => if v114 = v110 then if v110 = 0 then if (lg_cmp (gl M113 121 0) (Int32.toInt64 v112)) = 0 then flaw_b1272 N xs (flaw N xs n) M113 x4 else some (M113, .inr (some (.int 0))) else flaw_b1272 N xs (flaw N xs n) M113 x4 else some (M113, .inr (some (.int 0)))) (fun _ _ => none)) (fun _ _ => none))) (fun _ _ => none)) else if ((xs (ix x4)) &&& 63) = 22 then chk (inb (x4 + 1) N) (cI (fL_tithes M (xs (ix (x4 + 1)))) (fun M115 v116 => chk (inb (x4 + 1) N) (cI (fX12_tithes M115 (xs (ix (x4 + 1)))) (fun M117 v118 => cI (fX12_thrown M117) (fun M119 v120 => if v120 = v116 then if v116 = 0 then if (lg_cmp (gl M119 121 0) (Int32.toInt64 v118)) = 0 then flaw_b1328 N xs (flaw N xs n) M119 x4 else some (M119, .inr (some (.int 0))) else flaw_b1328 N xs (flaw N xs n) M119 x4 else some (M119, .inr (some (.int 0)))) (fun _ _ => none)) (fun _ _ => none))) (fun _ _ => none)) else if ((xs (ix x4)) &&& 63) = 23 then cI (fX11_holdsOut M) (fun M121 v122 => cI (fX12_holdsOut M121) (fun M123 v124 => if v122 = v124 then flaw_b2209 N xs (flaw N xs n) M123 x4 else some (M123, .inr (some (.int 0)))) (fun _ _ => none)) (fun _ _ => none) else if ((xs (ix x4)) &&& 63) = 24 then chk (inb (x4 + 1) N) (chk (inb (x4 + 2) N) (cI (fL_lotsFor M (xs (ix (x4 + 1))) (xs (ix (x4 + 2)))) (fun M125 v126 => chk (inb (x4 + 1) N) (chk (inb (x4 + 2) N) (cI (fX12_lotsFor M125 (xs (ix (x4 + 1))) (xs (ix (x4 + 2)))) (fun M127 v128 => cI (fX12_thrown M127) (fun M129 v130 => if v130 = v126 then if v126 = 0 then if (lg_cmp (gl M129 121 0) (Int32.toInt64 v128)) = 0 then flaw_b1409 N xs (flaw N xs n) M129 x4 else some (M129, .inr (some (.int 0))) else flaw_b1409 N xs (flaw N xs n) M129 x4 else some (M129, .inr (some (.int 0)))) (fun _ _ => none)) (fun _ _ => none)))) (fun _ _ => none))) else if ((xs (ix x4)) &&& 63) = 25 then chk (inb (x4 + 1) N) (cI (fL_change M (xs (ix (x4 + 1)))) (fun M131 v132 => chk (inb (x4 + 1) N) (cI (fX12_change M131 (xs (ix (x4 + 1)))) (fun M133 v134 => cI (fX12_thrown M133) (fun M135 v136 => if v136 = v132 then if v132 = 0 then if (lg_cmp (gl M135 121 0) (Int32.toInt64 v134)) = 0 then flaw_b1465 N xs (flaw N xs n) M135 x4 else some (M135, .inr (some (.int 0))) else flaw_b1465 N xs (flaw N xs n) M135 x4 else some (M135, .inr (some (.int 0)))) (fun _ _ => none)) (fun _ _ => none))) (fun _ _ => none)) else if ((xs (ix x4)) &&& 63) = 26 then chk (inb (x4 + 1) N) (cI (fL_envied M (xs (ix (x4 + 1)))) (fun M137 v138 => chk (inb (x4 + 1) N) (cI (fX12_envied M137 (xs (ix (x4 + 1)))) (fun M139 v140 => cI (fX12_thrown M139) (fun M141 v142 => if v142 = v138 then if v138 = 0 then if (lg_cmp (gl M141 121 0) (Int32.toInt64 v140)) = 0 then flaw_b1521 N xs (flaw N xs n) M141 x4 else some (M141, .inr (some (.int 0))) else flaw_b1521 N xs (flaw N xs n) M141 x4 else some (M141, .inr (some (.int 0)))) (fun _ _ => none)) (fun _ _ => none))) (fun _ _ => none)) else if ((xs (ix x4)) &&& 63) = 27 then chk (inb (x4 + 1) N) (chk (inb (x4 + 2) N) (cI (fL_without M (xs (ix (x4 + 1))) (xs (ix (x4 + 2)))) (fun M143 v144 => chk (inb (x4 + 1) N) (chk (inb (x4 + 2) N) (cI (fX12_without M143 (xs (ix (x4 + 1))) (xs (ix (x4 + 2)))) (fun M145 v146 => cI (fX12_thrown M145) (fun M147 v148 => if v148 = v144 then if v144 = 0 then if (lg_cmp (gl M147 121 0) (Int32.toInt64 v146)) = 0 then flaw_b1589 N xs (flaw N xs n) M147 x4 else some (M147, .inr (some (.int 0))) else flaw_b1589 N xs (flaw N xs n) M147 x4 else some (M147, .inr (some (.int 0)))) (fun _ _ => none)) (fun _ _ => none)))) (fun _ _ => none))) else if ((xs (ix x4)) &&& 63) = 28 then chk (inb (x4 + 1) N) (cI (fL_lastPlace M (xs (ix (x4 + 1)))) (fun M149 v150 => chk (inb (x4 + 1) N) (cI (fX12_lastPlace M149 (xs (ix (x4 + 1)))) (fun M151 v152 => cI (fX12_thrown M151) (fun M153 v154 => if v154 = v150 then if v150 = 0 then if (lg_cmp (gl M153 121 0) (Int32.toInt64 v152)) = 0 then flaw_b1645 N xs (flaw N xs n) M153 x4 else some (M153, .inr (some (.int 0))) else flaw_b1645 N xs (flaw N xs n) M153 x4 else some (M153, .inr (some (.int 0)))) (fun _ _ => none)) (fun _ _ => none))) (fun _ _ => none)) else if ((xs (ix x4)) &&& 63) = 29 then chk (inb (x4 + 1) N) (cI (fL_famine M (xs (ix (x4 + 1)))) (fun M155 v156 => chk (inb (x4 + 1) N) (cI (fX12_famine M155 (xs (ix (x4 + 1)))) (fun M157 v158 => cI (fX12_thrown M157) (fun M159 v160 => if v160 = v156 then if v156 = 0 then if (lg_cmp (gl M159 121 0) (Int32.toInt64 v158)) = 0 then flaw_b1701 N xs (flaw N xs n) M159 x4 else some (M159, .inr (some (.int 0))) else flaw_b1701 N xs (flaw N xs n) M159 x4 else some (M159, .inr (some (.int 0)))) (fun _ _ => none)) (fun _ _ => none))) (fun _ _ => none)) else if ((xs (ix x4)) &&& 63) = 30 then chk (inb (x4 + 1) N) (chk (inb (x4 + 2) N) (cI (fL_bushels M (xs (ix (x4 + 1))) (xs (ix (x4 + 2)))) (fun M161 v162 => chk (inb (x4 + 1) N) (chk (inb (x4 + 2) N) (cI (fX12_bushels M161 (xs (ix (x4 + 1))) (xs (ix (x4 + 2)))) (fun M163 v164 => cI (fX12_thrown M163) (fun M165 v166 => if v166 = v162 then if v162 = 0 then if (lg_cmp (gl M165 121 0) (Int32.toInt64 v164)) = 0 then flaw_b1769 N xs (flaw N xs n) M165 x4 else some (M165, .inr (some (.int 0))) else flaw_b1769 N xs (flaw N xs n) M165 x4 else some (M165, .inr (some (.int 0)))) (fun _ _ => none)) (fun _ _ => none)))) (fun _ _ => none))) else if ((xs (ix x4)) &&& 63) = 31 then cI (fX11_free M) (fun M167 v168 => cI (fX12_free M167) (fun M169 v170 => if v168 = v170 then flaw_b2209 N xs (flaw N xs n) M169 x4 else some (M169, .inr (some (.int 0)))) (fun _ _ => none)) (fun _ _ => none) else if ((xs (ix x4)) &&& 63) = 32 then chk (inb (x4 + 1) N) (cI (fL_richest M (xs (ix (x4 + 1)))) (fun M171 v172 => chk (inb (x4 + 1) N) (cI (fX12_richest M171 (xs (ix (x4 + 1)))) (fun M173 v174 => cI (fX12_thrown M173) (fun M175 v176 => if v176 = v172 then if v172 = 0 then if (lg_cmp (gl M175 121 0) (Int32.toInt64 v174)) = 0 then flaw_b1838 N xs (flaw N xs n) M175 x4 else some (M175, .inr (some (.int 0))) else flaw_b1838 N xs (flaw N xs n) M175 x4 else some (M175, .inr (some (.int 0)))) (fun _ _ => none)) (fun _ _ => none))) (fun _ _ => none)) else if ((xs (ix x4)) &&& 63) = 33 then chk (inb (x4 + 1) N) (chk (inb (x4 + 2) N) (chk (inb (x4 + 3) N) (cI (fL_see M (xs (ix (x4 + 1))) (xs (ix (x4 + 2))) (xs (ix (x4 + 3)))) (fun M177 v178 => chk (inb (x4 + 1) N) (chk (inb (x4 + 2) N) (chk (inb (x4 + 3) N) (cI (fX12_see M177 (xs (ix (x4 + 1))) (xs (ix (x4 + 2))) (xs (ix (x4 + 3)))) (fun M179 v180 => cI (fX12_thrown M179) (fun M181 v182 => if v182 = v178 then if v178 = 0 then if (lg_cmp (gl M181 121 0) (Int32.toInt64 v180)) = 0 then flaw_b1918 N xs (flaw N xs n) M181 x4 else some (M181, .inr (some (.int 0))) else flaw_b1918 N xs (flaw N xs n) M181 x4 else some (M181, .inr (some (.int 0)))) (fun _ _ => none)) (fun _ _ => none))))) (fun _ _ => none)))) else if ((xs (ix x4)) &&& 63) = 34 then cI (fX11_brothers M) (fun M183 v184 => cI (fX12_brothers M183) (fun M185 v186 => if v184 = v186 then flaw_b2209 N xs (flaw N xs n) M185 x4 else some (M185, .inr (some (.int 0)))) (fun _ _ => none)) (fun _ _ => none) else if ((xs (ix x4)) &&& 63) = 35 then chk (inb (x4 + 1) N) (chk (inb (x4 + 2) N) (cI (fL_look M (xs (ix (x4 + 1))) (xs (ix (x4 + 2)))) (fun M187 v188 => chk (inb (x4 + 1) N) (chk (inb (x4 + 2) N) (cI (fX12_look M187 (xs (ix (x4 + 1))) (xs (ix (x4 + 2)))) (fun M189 v190 => cI (fX12_thrown M189) (fun M191 v192 => if v192 = v188 then if v188 = 0 then if (lg_cmp (gl M191 121 0) (Int32.toInt64 v190)) = 0 then flaw_b1999 N xs (flaw N xs n) M191 x4 else some (M191, .inr (some (.int 0))) else flaw_b1999 N xs (flaw N xs n) M191 x4 else some (M191, .inr (some (.int 0)))) (fun _ _ => none)) (fun _ _ => none)))) (fun _ _ => none))) else if ((xs (ix x4)) &&& 63) = 36 then cV (fX11_forget M) (fun M193 => cV (fX12_forget M193) (fun M195 => flaw_b2209 N xs (flaw N xs n) M195 x4) (fun _ _ => none)) (fun _ _ => none) else if ((xs (ix x4)) &&& 63) = 37 then chk (inb (x4 + 1) N) (chk (inb (x4 + 2) N) (chk (inb (x4 + 3) N) (chk (inb (x4 + 4) N) (cI (fL_game M (xs (ix (x4 + 1))) (xs (ix (x4 + 2))) (xs (ix (x4 + 3))) (xs (ix (x4 + 4)))) (fun M197 v198 => chk (inb (x4 + 1) N) (chk (inb (x4 + 2) N) (chk (inb (x4 + 3) N) (chk (inb (x4 + 4) N) (cI (fX12_game M197 (xs (ix (x4 + 1))) (xs (ix (x4 + 2))) (xs (ix (x4 + 3))) (xs (ix (x4 + 4)))) (fun M199 v200 => cI (fX12_thrown M199) (fun M201 v202 => if v202 = v198 then if v198 = 0 then if (lg_cmp (gl M201 121 0) (Int32.toInt64 v200)) = 0 then flaw_b2102 N xs (flaw N xs n) M201 x4 else some (M201, .inr (some (.int 0))) else flaw_b2102 N xs (flaw N xs n) M201 x4 else some (M201, .inr (some (.int 0)))) (fun _ _ => none)) (fun _ _ => none)))))) (fun _ _ => none))))) else if ((xs (ix x4)) &&& 63) = 38 then chk (inb (x4 + 1) N) (chk (inb (x4 + 2) N) (chk (inb (x4 + 3) N) (cI (fL_founders M (xs (ix (x4 + 1))) (xs (ix (x4 + 2))) (xs (ix (x4 + 3)))) (fun M203 v204 => chk (inb (x4 + 1) N) (chk (inb (x4 + 2) N) (chk (inb (x4 + 3) N) (cI (fX12_founders M203 (xs (ix (x4 + 1))) (xs (ix (x4 + 2))) (xs (ix (x4 + 3)))) (fun M205 v206 => cI (fX12_thrown M205) (fun M207 v208 => if v208 = v204 then if v204 = 0 then if (lg_cmp (gl M207 121 0) (Int32.toInt64 v206)) = 0 then flaw_b2182 N xs (flaw N xs n) M207 x4 else some (M207, .inr (some (.int 0))) else flaw_b2182 N xs (flaw N xs n) M207 x4 else some (M207, .inr (some (.int 0)))) (fun _ _ => none)) (fun _ _ => none))))) (fun _ _ => none)))) else if ((xs (ix x4)) &&& 63) = 39 then cV (fX11_image M) (fun M209 => cV (fX12_image M209) (fun M211 => flaw_b2209 N xs (flaw N xs n) M211 x4) (fun _ _ => none)) (fun _ _ => none) else if ((xs (ix x4)) &&& 63) = 40 then cI (fX11_restore M) (fun M213 v214 => cI (fX12_restore M213) (fun M215 v216 => if v214 = v216 then flaw_b2209 N xs (flaw N xs n) M215 x4 else some (M215, .inr (some (.int 0)))) (fun _ _ => none)) (fun _ _ => none) else flaw_b2209 N xs (flaw N xs n) M x4))
    refine x_iload 4 rfl dL_law_23 ?_
    refine x_aload_n 0 rfl rfl dL_law_25 ?_
    refine x_sln dL_law_26 ?_
    refine x_bipush (v := 6) (by decide) dL_law_27 ?_
    refine x_isub dL_law_29 ?_
    refine x_icmp_gt (tgt := 2215) rfl dL_law_30 (fun c => ?_) (fun c => ?_)
    · refine x_iconst (v := 1) (by decide) dL_law_2215 ?_
      exact l_ret1 dL_law_2216 (by omega) (by omega)
    · refine x_aload_n 0 rfl rfl dL_law_33 ?_
      refine x_iload 4 rfl dL_law_34 ?_
      refine x_sld dL_law_36 (fun _ => ?_)
      refine x_bipush (v := 63) (by decide) dL_law_37 ?_
      refine x_iand dL_law_39 ?_
      refine x_tabI (tgt := 220) (off := 180) 0 rfl (by decide) (by decide) (by decide) dL_law_40 ?_ (fun c0 => ?_)
      · refine x_aload_n 1 rfl rfl dL_law_220 ?_
        refine x_aload_n 0 rfl rfl dL_law_221 ?_
        refine x_iload 4 rfl dL_law_222 ?_
        refine x_iconst (v := 1) (by decide) dL_law_224 ?_
        refine x_iadd dL_law_225 ?_
        refine x_sld dL_law_226 (fun _ => ?_)
        refine x_aload_n 0 rfl rfl dL_law_227 ?_
        refine x_iload 4 rfl dL_law_228 ?_
        refine x_iconst (v := 2) (by decide) dL_law_230 ?_
        refine x_iadd dL_law_231 ?_
        refine x_sld dL_law_232 (fun _ => ?_)
        refine x_aload_n 0 rfl rfl dL_law_233 ?_
        refine x_iload 4 rfl dL_law_234 ?_
        refine x_iconst (v := 3) (by decide) dL_law_236 ?_
        refine x_iadd dL_law_237 ?_
        refine x_sld dL_law_238 (fun _ => ?_)
        refine x_aload_n 0 rfl rfl dL_law_239 ?_
        refine x_iload 4 rfl dL_law_240 ?_
        refine x_iconst (v := 4) (by decide) dL_law_242 ?_
        refine x_iadd dL_law_243 ?_
        refine x_sld dL_law_244 (fun _ => ?_)
        refine x_aload_n 0 rfl rfl dL_law_245 ?_
        refine x_iload 4 rfl dL_law_246 ?_
        refine x_iconst (v := 5) (by decide) dL_law_248 ?_
        refine x_iadd dL_law_249 ?_
        refine x_sld dL_law_250 (fun _ => ?_)
        refine x_callVI (y := miX11_feed) (As := [.int (xs (ix (x4 + 1))), .int (xs (ix (x4 + 2))), .int (xs (ix (x4 + 3))), .int (xs (ix (x4 + 4))), .int (xs (ix (x4 + 5)))]) (rest := []) clX11 kd_0 rfl moX11_feed rfl mlL_101 (by decide) ⟨by show _ ≤ 601024; omega, by show _ ≤ 7293034; omega⟩ (by simp [Value.category]) rfl dL_law_251 (SX11_feed  M (xs (ix (x4 + 1))) (xs (ix (x4 + 2))) (xs (ix (x4 + 3))) (xs (ix (x4 + 4))) (xs (ix (x4 + 5)))) (fun _ _ => XH.none) (fun M1 v2 => ?_)
        refine x_aload_n 2 rfl rfl dL_law_254 ?_
        refine x_aload_n 0 rfl rfl dL_law_255 ?_
        refine x_iload 4 rfl dL_law_256 ?_
        refine x_iconst (v := 1) (by decide) dL_law_258 ?_
        refine x_iadd dL_law_259 ?_
        refine x_sld dL_law_260 (fun _ => ?_)
        refine x_aload_n 0 rfl rfl dL_law_261 ?_
        refine x_iload 4 rfl dL_law_262 ?_
        refine x_iconst (v := 2) (by decide) dL_law_264 ?_
        refine x_iadd dL_law_265 ?_
        refine x_sld dL_law_266 (fun _ => ?_)
        refine x_aload_n 0 rfl rfl dL_law_267 ?_
        refine x_iload 4 rfl dL_law_268 ?_
        refine x_iconst (v := 3) (by decide) dL_law_270 ?_
        refine x_iadd dL_law_271 ?_
        refine x_sld dL_law_272 (fun _ => ?_)
        refine x_aload_n 0 rfl rfl dL_law_273 ?_
        refine x_iload 4 rfl dL_law_274 ?_
        refine x_iconst (v := 4) (by decide) dL_law_276 ?_
        refine x_iadd dL_law_277 ?_
        refine x_sld dL_law_278 (fun _ => ?_)
        refine x_aload_n 0 rfl rfl dL_law_279 ?_
        refine x_iload 4 rfl dL_law_280 ?_
        refine x_iconst (v := 5) (by decide) dL_law_282 ?_
        refine x_iadd dL_law_283 ?_
        refine x_sld dL_law_284 (fun _ => ?_)
        refine x_callVI (y := miX12_feed) (As := [.int (xs (ix (x4 + 1))), .int (xs (ix (x4 + 2))), .int (xs (ix (x4 + 3))), .int (xs (ix (x4 + 4))), .int (xs (ix (x4 + 5)))]) (rest := [.int v2]) clX12 kd_87 rfl moX12_feed rfl mlL_105 (by decide) ⟨by show _ ≤ 601024; omega, by show _ ≤ 7293034; omega⟩ (by simp [Value.category]) rfl dL_law_285 (SX12_feed  M1 (xs (ix (x4 + 1))) (xs (ix (x4 + 2))) (xs (ix (x4 + 3))) (xs (ix (x4 + 4))) (xs (ix (x4 + 5)))) (fun _ _ => XH.none) (fun M3 v4 => ?_)
        refine x_icmp_eq (tgt := 2209) rfl dL_law_288 (fun c => ?_) (fun c => ?_)
        · exact GX.pick [0, 1, 2, 3, 4] rfl <| GX.widen (k := kc + 5) (j := ks + 30) (by omega) (by omega) <| Slaw_b2209 b N xs kc ks hc hs  (flaw N xs n) hrec23 M3 x4
        · refine x_iconst (v := 0) (by decide) dL_law_291 ?_
          exact l_ret0 dL_law_292
      refine x_tabI (tgt := 293) (off := 253) 1 rfl (by decide) (by decide) (by decide) dL_law_40 ?_ (fun c1 => ?_)
      · refine x_aload_n 1 rfl rfl dL_law_293 ?_
        refine x_aload_n 0 rfl rfl dL_law_294 ?_
        refine x_iload 4 rfl dL_law_295 ?_
        refine x_iconst (v := 1) (by decide) dL_law_297 ?_
        refine x_iadd dL_law_298 ?_
        refine x_sld dL_law_299 (fun _ => ?_)
        refine x_aload_n 3 rfl rfl dL_law_300 ?_
        refine x_callSH (y := miL_island) (hh := [(0, 9, 12, 13)]) (As := [.ref 0, .int (xs (ix (x4 + 1))), .ref 121]) (rest := []) mhL_island rfl mlL_106 (by decide) ⟨by show _ ≤ 601024; omega, by show _ ≤ 7293034; omega⟩ (by simp [Value.category]) rfl dL_law_301 (SL_island  M (xs (ix (x4 + 1)))) (fun _ _ => XH.none) (fun M5 v6 => ?_)
        refine x_istore (L' := [(5, .int v6), (0, .ref (1000 + 33)), (1, .ref 0), (2, .ref 87), (3, .ref 121), (4, .int x4)]) (by decide) rfl dL_law_304 ?_
        refine x_aload_n 3 rfl rfl dL_law_306 ?_
        refine x_aload_n 1 rfl rfl dL_law_307 ?_
        refine x_iload 5 rfl dL_law_308 ?_
        refine x_iconst (v := 1) (by decide) dL_law_310 ?_
        refine x_iadd dL_law_311 ?_
        refine x_sld dL_law_312 (fun _ => ?_)
        refine x_callVI (y := miX12_island) (As := [.int (xs (ix (x4 + 1)))]) (rest := []) clX12 kd_87 rfl moX12_island rfl mlL_111 (by decide) ⟨by show _ ≤ 601024; omega, by show _ ≤ 7293034; omega⟩ (by simp [Value.category]) rfl dL_law_313 (SX12_island  M5 (xs (ix (x4 + 1)))) (fun _ _ => XH.none) (fun M7 v8 => ?_)
        refine x_istore (L' := [(6, .int v8), (5, .int v6), (0, .ref (1000 + 33)), (1, .ref 0), (2, .ref 87), (3, .ref 121), (4, .int x4)]) (by decide) rfl dL_law_316 ?_
        refine x_aload_n 4 rfl rfl dL_law_318 ?_
        refine x_callVI (y := miX12_thrown) (As := []) (rest := []) clX12 kd_87 rfl moX12_thrown rfl mlL_112 (by decide) ⟨by show _ ≤ 601024; omega, by show _ ≤ 7293034; omega⟩ (by simp [Value.category]) rfl dL_law_319 (SX12_thrown  M7) (fun _ _ => XH.none) (fun M9 v10 => ?_)
        refine x_iload 1 rfl dL_law_322 ?_
        refine x_icmp_eq (tgt := 329) rfl dL_law_324 (fun c => ?_) (fun c => ?_)
        · refine x_iload 1 rfl dL_law_329 ?_
          refine x_if_ne (tgt := 346) rfl dL_law_331 (fun c => ?_) (fun c => ?_)
          · exact GX.pick [2, 3, 4, 5, 6] rfl <| GX.widen (k := kc + 5) (j := ks + 30) (by omega) (by omega) <| Slaw_b346 b N xs kc ks hc hs  (flaw N xs n) hrec23 M9 x4
          · refine x_aload_n 5 rfl rfl dL_law_334 ?_
            refine x_iconst (v := 0) (by decide) dL_law_335 ?_
            refine x_laldL (j := 0) kd_121 (by decide) (by decide) dL_law_336 ?_
            refine x_iload 0 rfl dL_law_337 ?_
            refine x_i2l dL_law_339 ?_
            refine x_lcmp dL_law_340 ?_
            refine x_if_eq (tgt := 346) rfl dL_law_341 (fun c => ?_) (fun c => ?_)
            · exact GX.pick [2, 3, 4, 5, 6] rfl <| GX.widen (k := kc + 5) (j := ks + 30) (by omega) (by omega) <| Slaw_b346 b N xs kc ks hc hs  (flaw N xs n) hrec23 M9 x4
            · refine x_iconst (v := 0) (by decide) dL_law_344 ?_
              exact l_ret0 dL_law_345
        · refine x_iconst (v := 0) (by decide) dL_law_327 ?_
          exact l_ret0 dL_law_328
      refine x_tabI (tgt := 349) (off := 309) 2 rfl (by decide) (by decide) (by decide) dL_law_40 ?_ (fun c2 => ?_)
      · refine x_aload_n 1 rfl rfl dL_law_349 ?_
        refine x_callVI (y := miX11_fault) (As := []) (rest := []) clX11 kd_0 rfl moX11_fault rfl mlL_116 (by decide) ⟨by show _ ≤ 601024; omega, by show _ ≤ 7293034; omega⟩ (by simp [Value.category]) rfl dL_law_350 (SX11_fault  M) (fun _ _ => XH.none) (fun M11 v12 => ?_)
        refine x_aload_n 2 rfl rfl dL_law_353 ?_
        refine x_callVI (y := miX12_fault) (As := []) (rest := [.int v12]) clX12 kd_87 rfl moX12_fault rfl mlL_119 (by decide) ⟨by show _ ≤ 601024; omega, by show _ ≤ 7293034; omega⟩ (by simp [Value.category]) rfl dL_law_354 (SX12_fault  M11) (fun _ _ => XH.none) (fun M13 v14 => ?_)
        refine x_icmp_eq (tgt := 2209) rfl dL_law_357 (fun c => ?_) (fun c => ?_)
        · exact GX.pick [0, 1, 2, 3, 4] rfl <| GX.widen (k := kc + 5) (j := ks + 30) (by omega) (by omega) <| Slaw_b2209 b N xs kc ks hc hs  (flaw N xs n) hrec23 M13 x4
        · refine x_iconst (v := 0) (by decide) dL_law_360 ?_
          exact l_ret0 dL_law_361
      refine x_tabI (tgt := 362) (off := 322) 3 rfl (by decide) (by decide) (by decide) dL_law_40 ?_ (fun c3 => ?_)
      · refine x_aload_n 1 rfl rfl dL_law_362 ?_
        refine x_aload_n 0 rfl rfl dL_law_363 ?_
        refine x_iload 4 rfl dL_law_364 ?_
        refine x_iconst (v := 1) (by decide) dL_law_366 ?_
        refine x_iadd dL_law_367 ?_
        refine x_sld dL_law_368 (fun _ => ?_)
        refine x_aload_n 3 rfl rfl dL_law_369 ?_
        refine x_callSH (y := miL_count) (hh := [(0, 9, 12, 18)]) (As := [.ref 0, .int (xs (ix (x4 + 1))), .ref 121]) (rest := []) mhL_count rfl mlL_120 (by decide) ⟨by show _ ≤ 601024; omega, by show _ ≤ 7293034; omega⟩ (by simp [Value.category]) rfl dL_law_370 (SL_count  M (xs (ix (x4 + 1)))) (fun _ _ => XH.none) (fun M15 v16 => ?_)
        refine x_istore (L' := [(5, .int v16), (0, .ref (1000 + 33)), (1, .ref 0), (2, .ref 87), (3, .ref 121), (4, .int x4)]) (by decide) rfl dL_law_373 ?_
        refine x_aload_n 3 rfl rfl dL_law_375 ?_
        refine x_aload_n 1 rfl rfl dL_law_376 ?_
        refine x_iload 5 rfl dL_law_377 ?_
        refine x_iconst (v := 1) (by decide) dL_law_379 ?_
        refine x_iadd dL_law_380 ?_
        refine x_sld dL_law_381 (fun _ => ?_)
        refine x_callVI (y := miX12_count) (As := [.int (xs (ix (x4 + 1)))]) (rest := []) clX12 kd_87 rfl moX12_count rfl mlL_122 (by decide) ⟨by show _ ≤ 601024; omega, by show _ ≤ 7293034; omega⟩ (by simp [Value.category]) rfl dL_law_382 (SX12_count  M15 (xs (ix (x4 + 1)))) (fun _ _ => XH.none) (fun M17 v18 => ?_)
        refine x_istore (L' := [(6, .int v18), (5, .int v16), (0, .ref (1000 + 33)), (1, .ref 0), (2, .ref 87), (3, .ref 121), (4, .int x4)]) (by decide) rfl dL_law_385 ?_
        refine x_aload_n 4 rfl rfl dL_law_387 ?_
        refine x_callVI (y := miX12_thrown) (As := []) (rest := []) clX12 kd_87 rfl moX12_thrown rfl mlL_112 (by decide) ⟨by show _ ≤ 601024; omega, by show _ ≤ 7293034; omega⟩ (by simp [Value.category]) rfl dL_law_388 (SX12_thrown  M17) (fun _ _ => XH.none) (fun M19 v20 => ?_)
        refine x_iload 1 rfl dL_law_391 ?_
        refine x_icmp_eq (tgt := 398) rfl dL_law_393 (fun c => ?_) (fun c => ?_)
        · refine x_iload 1 rfl dL_law_398 ?_
          refine x_if_ne (tgt := 415) rfl dL_law_400 (fun c => ?_) (fun c => ?_)
          · exact GX.pick [2, 3, 4, 5, 6] rfl <| GX.widen (k := kc + 5) (j := ks + 30) (by omega) (by omega) <| Slaw_b415 b N xs kc ks hc hs  (flaw N xs n) hrec23 M19 x4
          · refine x_aload_n 5 rfl rfl dL_law_403 ?_
            refine x_iconst (v := 0) (by decide) dL_law_404 ?_
            refine x_laldL (j := 0) kd_121 (by decide) (by decide) dL_law_405 ?_
            refine x_iload 0 rfl dL_law_406 ?_
            refine x_i2l dL_law_408 ?_
            refine x_lcmp dL_law_409 ?_
            refine x_if_eq (tgt := 415) rfl dL_law_410 (fun c => ?_) (fun c => ?_)
            · exact GX.pick [2, 3, 4, 5, 6] rfl <| GX.widen (k := kc + 5) (j := ks + 30) (by omega) (by omega) <| Slaw_b415 b N xs kc ks hc hs  (flaw N xs n) hrec23 M19 x4
            · refine x_iconst (v := 0) (by decide) dL_law_413 ?_
              exact l_ret0 dL_law_414
        · refine x_iconst (v := 0) (by decide) dL_law_396 ?_
          exact l_ret0 dL_law_397
      refine x_tabI (tgt := 418) (off := 378) 4 rfl (by decide) (by decide) (by decide) dL_law_40 ?_ (fun c4 => ?_)
      · refine x_aload_n 1 rfl rfl dL_law_418 ?_
        refine x_aload_n 0 rfl rfl dL_law_419 ?_
        refine x_iload 4 rfl dL_law_420 ?_
        refine x_iconst (v := 1) (by decide) dL_law_422 ?_
        refine x_iadd dL_law_423 ?_
        refine x_sld dL_law_424 (fun _ => ?_)
        refine x_aload_n 0 rfl rfl dL_law_425 ?_
        refine x_iload 4 rfl dL_law_426 ?_
        refine x_iconst (v := 2) (by decide) dL_law_428 ?_
        refine x_iadd dL_law_429 ?_
        refine x_sld dL_law_430 (fun _ => ?_)
        refine x_aload_n 3 rfl rfl dL_law_431 ?_
        refine x_callSH (y := miL_house) (hh := [(0, 10, 13, 18)]) (As := [.ref 0, .int (xs (ix (x4 + 1))), .int (xs (ix (x4 + 2))), .ref 121]) (rest := []) mhL_house rfl mlL_123 (by decide) ⟨by show _ ≤ 601024; omega, by show _ ≤ 7293034; omega⟩ (by simp [Value.category]) rfl dL_law_432 (SL_house  M (xs (ix (x4 + 1))) (xs (ix (x4 + 2)))) (fun _ _ => XH.none) (fun M21 v22 => ?_)
        refine x_istore (L' := [(5, .int v22), (0, .ref (1000 + 33)), (1, .ref 0), (2, .ref 87), (3, .ref 121), (4, .int x4)]) (by decide) rfl dL_law_435 ?_
        refine x_aload_n 3 rfl rfl dL_law_437 ?_
        refine x_aload_n 1 rfl rfl dL_law_438 ?_
        refine x_iload 5 rfl dL_law_439 ?_
        refine x_iconst (v := 1) (by decide) dL_law_441 ?_
        refine x_iadd dL_law_442 ?_
        refine x_sld dL_law_443 (fun _ => ?_)
        refine x_aload_n 1 rfl rfl dL_law_444 ?_
        refine x_iload 5 rfl dL_law_445 ?_
        refine x_iconst (v := 2) (by decide) dL_law_447 ?_
        refine x_iadd dL_law_448 ?_
        refine x_sld dL_law_449 (fun _ => ?_)
        refine x_callVI (y := miX12_house) (As := [.int (xs (ix (x4 + 1))), .int (xs (ix (x4 + 2)))]) (rest := []) clX12 kd_87 rfl moX12_house rfl mlL_126 (by decide) ⟨by show _ ≤ 601024; omega, by show _ ≤ 7293034; omega⟩ (by simp [Value.category]) rfl dL_law_450 (SX12_house  M21 (xs (ix (x4 + 1))) (xs (ix (x4 + 2)))) (fun _ _ => XH.none) (fun M23 v24 => ?_)
        refine x_istore (L' := [(6, .int v24), (5, .int v22), (0, .ref (1000 + 33)), (1, .ref 0), (2, .ref 87), (3, .ref 121), (4, .int x4)]) (by decide) rfl dL_law_453 ?_
        refine x_aload_n 4 rfl rfl dL_law_455 ?_
        refine x_callVI (y := miX12_thrown) (As := []) (rest := []) clX12 kd_87 rfl moX12_thrown rfl mlL_112 (by decide) ⟨by show _ ≤ 601024; omega, by show _ ≤ 7293034; omega⟩ (by simp [Value.category]) rfl dL_law_456 (SX12_thrown  M23) (fun _ _ => XH.none) (fun M25 v26 => ?_)
        refine x_iload 1 rfl dL_law_459 ?_
        refine x_icmp_eq (tgt := 466) rfl dL_law_461 (fun c => ?_) (fun c => ?_)
        · refine x_iload 1 rfl dL_law_466 ?_
          refine x_if_ne (tgt := 483) rfl dL_law_468 (fun c => ?_) (fun c => ?_)
          · exact GX.pick [2, 3, 4, 5, 6] rfl <| GX.widen (k := kc + 5) (j := ks + 30) (by omega) (by omega) <| Slaw_b483 b N xs kc ks hc hs  (flaw N xs n) hrec23 M25 x4
          · refine x_aload_n 5 rfl rfl dL_law_471 ?_
            refine x_iconst (v := 0) (by decide) dL_law_472 ?_
            refine x_laldL (j := 0) kd_121 (by decide) (by decide) dL_law_473 ?_
            refine x_iload 0 rfl dL_law_474 ?_
            refine x_i2l dL_law_476 ?_
            refine x_lcmp dL_law_477 ?_
            refine x_if_eq (tgt := 483) rfl dL_law_478 (fun c => ?_) (fun c => ?_)
            · exact GX.pick [2, 3, 4, 5, 6] rfl <| GX.widen (k := kc + 5) (j := ks + 30) (by omega) (by omega) <| Slaw_b483 b N xs kc ks hc hs  (flaw N xs n) hrec23 M25 x4
            · refine x_iconst (v := 0) (by decide) dL_law_481 ?_
              exact l_ret0 dL_law_482
        · refine x_iconst (v := 0) (by decide) dL_law_464 ?_
          exact l_ret0 dL_law_465
      refine x_tabI (tgt := 486) (off := 446) 5 rfl (by decide) (by decide) (by decide) dL_law_40 ?_ (fun c5 => ?_)
      · refine x_aload_n 1 rfl rfl dL_law_486 ?_
        refine x_aload_n 0 rfl rfl dL_law_487 ?_
        refine x_iload 4 rfl dL_law_488 ?_
        refine x_iconst (v := 1) (by decide) dL_law_490 ?_
        refine x_iadd dL_law_491 ?_
        refine x_sld dL_law_492 (fun _ => ?_)
        refine x_aload_n 0 rfl rfl dL_law_493 ?_
        refine x_iload 4 rfl dL_law_494 ?_
        refine x_iconst (v := 2) (by decide) dL_law_496 ?_
        refine x_iadd dL_law_497 ?_
        refine x_sld dL_law_498 (fun _ => ?_)
        refine x_aload_n 3 rfl rfl dL_law_499 ?_
        refine x_callSH (y := miL_plot) (hh := [(0, 10, 13, 18)]) (As := [.ref 0, .int (xs (ix (x4 + 1))), .int (xs (ix (x4 + 2))), .ref 121]) (rest := []) mhL_plot rfl mlL_127 (by decide) ⟨by show _ ≤ 601024; omega, by show _ ≤ 7293034; omega⟩ (by simp [Value.category]) rfl dL_law_500 (SL_plot  M (xs (ix (x4 + 1))) (xs (ix (x4 + 2)))) (fun _ _ => XH.none) (fun M27 v28 => ?_)
        refine x_istore (L' := [(5, .int v28), (0, .ref (1000 + 33)), (1, .ref 0), (2, .ref 87), (3, .ref 121), (4, .int x4)]) (by decide) rfl dL_law_503 ?_
        refine x_aload_n 3 rfl rfl dL_law_505 ?_
        refine x_aload_n 1 rfl rfl dL_law_506 ?_
        refine x_iload 5 rfl dL_law_507 ?_
        refine x_iconst (v := 1) (by decide) dL_law_509 ?_
        refine x_iadd dL_law_510 ?_
        refine x_sld dL_law_511 (fun _ => ?_)
        refine x_aload_n 1 rfl rfl dL_law_512 ?_
        refine x_iload 5 rfl dL_law_513 ?_
        refine x_iconst (v := 2) (by decide) dL_law_515 ?_
        refine x_iadd dL_law_516 ?_
        refine x_sld dL_law_517 (fun _ => ?_)
        refine x_callVI (y := miX12_plot) (As := [.int (xs (ix (x4 + 1))), .int (xs (ix (x4 + 2)))]) (rest := []) clX12 kd_87 rfl moX12_plot rfl mlL_129 (by decide) ⟨by show _ ≤ 601024; omega, by show _ ≤ 7293034; omega⟩ (by simp [Value.category]) rfl dL_law_518 (SX12_plot  M27 (xs (ix (x4 + 1))) (xs (ix (x4 + 2)))) (fun _ _ => XH.none) (fun M29 v30 => ?_)
        refine x_istore (L' := [(6, .int v30), (5, .int v28), (0, .ref (1000 + 33)), (1, .ref 0), (2, .ref 87), (3, .ref 121), (4, .int x4)]) (by decide) rfl dL_law_521 ?_
        refine x_aload_n 4 rfl rfl dL_law_523 ?_
        refine x_callVI (y := miX12_thrown) (As := []) (rest := []) clX12 kd_87 rfl moX12_thrown rfl mlL_112 (by decide) ⟨by show _ ≤ 601024; omega, by show _ ≤ 7293034; omega⟩ (by simp [Value.category]) rfl dL_law_524 (SX12_thrown  M29) (fun _ _ => XH.none) (fun M31 v32 => ?_)
        refine x_iload 1 rfl dL_law_527 ?_
        refine x_icmp_eq (tgt := 534) rfl dL_law_529 (fun c => ?_) (fun c => ?_)
        · refine x_iload 1 rfl dL_law_534 ?_
          refine x_if_ne (tgt := 551) rfl dL_law_536 (fun c => ?_) (fun c => ?_)
          · exact GX.pick [2, 3, 4, 5, 6] rfl <| GX.widen (k := kc + 5) (j := ks + 30) (by omega) (by omega) <| Slaw_b551 b N xs kc ks hc hs  (flaw N xs n) hrec23 M31 x4
          · refine x_aload_n 5 rfl rfl dL_law_539 ?_
            refine x_iconst (v := 0) (by decide) dL_law_540 ?_
            refine x_laldL (j := 0) kd_121 (by decide) (by decide) dL_law_541 ?_
            refine x_iload 0 rfl dL_law_542 ?_
            refine x_i2l dL_law_544 ?_
            refine x_lcmp dL_law_545 ?_
            refine x_if_eq (tgt := 551) rfl dL_law_546 (fun c => ?_) (fun c => ?_)
            · exact GX.pick [2, 3, 4, 5, 6] rfl <| GX.widen (k := kc + 5) (j := ks + 30) (by omega) (by omega) <| Slaw_b551 b N xs kc ks hc hs  (flaw N xs n) hrec23 M31 x4
            · refine x_iconst (v := 0) (by decide) dL_law_549 ?_
              exact l_ret0 dL_law_550
        · refine x_iconst (v := 0) (by decide) dL_law_532 ?_
          exact l_ret0 dL_law_533
      refine x_tabI (tgt := 554) (off := 514) 6 rfl (by decide) (by decide) (by decide) dL_law_40 ?_ (fun c6 => ?_)
      · refine x_aload_n 1 rfl rfl dL_law_554 ?_
        refine x_aload_n 0 rfl rfl dL_law_555 ?_
        refine x_iload 4 rfl dL_law_556 ?_
        refine x_iconst (v := 1) (by decide) dL_law_558 ?_
        refine x_iadd dL_law_559 ?_
        refine x_sld dL_law_560 (fun _ => ?_)
        refine x_aload_n 0 rfl rfl dL_law_561 ?_
        refine x_iload 4 rfl dL_law_562 ?_
        refine x_iconst (v := 2) (by decide) dL_law_564 ?_
        refine x_iadd dL_law_565 ?_
        refine x_sld dL_law_566 (fun _ => ?_)
        refine x_aload_n 3 rfl rfl dL_law_567 ?_
        refine x_callSH (y := miL_worth) (hh := [(0, 10, 13, 18)]) (As := [.ref 0, .int (xs (ix (x4 + 1))), .int (xs (ix (x4 + 2))), .ref 121]) (rest := []) mhL_worth rfl mlL_130 (by decide) ⟨by show _ ≤ 601024; omega, by show _ ≤ 7293034; omega⟩ (by simp [Value.category]) rfl dL_law_568 (SL_worth  M (xs (ix (x4 + 1))) (xs (ix (x4 + 2)))) (fun _ _ => XH.none) (fun M33 v34 => ?_)
        refine x_istore (L' := [(5, .int v34), (0, .ref (1000 + 33)), (1, .ref 0), (2, .ref 87), (3, .ref 121), (4, .int x4)]) (by decide) rfl dL_law_571 ?_
        refine x_aload_n 3 rfl rfl dL_law_573 ?_
        refine x_aload_n 1 rfl rfl dL_law_574 ?_
        refine x_iload 5 rfl dL_law_575 ?_
        refine x_iconst (v := 1) (by decide) dL_law_577 ?_
        refine x_iadd dL_law_578 ?_
        refine x_sld dL_law_579 (fun _ => ?_)
        refine x_aload_n 1 rfl rfl dL_law_580 ?_
        refine x_iload 5 rfl dL_law_581 ?_
        refine x_iconst (v := 2) (by decide) dL_law_583 ?_
        refine x_iadd dL_law_584 ?_
        refine x_sld dL_law_585 (fun _ => ?_)
        refine x_callVI (y := miX12_worth) (As := [.int (xs (ix (x4 + 1))), .int (xs (ix (x4 + 2)))]) (rest := []) clX12 kd_87 rfl moX12_worth rfl mlL_132 (by decide) ⟨by show _ ≤ 601024; omega, by show _ ≤ 7293034; omega⟩ (by simp [Value.category]) rfl dL_law_586 (SX12_worth  M33 (xs (ix (x4 + 1))) (xs (ix (x4 + 2)))) (fun _ _ => XH.none) (fun M35 v36 => ?_)
        refine x_istore (L' := [(6, .int v36), (5, .int v34), (0, .ref (1000 + 33)), (1, .ref 0), (2, .ref 87), (3, .ref 121), (4, .int x4)]) (by decide) rfl dL_law_589 ?_
        refine x_aload_n 4 rfl rfl dL_law_591 ?_
        refine x_callVI (y := miX12_thrown) (As := []) (rest := []) clX12 kd_87 rfl moX12_thrown rfl mlL_112 (by decide) ⟨by show _ ≤ 601024; omega, by show _ ≤ 7293034; omega⟩ (by simp [Value.category]) rfl dL_law_592 (SX12_thrown  M35) (fun _ _ => XH.none) (fun M37 v38 => ?_)
        refine x_iload 1 rfl dL_law_595 ?_
        refine x_icmp_eq (tgt := 602) rfl dL_law_597 (fun c => ?_) (fun c => ?_)
        · refine x_iload 1 rfl dL_law_602 ?_
          refine x_if_ne (tgt := 619) rfl dL_law_604 (fun c => ?_) (fun c => ?_)
          · exact GX.pick [2, 3, 4, 5, 6] rfl <| GX.widen (k := kc + 5) (j := ks + 30) (by omega) (by omega) <| Slaw_b619 b N xs kc ks hc hs  (flaw N xs n) hrec23 M37 x4
          · refine x_aload_n 5 rfl rfl dL_law_607 ?_
            refine x_iconst (v := 0) (by decide) dL_law_608 ?_
            refine x_laldL (j := 0) kd_121 (by decide) (by decide) dL_law_609 ?_
            refine x_iload 0 rfl dL_law_610 ?_
            refine x_i2l dL_law_612 ?_
            refine x_lcmp dL_law_613 ?_
            refine x_if_eq (tgt := 619) rfl dL_law_614 (fun c => ?_) (fun c => ?_)
            · exact GX.pick [2, 3, 4, 5, 6] rfl <| GX.widen (k := kc + 5) (j := ks + 30) (by omega) (by omega) <| Slaw_b619 b N xs kc ks hc hs  (flaw N xs n) hrec23 M37 x4
            · refine x_iconst (v := 0) (by decide) dL_law_617 ?_
              exact l_ret0 dL_law_618
        · refine x_iconst (v := 0) (by decide) dL_law_600 ?_
          exact l_ret0 dL_law_601
      refine x_tabI (tgt := 622) (off := 582) 7 rfl (by decide) (by decide) (by decide) dL_law_40 ?_ (fun c7 => ?_)
      · refine x_aload_n 1 rfl rfl dL_law_622 ?_
        refine x_aload_n 0 rfl rfl dL_law_623 ?_
        refine x_iload 4 rfl dL_law_624 ?_
        refine x_iconst (v := 1) (by decide) dL_law_626 ?_
        refine x_iadd dL_law_627 ?_
        refine x_sld dL_law_628 (fun _ => ?_)
        refine x_aload_n 0 rfl rfl dL_law_629 ?_
        refine x_iload 4 rfl dL_law_630 ?_
        refine x_iconst (v := 2) (by decide) dL_law_632 ?_
        refine x_iadd dL_law_633 ?_
        refine x_sld dL_law_634 (fun _ => ?_)
        refine x_aload_n 0 rfl rfl dL_law_635 ?_
        refine x_iload 4 rfl dL_law_636 ?_
        refine x_iconst (v := 3) (by decide) dL_law_638 ?_
        refine x_iadd dL_law_639 ?_
        refine x_sld dL_law_640 (fun _ => ?_)
        refine x_aload_n 3 rfl rfl dL_law_641 ?_
        refine x_callSH (y := miL_harvest) (hh := [(0, 12, 15, 18), (0, 12, 19, 13)]) (As := [.ref 0, .int (xs (ix (x4 + 1))), .int (xs (ix (x4 + 2))), .int (xs (ix (x4 + 3))), .ref 121]) (rest := []) mhL_harvest rfl mlL_133 (by decide) ⟨by show _ ≤ 601024; omega, by show _ ≤ 7293034; omega⟩ (by simp [Value.category]) rfl dL_law_642 (SL_harvest  M (xs (ix (x4 + 1))) (xs (ix (x4 + 2))) (xs (ix (x4 + 3)))) (fun _ _ => XH.none) (fun M39 v40 => ?_)
        refine x_istore (L' := [(5, .int v40), (0, .ref (1000 + 33)), (1, .ref 0), (2, .ref 87), (3, .ref 121), (4, .int x4)]) (by decide) rfl dL_law_645 ?_
        refine x_aload_n 3 rfl rfl dL_law_647 ?_
        refine x_aload_n 1 rfl rfl dL_law_648 ?_
        refine x_iload 5 rfl dL_law_649 ?_
        refine x_iconst (v := 1) (by decide) dL_law_651 ?_
        refine x_iadd dL_law_652 ?_
        refine x_sld dL_law_653 (fun _ => ?_)
        refine x_aload_n 1 rfl rfl dL_law_654 ?_
        refine x_iload 5 rfl dL_law_655 ?_
        refine x_iconst (v := 2) (by decide) dL_law_657 ?_
        refine x_iadd dL_law_658 ?_
        refine x_sld dL_law_659 (fun _ => ?_)
        refine x_aload_n 1 rfl rfl dL_law_660 ?_
        refine x_iload 5 rfl dL_law_661 ?_
        refine x_iconst (v := 3) (by decide) dL_law_663 ?_
        refine x_iadd dL_law_664 ?_
        refine x_sld dL_law_665 (fun _ => ?_)
        refine x_callVI (y := miX12_harvest) (As := [.int (xs (ix (x4 + 1))), .int (xs (ix (x4 + 2))), .int (xs (ix (x4 + 3)))]) (rest := []) clX12 kd_87 rfl moX12_harvest rfl mlL_136 (by decide) ⟨by show _ ≤ 601024; omega, by show _ ≤ 7293034; omega⟩ (by simp [Value.category]) rfl dL_law_666 (SX12_harvest  M39 (xs (ix (x4 + 1))) (xs (ix (x4 + 2))) (xs (ix (x4 + 3)))) (fun _ _ => XH.none) (fun M41 v42 => ?_)
        refine x_istore (L' := [(6, .int v42), (5, .int v40), (0, .ref (1000 + 33)), (1, .ref 0), (2, .ref 87), (3, .ref 121), (4, .int x4)]) (by decide) rfl dL_law_669 ?_
        refine x_aload_n 4 rfl rfl dL_law_671 ?_
        refine x_callVI (y := miX12_thrown) (As := []) (rest := []) clX12 kd_87 rfl moX12_thrown rfl mlL_112 (by decide) ⟨by show _ ≤ 601024; omega, by show _ ≤ 7293034; omega⟩ (by simp [Value.category]) rfl dL_law_672 (SX12_thrown  M41) (fun _ _ => XH.none) (fun M43 v44 => ?_)
        refine x_iload 1 rfl dL_law_675 ?_
        refine x_icmp_eq (tgt := 682) rfl dL_law_677 (fun c => ?_) (fun c => ?_)
        · refine x_iload 1 rfl dL_law_682 ?_
          refine x_if_ne (tgt := 699) rfl dL_law_684 (fun c => ?_) (fun c => ?_)
          · exact GX.pick [2, 3, 4, 5, 6] rfl <| GX.widen (k := kc + 5) (j := ks + 30) (by omega) (by omega) <| Slaw_b699 b N xs kc ks hc hs  (flaw N xs n) hrec23 M43 x4
          · refine x_aload_n 5 rfl rfl dL_law_687 ?_
            refine x_iconst (v := 0) (by decide) dL_law_688 ?_
            refine x_laldL (j := 0) kd_121 (by decide) (by decide) dL_law_689 ?_
            refine x_iload 0 rfl dL_law_690 ?_
            refine x_i2l dL_law_692 ?_
            refine x_lcmp dL_law_693 ?_
            refine x_if_eq (tgt := 699) rfl dL_law_694 (fun c => ?_) (fun c => ?_)
            · exact GX.pick [2, 3, 4, 5, 6] rfl <| GX.widen (k := kc + 5) (j := ks + 30) (by omega) (by omega) <| Slaw_b699 b N xs kc ks hc hs  (flaw N xs n) hrec23 M43 x4
            · refine x_iconst (v := 0) (by decide) dL_law_697 ?_
              exact l_ret0 dL_law_698
        · refine x_iconst (v := 0) (by decide) dL_law_680 ?_
          exact l_ret0 dL_law_681
      refine x_tabI (tgt := 702) (off := 662) 8 rfl (by decide) (by decide) (by decide) dL_law_40 ?_ (fun c8 => ?_)
      · refine x_aload_n 1 rfl rfl dL_law_702 ?_
        refine x_aload_n 0 rfl rfl dL_law_703 ?_
        refine x_iload 4 rfl dL_law_704 ?_
        refine x_iconst (v := 1) (by decide) dL_law_706 ?_
        refine x_iadd dL_law_707 ?_
        refine x_sld dL_law_708 (fun _ => ?_)
        refine x_callVI (y := miX11_lots) (As := [.int (xs (ix (x4 + 1)))]) (rest := []) clX11 kd_0 rfl moX11_lots rfl mlL_137 (by decide) ⟨by show _ ≤ 601024; omega, by show _ ≤ 7293034; omega⟩ (by simp [Value.category]) rfl dL_law_709 (SX11_lots  M (xs (ix (x4 + 1)))) (fun _ _ => XH.none) (fun M45 v46 => ?_)
        refine x_aload_n 2 rfl rfl dL_law_712 ?_
        refine x_aload_n 0 rfl rfl dL_law_713 ?_
        refine x_iload 4 rfl dL_law_714 ?_
        refine x_iconst (v := 1) (by decide) dL_law_716 ?_
        refine x_iadd dL_law_717 ?_
        refine x_sld dL_law_718 (fun _ => ?_)
        refine x_callVI (y := miX12_lots) (As := [.int (xs (ix (x4 + 1)))]) (rest := [.int v46]) clX12 kd_87 rfl moX12_lots rfl mlL_140 (by decide) ⟨by show _ ≤ 601024; omega, by show _ ≤ 7293034; omega⟩ (by simp [Value.category]) rfl dL_law_719 (SX12_lots  M45 (xs (ix (x4 + 1)))) (fun _ _ => XH.none) (fun M47 v48 => ?_)
        refine x_icmp_eq (tgt := 2209) rfl dL_law_722 (fun c => ?_) (fun c => ?_)
        · exact GX.pick [0, 1, 2, 3, 4] rfl <| GX.widen (k := kc + 5) (j := ks + 30) (by omega) (by omega) <| Slaw_b2209 b N xs kc ks hc hs  (flaw N xs n) hrec23 M47 x4
        · refine x_iconst (v := 0) (by decide) dL_law_725 ?_
          exact l_ret0 dL_law_726
      refine x_tabI (tgt := 727) (off := 687) 9 rfl (by decide) (by decide) (by decide) dL_law_40 ?_ (fun c9 => ?_)
      · refine x_aload_n 1 rfl rfl dL_law_727 ?_
        refine x_aload_n 0 rfl rfl dL_law_728 ?_
        refine x_iload 4 rfl dL_law_729 ?_
        refine x_iconst (v := 1) (by decide) dL_law_731 ?_
        refine x_iadd dL_law_732 ?_
        refine x_sld dL_law_733 (fun _ => ?_)
        refine x_aload_n 3 rfl rfl dL_law_734 ?_
        refine x_callSH (y := miL_turn) (hh := [(0, 9, 12, 18)]) (As := [.ref 0, .int (xs (ix (x4 + 1))), .ref 121]) (rest := []) mhL_turn rfl mlL_141 (by decide) ⟨by show _ ≤ 601024; omega, by show _ ≤ 7293034; omega⟩ (by simp [Value.category]) rfl dL_law_735 (SL_turn  M (xs (ix (x4 + 1)))) (fun _ _ => XH.none) (fun M49 v50 => ?_)
        refine x_istore (L' := [(5, .int v50), (0, .ref (1000 + 33)), (1, .ref 0), (2, .ref 87), (3, .ref 121), (4, .int x4)]) (by decide) rfl dL_law_738 ?_
        refine x_aload_n 3 rfl rfl dL_law_740 ?_
        refine x_aload_n 1 rfl rfl dL_law_741 ?_
        refine x_iload 5 rfl dL_law_742 ?_
        refine x_iconst (v := 1) (by decide) dL_law_744 ?_
        refine x_iadd dL_law_745 ?_
        refine x_sld dL_law_746 (fun _ => ?_)
        refine x_callVI (y := miX12_turn) (As := [.int (xs (ix (x4 + 1)))]) (rest := []) clX12 kd_87 rfl moX12_turn rfl mlL_143 (by decide) ⟨by show _ ≤ 601024; omega, by show _ ≤ 7293034; omega⟩ (by simp [Value.category]) rfl dL_law_747 (SX12_turn  M49 (xs (ix (x4 + 1)))) (fun _ _ => XH.none) (fun M51 v52 => ?_)
        refine x_istore (L' := [(6, .int v52), (5, .int v50), (0, .ref (1000 + 33)), (1, .ref 0), (2, .ref 87), (3, .ref 121), (4, .int x4)]) (by decide) rfl dL_law_750 ?_
        refine x_aload_n 4 rfl rfl dL_law_752 ?_
        refine x_callVI (y := miX12_thrown) (As := []) (rest := []) clX12 kd_87 rfl moX12_thrown rfl mlL_112 (by decide) ⟨by show _ ≤ 601024; omega, by show _ ≤ 7293034; omega⟩ (by simp [Value.category]) rfl dL_law_753 (SX12_thrown  M51) (fun _ _ => XH.none) (fun M53 v54 => ?_)
        refine x_iload 1 rfl dL_law_756 ?_
        refine x_icmp_eq (tgt := 763) rfl dL_law_758 (fun c => ?_) (fun c => ?_)
        · refine x_iload 1 rfl dL_law_763 ?_
          refine x_if_ne (tgt := 780) rfl dL_law_765 (fun c => ?_) (fun c => ?_)
          · exact GX.pick [2, 3, 4, 5, 6] rfl <| GX.widen (k := kc + 5) (j := ks + 30) (by omega) (by omega) <| Slaw_b780 b N xs kc ks hc hs  (flaw N xs n) hrec23 M53 x4
          · refine x_aload_n 5 rfl rfl dL_law_768 ?_
            refine x_iconst (v := 0) (by decide) dL_law_769 ?_
            refine x_laldL (j := 0) kd_121 (by decide) (by decide) dL_law_770 ?_
            refine x_iload 0 rfl dL_law_771 ?_
            refine x_i2l dL_law_773 ?_
            refine x_lcmp dL_law_774 ?_
            refine x_if_eq (tgt := 780) rfl dL_law_775 (fun c => ?_) (fun c => ?_)
            · exact GX.pick [2, 3, 4, 5, 6] rfl <| GX.widen (k := kc + 5) (j := ks + 30) (by omega) (by omega) <| Slaw_b780 b N xs kc ks hc hs  (flaw N xs n) hrec23 M53 x4
            · refine x_iconst (v := 0) (by decide) dL_law_778 ?_
              exact l_ret0 dL_law_779
        · refine x_iconst (v := 0) (by decide) dL_law_761 ?_
          exact l_ret0 dL_law_762
      refine x_tabI (tgt := 783) (off := 743) 10 rfl (by decide) (by decide) (by decide) dL_law_40 ?_ (fun c10 => ?_)
      · refine x_aload_n 1 rfl rfl dL_law_783 ?_
        refine x_aload_n 0 rfl rfl dL_law_784 ?_
        refine x_iload 4 rfl dL_law_785 ?_
        refine x_iconst (v := 1) (by decide) dL_law_787 ?_
        refine x_iadd dL_law_788 ?_
        refine x_sld dL_law_789 (fun _ => ?_)
        refine x_aload_n 0 rfl rfl dL_law_790 ?_
        refine x_iload 4 rfl dL_law_791 ?_
        refine x_iconst (v := 2) (by decide) dL_law_793 ?_
        refine x_iadd dL_law_794 ?_
        refine x_sld dL_law_795 (fun _ => ?_)
        refine x_aload_n 3 rfl rfl dL_law_796 ?_
        refine x_callSH (y := miL_order) (hh := [(0, 10, 13, 18)]) (As := [.ref 0, .int (xs (ix (x4 + 1))), .int (xs (ix (x4 + 2))), .ref 121]) (rest := []) mhL_order rfl mlL_144 (by decide) ⟨by show _ ≤ 601024; omega, by show _ ≤ 7293034; omega⟩ (by simp [Value.category]) rfl dL_law_797 (SL_order  M (xs (ix (x4 + 1))) (xs (ix (x4 + 2)))) (fun _ _ => XH.none) (fun M55 v56 => ?_)
        refine x_istore (L' := [(5, .int v56), (0, .ref (1000 + 33)), (1, .ref 0), (2, .ref 87), (3, .ref 121), (4, .int x4)]) (by decide) rfl dL_law_800 ?_
        refine x_aload_n 3 rfl rfl dL_law_802 ?_
        refine x_aload_n 1 rfl rfl dL_law_803 ?_
        refine x_iload 5 rfl dL_law_804 ?_
        refine x_iconst (v := 1) (by decide) dL_law_806 ?_
        refine x_iadd dL_law_807 ?_
        refine x_sld dL_law_808 (fun _ => ?_)
        refine x_aload_n 1 rfl rfl dL_law_809 ?_
        refine x_iload 5 rfl dL_law_810 ?_
        refine x_iconst (v := 2) (by decide) dL_law_812 ?_
        refine x_iadd dL_law_813 ?_
        refine x_sld dL_law_814 (fun _ => ?_)
        refine x_callVI (y := miX12_order) (As := [.int (xs (ix (x4 + 1))), .int (xs (ix (x4 + 2)))]) (rest := []) clX12 kd_87 rfl moX12_order rfl mlL_146 (by decide) ⟨by show _ ≤ 601024; omega, by show _ ≤ 7293034; omega⟩ (by simp [Value.category]) rfl dL_law_815 (SX12_order  M55 (xs (ix (x4 + 1))) (xs (ix (x4 + 2)))) (fun _ _ => XH.none) (fun M57 v58 => ?_)
        refine x_istore (L' := [(6, .int v58), (5, .int v56), (0, .ref (1000 + 33)), (1, .ref 0), (2, .ref 87), (3, .ref 121), (4, .int x4)]) (by decide) rfl dL_law_818 ?_
        refine x_aload_n 4 rfl rfl dL_law_820 ?_
        refine x_callVI (y := miX12_thrown) (As := []) (rest := []) clX12 kd_87 rfl moX12_thrown rfl mlL_112 (by decide) ⟨by show _ ≤ 601024; omega, by show _ ≤ 7293034; omega⟩ (by simp [Value.category]) rfl dL_law_821 (SX12_thrown  M57) (fun _ _ => XH.none) (fun M59 v60 => ?_)
        refine x_iload 1 rfl dL_law_824 ?_
        refine x_icmp_eq (tgt := 831) rfl dL_law_826 (fun c => ?_) (fun c => ?_)
        · refine x_iload 1 rfl dL_law_831 ?_
          refine x_if_ne (tgt := 848) rfl dL_law_833 (fun c => ?_) (fun c => ?_)
          · exact GX.pick [2, 3, 4, 5, 6] rfl <| GX.widen (k := kc + 5) (j := ks + 30) (by omega) (by omega) <| Slaw_b848 b N xs kc ks hc hs  (flaw N xs n) hrec23 M59 x4
          · refine x_aload_n 5 rfl rfl dL_law_836 ?_
            refine x_iconst (v := 0) (by decide) dL_law_837 ?_
            refine x_laldL (j := 0) kd_121 (by decide) (by decide) dL_law_838 ?_
            refine x_iload 0 rfl dL_law_839 ?_
            refine x_i2l dL_law_841 ?_
            refine x_lcmp dL_law_842 ?_
            refine x_if_eq (tgt := 848) rfl dL_law_843 (fun c => ?_) (fun c => ?_)
            · exact GX.pick [2, 3, 4, 5, 6] rfl <| GX.widen (k := kc + 5) (j := ks + 30) (by omega) (by omega) <| Slaw_b848 b N xs kc ks hc hs  (flaw N xs n) hrec23 M59 x4
            · refine x_iconst (v := 0) (by decide) dL_law_846 ?_
              exact l_ret0 dL_law_847
        · refine x_iconst (v := 0) (by decide) dL_law_829 ?_
          exact l_ret0 dL_law_830
      refine x_tabI (tgt := 851) (off := 811) 11 rfl (by decide) (by decide) (by decide) dL_law_40 ?_ (fun c11 => ?_)
      · refine x_aload_n 1 rfl rfl dL_law_851 ?_
        refine x_aload_n 0 rfl rfl dL_law_852 ?_
        refine x_iload 4 rfl dL_law_853 ?_
        refine x_iconst (v := 1) (by decide) dL_law_855 ?_
        refine x_iadd dL_law_856 ?_
        refine x_sld dL_law_857 (fun _ => ?_)
        refine x_aload_n 0 rfl rfl dL_law_858 ?_
        refine x_iload 4 rfl dL_law_859 ?_
        refine x_iconst (v := 2) (by decide) dL_law_861 ?_
        refine x_iadd dL_law_862 ?_
        refine x_sld dL_law_863 (fun _ => ?_)
        refine x_aload_n 3 rfl rfl dL_law_864 ?_
        refine x_callSH (y := miL_exchange) (hh := [(0, 17, 20, 18)]) (As := [.ref 0, .int (xs (ix (x4 + 1))), .int (xs (ix (x4 + 2))), .ref 121]) (rest := []) mhL_exchange rfl mlL_147 (by decide) ⟨by show _ ≤ 601024; omega, by show _ ≤ 7293034; omega⟩ (by simp [Value.category]) rfl dL_law_865 (SL_exchange  M (xs (ix (x4 + 1))) (xs (ix (x4 + 2)))) (fun _ _ => XH.none) (fun M61 v62 => ?_)
        refine x_istore (L' := [(5, .int v62), (0, .ref (1000 + 33)), (1, .ref 0), (2, .ref 87), (3, .ref 121), (4, .int x4)]) (by decide) rfl dL_law_868 ?_
        refine x_aload_n 3 rfl rfl dL_law_870 ?_
        refine x_aload_n 1 rfl rfl dL_law_871 ?_
        refine x_iload 5 rfl dL_law_872 ?_
        refine x_iconst (v := 1) (by decide) dL_law_874 ?_
        refine x_iadd dL_law_875 ?_
        refine x_sld dL_law_876 (fun _ => ?_)
        refine x_aload_n 1 rfl rfl dL_law_877 ?_
        refine x_iload 5 rfl dL_law_878 ?_
        refine x_iconst (v := 2) (by decide) dL_law_880 ?_
        refine x_iadd dL_law_881 ?_
        refine x_sld dL_law_882 (fun _ => ?_)
        refine x_callVI (y := miX12_exchange) (As := [.int (xs (ix (x4 + 1))), .int (xs (ix (x4 + 2)))]) (rest := []) clX12 kd_87 rfl moX12_exchange rfl mlL_149 (by decide) ⟨by show _ ≤ 601024; omega, by show _ ≤ 7293034; omega⟩ (by simp [Value.category]) rfl dL_law_883 (SX12_exchange  M61 (xs (ix (x4 + 1))) (xs (ix (x4 + 2)))) (fun _ _ => XH.none) (fun M63 v64 => ?_)
        refine x_istore (L' := [(6, .int v64), (5, .int v62), (0, .ref (1000 + 33)), (1, .ref 0), (2, .ref 87), (3, .ref 121), (4, .int x4)]) (by decide) rfl dL_law_886 ?_
        refine x_aload_n 4 rfl rfl dL_law_888 ?_
        refine x_callVI (y := miX12_thrown) (As := []) (rest := []) clX12 kd_87 rfl moX12_thrown rfl mlL_112 (by decide) ⟨by show _ ≤ 601024; omega, by show _ ≤ 7293034; omega⟩ (by simp [Value.category]) rfl dL_law_889 (SX12_thrown  M63) (fun _ _ => XH.none) (fun M65 v66 => ?_)
        refine x_iload 1 rfl dL_law_892 ?_
        refine x_icmp_eq (tgt := 899) rfl dL_law_894 (fun c => ?_) (fun c => ?_)
        · refine x_iload 1 rfl dL_law_899 ?_
          refine x_if_ne (tgt := 923) rfl dL_law_901 (fun c => ?_) (fun c => ?_)
          · exact GX.pick [2, 3, 4, 5, 6] rfl <| GX.widen (k := kc + 5) (j := ks + 30) (by omega) (by omega) <| Slaw_b923 b N xs kc ks hc hs  (flaw N xs n) hrec23 M65 x4
          · refine x_aload_n 5 rfl rfl dL_law_904 ?_
            refine x_iconst (v := 0) (by decide) dL_law_905 ?_
            refine x_laldL (j := 0) kd_121 (by decide) (by decide) dL_law_906 ?_
            refine x_iload 0 rfl dL_law_907 ?_
            refine x_if_eq (tgt := 916) rfl dL_law_909 (fun c => ?_) (fun c => ?_)
            · refine x_lconst (v := 0) (by decide) dL_law_916 ?_
              exact GX.pick [2, 3, 4, 5, 6] rfl <| GX.widen (k := kc + 5) (j := ks + 30) (by omega) (by omega) <| Slaw_b917 b N xs kc ks hc hs  (flaw N xs n) hrec23 M65 x4 0 (gl M65 121 0)
            · refine x_lconst (v := 1) (by decide) dL_law_912 ?_
              refine x_goto (tgt := 917) rfl dL_law_913 ?_
              exact GX.pick [2, 3, 4, 5, 6] rfl <| GX.widen (k := kc + 5) (j := ks + 30) (by omega) (by omega) <| Slaw_b917 b N xs kc ks hc hs  (flaw N xs n) hrec23 M65 x4 1 (gl M65 121 0)
        · refine x_iconst (v := 0) (by decide) dL_law_897 ?_
          exact l_ret0 dL_law_898
      refine x_tabI (tgt := 926) (off := 886) 12 rfl (by decide) (by decide) (by decide) dL_law_40 ?_ (fun c12 => ?_)
      · refine x_aload_n 1 rfl rfl dL_law_926 ?_
        refine x_aload_n 0 rfl rfl dL_law_927 ?_
        refine x_iload 4 rfl dL_law_928 ?_
        refine x_iconst (v := 1) (by decide) dL_law_930 ?_
        refine x_iadd dL_law_931 ?_
        refine x_sld dL_law_932 (fun _ => ?_)
        refine x_aload_n 0 rfl rfl dL_law_933 ?_
        refine x_iload 4 rfl dL_law_934 ?_
        refine x_iconst (v := 2) (by decide) dL_law_936 ?_
        refine x_iadd dL_law_937 ?_
        refine x_sld dL_law_938 (fun _ => ?_)
        refine x_callVI (y := miX11_market) (As := [.int (xs (ix (x4 + 1))), .int (xs (ix (x4 + 2)))]) (rest := []) clX11 kd_0 rfl moX11_market rfl mlL_150 (by decide) ⟨by show _ ≤ 601024; omega, by show _ ≤ 7293034; omega⟩ (by simp [Value.category]) rfl dL_law_939 (SX11_market  M (xs (ix (x4 + 1))) (xs (ix (x4 + 2)))) (fun _ _ => XH.none) (fun M67 v68 => ?_)
        refine x_aload_n 2 rfl rfl dL_law_942 ?_
        refine x_aload_n 0 rfl rfl dL_law_943 ?_
        refine x_iload 4 rfl dL_law_944 ?_
        refine x_iconst (v := 1) (by decide) dL_law_946 ?_
        refine x_iadd dL_law_947 ?_
        refine x_sld dL_law_948 (fun _ => ?_)
        refine x_aload_n 0 rfl rfl dL_law_949 ?_
        refine x_iload 4 rfl dL_law_950 ?_
        refine x_iconst (v := 2) (by decide) dL_law_952 ?_
        refine x_iadd dL_law_953 ?_
        refine x_sld dL_law_954 (fun _ => ?_)
        refine x_callVI (y := miX12_market) (As := [.int (xs (ix (x4 + 1))), .int (xs (ix (x4 + 2)))]) (rest := [.int v68]) clX12 kd_87 rfl moX12_market rfl mlL_153 (by decide) ⟨by show _ ≤ 601024; omega, by show _ ≤ 7293034; omega⟩ (by simp [Value.category]) rfl dL_law_955 (SX12_market  M67 (xs (ix (x4 + 1))) (xs (ix (x4 + 2)))) (fun _ _ => XH.none) (fun M69 v70 => ?_)
        refine x_icmp_eq (tgt := 2209) rfl dL_law_958 (fun c => ?_) (fun c => ?_)
        · exact GX.pick [0, 1, 2, 3, 4] rfl <| GX.widen (k := kc + 5) (j := ks + 30) (by omega) (by omega) <| Slaw_b2209 b N xs kc ks hc hs  (flaw N xs n) hrec23 M69 x4
        · refine x_iconst (v := 0) (by decide) dL_law_961 ?_
          exact l_ret0 dL_law_962
      refine x_tabI (tgt := 963) (off := 923) 13 rfl (by decide) (by decide) (by decide) dL_law_40 ?_ (fun c13 => ?_)
      · refine x_aload_n 1 rfl rfl dL_law_963 ?_
        refine x_aload_n 0 rfl rfl dL_law_964 ?_
        refine x_iload 4 rfl dL_law_965 ?_
        refine x_iconst (v := 1) (by decide) dL_law_967 ?_
        refine x_iadd dL_law_968 ?_
        refine x_sld dL_law_969 (fun _ => ?_)
        refine x_callVI (y := miX11_years) (As := [.int (xs (ix (x4 + 1)))]) (rest := []) clX11 kd_0 rfl moX11_years rfl mlL_154 (by decide) ⟨by show _ ≤ 601024; omega, by show _ ≤ 7293034; omega⟩ (by simp [Value.category]) rfl dL_law_970 (SX11_years  M (xs (ix (x4 + 1)))) (fun _ _ => XH.none) (fun M71 v72 => ?_)
        refine x_aload_n 2 rfl rfl dL_law_973 ?_
        refine x_aload_n 0 rfl rfl dL_law_974 ?_
        refine x_iload 4 rfl dL_law_975 ?_
        refine x_iconst (v := 1) (by decide) dL_law_977 ?_
        refine x_iadd dL_law_978 ?_
        refine x_sld dL_law_979 (fun _ => ?_)
        refine x_callVI (y := miX12_years) (As := [.int (xs (ix (x4 + 1)))]) (rest := [.int v72]) clX12 kd_87 rfl moX12_years rfl mlL_157 (by decide) ⟨by show _ ≤ 601024; omega, by show _ ≤ 7293034; omega⟩ (by simp [Value.category]) rfl dL_law_980 (SX12_years  M71 (xs (ix (x4 + 1)))) (fun _ _ => XH.none) (fun M73 v74 => ?_)
        refine x_icmp_eq (tgt := 2209) rfl dL_law_983 (fun c => ?_) (fun c => ?_)
        · exact GX.pick [0, 1, 2, 3, 4] rfl <| GX.widen (k := kc + 5) (j := ks + 30) (by omega) (by omega) <| Slaw_b2209 b N xs kc ks hc hs  (flaw N xs n) hrec23 M73 x4
        · refine x_iconst (v := 0) (by decide) dL_law_986 ?_
          exact l_ret0 dL_law_987
      refine x_tabI (tgt := 988) (off := 948) 14 rfl (by decide) (by decide) (by decide) dL_law_40 ?_ (fun c14 => ?_)
      · refine x_aload_n 1 rfl rfl dL_law_988 ?_
        refine x_callVI (y := miX11_undo) (As := []) (rest := []) clX11 kd_0 rfl moX11_undo rfl mlL_158 (by decide) ⟨by show _ ≤ 601024; omega, by show _ ≤ 7293034; omega⟩ (by simp [Value.category]) rfl dL_law_989 (SX11_undo  M) (fun _ _ => XH.none) (fun M75 v76 => ?_)
        refine x_aload_n 2 rfl rfl dL_law_992 ?_
        refine x_callVI (y := miX12_undo) (As := []) (rest := [.int v76]) clX12 kd_87 rfl moX12_undo rfl mlL_161 (by decide) ⟨by show _ ≤ 601024; omega, by show _ ≤ 7293034; omega⟩ (by simp [Value.category]) rfl dL_law_993 (SX12_undo  M75) (fun _ _ => XH.none) (fun M77 v78 => ?_)
        refine x_icmp_eq (tgt := 2209) rfl dL_law_996 (fun c => ?_) (fun c => ?_)
        · exact GX.pick [0, 1, 2, 3, 4] rfl <| GX.widen (k := kc + 5) (j := ks + 30) (by omega) (by omega) <| Slaw_b2209 b N xs kc ks hc hs  (flaw N xs n) hrec23 M77 x4
        · refine x_iconst (v := 0) (by decide) dL_law_999 ?_
          exact l_ret0 dL_law_1000
      refine x_tabI (tgt := 1001) (off := 961) 15 rfl (by decide) (by decide) (by decide) dL_law_40 ?_ (fun c15 => ?_)
      · refine x_aload_n 1 rfl rfl dL_law_1001 ?_
        refine x_callVI (y := miX11_ring) (As := []) (rest := []) clX11 kd_0 rfl moX11_ring rfl mlL_162 (by decide) ⟨by show _ ≤ 601024; omega, by show _ ≤ 7293034; omega⟩ (by simp [Value.category]) rfl dL_law_1002 (SX11_ring  M) (fun _ _ => XH.none) (fun M79 v80 => ?_)
        refine x_aload_n 2 rfl rfl dL_law_1005 ?_
        refine x_callVI (y := miX12_ring) (As := []) (rest := [.int v80]) clX12 kd_87 rfl moX12_ring rfl mlL_165 (by decide) ⟨by show _ ≤ 601024; omega, by show _ ≤ 7293034; omega⟩ (by simp [Value.category]) rfl dL_law_1006 (SX12_ring  M79) (fun _ _ => XH.none) (fun M81 v82 => ?_)
        refine x_icmp_eq (tgt := 2209) rfl dL_law_1009 (fun c => ?_) (fun c => ?_)
        · exact GX.pick [0, 1, 2, 3, 4] rfl <| GX.widen (k := kc + 5) (j := ks + 30) (by omega) (by omega) <| Slaw_b2209 b N xs kc ks hc hs  (flaw N xs n) hrec23 M81 x4
        · refine x_iconst (v := 0) (by decide) dL_law_1012 ?_
          exact l_ret0 dL_law_1013
      refine x_tabI (tgt := 1014) (off := 974) 16 rfl (by decide) (by decide) (by decide) dL_law_40 ?_ (fun c16 => ?_)
      · refine x_aload_n 1 rfl rfl dL_law_1014 ?_
        refine x_aload_n 0 rfl rfl dL_law_1015 ?_
        refine x_iload 4 rfl dL_law_1016 ?_
        refine x_iconst (v := 1) (by decide) dL_law_1018 ?_
        refine x_iadd dL_law_1019 ?_
        refine x_sld dL_law_1020 (fun _ => ?_)
        refine x_aload_n 3 rfl rfl dL_law_1021 ?_
        refine x_callSH (y := miL_best) (hh := [(0, 8, 11, 18)]) (As := [.ref 0, .int (xs (ix (x4 + 1))), .ref 121]) (rest := []) mhL_best rfl mlL_166 (by decide) ⟨by show _ ≤ 601024; omega, by show _ ≤ 7293034; omega⟩ (by simp [Value.category]) rfl dL_law_1022 (SL_best  M (xs (ix (x4 + 1)))) (fun _ _ => XH.none) (fun M83 v84 => ?_)
        refine x_istore (L' := [(5, .int v84), (0, .ref (1000 + 33)), (1, .ref 0), (2, .ref 87), (3, .ref 121), (4, .int x4)]) (by decide) rfl dL_law_1025 ?_
        refine x_aload_n 3 rfl rfl dL_law_1027 ?_
        refine x_aload_n 1 rfl rfl dL_law_1028 ?_
        refine x_iload 5 rfl dL_law_1029 ?_
        refine x_iconst (v := 1) (by decide) dL_law_1031 ?_
        refine x_iadd dL_law_1032 ?_
        refine x_sld dL_law_1033 (fun _ => ?_)
        refine x_callVL (y := miX12_best) (As := [.int (xs (ix (x4 + 1)))]) (rest := []) clX12 kd_87 rfl moX12_best rfl mlL_168 (by decide) ⟨by show _ ≤ 601024; omega, by show _ ≤ 7293034; omega⟩ (by simp [Value.category]) rfl dL_law_1034 (SX12_best  M83 (xs (ix (x4 + 1)))) (fun _ _ => XH.none) (fun M85 v86 => ?_)
        refine x_lstore (L' := [(6, .long v86), (5, .int v84), (0, .ref (1000 + 33)), (1, .ref 0), (2, .ref 87), (3, .ref 121), (4, .int x4)]) (by decide) rfl dL_law_1037 ?_
        refine x_aload_n 4 rfl rfl dL_law_1039 ?_
        refine x_callVI (y := miX12_thrown) (As := []) (rest := []) clX12 kd_87 rfl moX12_thrown rfl mlL_112 (by decide) ⟨by show _ ≤ 601024; omega, by show _ ≤ 7293034; omega⟩ (by simp [Value.category]) rfl dL_law_1040 (SX12_thrown  M85) (fun _ _ => XH.none) (fun M87 v88 => ?_)
        refine x_iload 1 rfl dL_law_1043 ?_
        refine x_icmp_eq (tgt := 1050) rfl dL_law_1045 (fun c => ?_) (fun c => ?_)
        · refine x_iload 1 rfl dL_law_1050 ?_
          refine x_if_ne (tgt := 1066) rfl dL_law_1052 (fun c => ?_) (fun c => ?_)
          · exact GX.pick [2, 3, 4, 5, 6] rfl <| GX.widen (k := kc + 5) (j := ks + 30) (by omega) (by omega) <| Slaw_b1066 b N xs kc ks hc hs  (flaw N xs n) hrec23 M87 x4
          · refine x_aload_n 5 rfl rfl dL_law_1055 ?_
            refine x_iconst (v := 0) (by decide) dL_law_1056 ?_
            refine x_laldL (j := 0) kd_121 (by decide) (by decide) dL_law_1057 ?_
            refine x_lload 0 rfl dL_law_1058 ?_
            refine x_lcmp dL_law_1060 ?_
            refine x_if_eq (tgt := 1066) rfl dL_law_1061 (fun c => ?_) (fun c => ?_)
            · exact GX.pick [2, 3, 4, 5, 6] rfl <| GX.widen (k := kc + 5) (j := ks + 30) (by omega) (by omega) <| Slaw_b1066 b N xs kc ks hc hs  (flaw N xs n) hrec23 M87 x4
            · refine x_iconst (v := 0) (by decide) dL_law_1064 ?_
              exact l_ret0 dL_law_1065
        · refine x_iconst (v := 0) (by decide) dL_law_1048 ?_
          exact l_ret0 dL_law_1049
      refine x_tabI (tgt := 1069) (off := 1029) 17 rfl (by decide) (by decide) (by decide) dL_law_40 ?_ (fun c17 => ?_)
      · refine x_aload_n 1 rfl rfl dL_law_1069 ?_
        refine x_aload_n 0 rfl rfl dL_law_1070 ?_
        refine x_iload 4 rfl dL_law_1071 ?_
        refine x_iconst (v := 1) (by decide) dL_law_1073 ?_
        refine x_iadd dL_law_1074 ?_
        refine x_sld dL_law_1075 (fun _ => ?_)
        refine x_aload_n 3 rfl rfl dL_law_1076 ?_
        refine x_callSH (y := miL_fairest) (hh := [(0, 9, 12, 18)]) (As := [.ref 0, .int (xs (ix (x4 + 1))), .ref 121]) (rest := []) mhL_fairest rfl mlL_169 (by decide) ⟨by show _ ≤ 601024; omega, by show _ ≤ 7293034; omega⟩ (by simp [Value.category]) rfl dL_law_1077 (SL_fairest  M (xs (ix (x4 + 1)))) (fun _ _ => XH.none) (fun M89 v90 => ?_)
        refine x_istore (L' := [(5, .int v90), (0, .ref (1000 + 33)), (1, .ref 0), (2, .ref 87), (3, .ref 121), (4, .int x4)]) (by decide) rfl dL_law_1080 ?_
        refine x_aload_n 3 rfl rfl dL_law_1082 ?_
        refine x_aload_n 1 rfl rfl dL_law_1083 ?_
        refine x_iload 5 rfl dL_law_1084 ?_
        refine x_iconst (v := 1) (by decide) dL_law_1086 ?_
        refine x_iadd dL_law_1087 ?_
        refine x_sld dL_law_1088 (fun _ => ?_)
        refine x_callVI (y := miX12_fairest) (As := [.int (xs (ix (x4 + 1)))]) (rest := []) clX12 kd_87 rfl moX12_fairest rfl mlL_171 (by decide) ⟨by show _ ≤ 601024; omega, by show _ ≤ 7293034; omega⟩ (by simp [Value.category]) rfl dL_law_1089 (SX12_fairest  M89 (xs (ix (x4 + 1)))) (fun _ _ => XH.none) (fun M91 v92 => ?_)
        refine x_istore (L' := [(6, .int v92), (5, .int v90), (0, .ref (1000 + 33)), (1, .ref 0), (2, .ref 87), (3, .ref 121), (4, .int x4)]) (by decide) rfl dL_law_1092 ?_
        refine x_aload_n 4 rfl rfl dL_law_1094 ?_
        refine x_callVI (y := miX12_thrown) (As := []) (rest := []) clX12 kd_87 rfl moX12_thrown rfl mlL_112 (by decide) ⟨by show _ ≤ 601024; omega, by show _ ≤ 7293034; omega⟩ (by simp [Value.category]) rfl dL_law_1095 (SX12_thrown  M91) (fun _ _ => XH.none) (fun M93 v94 => ?_)
        refine x_iload 1 rfl dL_law_1098 ?_
        refine x_icmp_eq (tgt := 1105) rfl dL_law_1100 (fun c => ?_) (fun c => ?_)
        · refine x_iload 1 rfl dL_law_1105 ?_
          refine x_if_ne (tgt := 1122) rfl dL_law_1107 (fun c => ?_) (fun c => ?_)
          · exact GX.pick [2, 3, 4, 5, 6] rfl <| GX.widen (k := kc + 5) (j := ks + 30) (by omega) (by omega) <| Slaw_b1122 b N xs kc ks hc hs  (flaw N xs n) hrec23 M93 x4
          · refine x_aload_n 5 rfl rfl dL_law_1110 ?_
            refine x_iconst (v := 0) (by decide) dL_law_1111 ?_
            refine x_laldL (j := 0) kd_121 (by decide) (by decide) dL_law_1112 ?_
            refine x_iload 0 rfl dL_law_1113 ?_
            refine x_i2l dL_law_1115 ?_
            refine x_lcmp dL_law_1116 ?_
            refine x_if_eq (tgt := 1122) rfl dL_law_1117 (fun c => ?_) (fun c => ?_)
            · exact GX.pick [2, 3, 4, 5, 6] rfl <| GX.widen (k := kc + 5) (j := ks + 30) (by omega) (by omega) <| Slaw_b1122 b N xs kc ks hc hs  (flaw N xs n) hrec23 M93 x4
            · refine x_iconst (v := 0) (by decide) dL_law_1120 ?_
              exact l_ret0 dL_law_1121
        · refine x_iconst (v := 0) (by decide) dL_law_1103 ?_
          exact l_ret0 dL_law_1104
      refine x_tabI (tgt := 1125) (off := 1085) 18 rfl (by decide) (by decide) (by decide) dL_law_40 ?_ (fun c18 => ?_)
      · refine x_aload_n 1 rfl rfl dL_law_1125 ?_
        refine x_callVI (y := miX11_tribes) (As := []) (rest := []) clX11 kd_0 rfl moX11_tribes rfl mlL_172 (by decide) ⟨by show _ ≤ 601024; omega, by show _ ≤ 7293034; omega⟩ (by simp [Value.category]) rfl dL_law_1126 (SX11_tribes  M) (fun _ _ => XH.none) (fun M95 v96 => ?_)
        refine x_aload_n 2 rfl rfl dL_law_1129 ?_
        refine x_callVI (y := miX12_tribes) (As := []) (rest := [.int v96]) clX12 kd_87 rfl moX12_tribes rfl mlL_175 (by decide) ⟨by show _ ≤ 601024; omega, by show _ ≤ 7293034; omega⟩ (by simp [Value.category]) rfl dL_law_1130 (SX12_tribes  M95) (fun _ _ => XH.none) (fun M97 v98 => ?_)
        refine x_icmp_eq (tgt := 2209) rfl dL_law_1133 (fun c => ?_) (fun c => ?_)
        · exact GX.pick [0, 1, 2, 3, 4] rfl <| GX.widen (k := kc + 5) (j := ks + 30) (by omega) (by omega) <| Slaw_b2209 b N xs kc ks hc hs  (flaw N xs n) hrec23 M97 x4
        · refine x_iconst (v := 0) (by decide) dL_law_1136 ?_
          exact l_ret0 dL_law_1137
      refine x_tabI (tgt := 1138) (off := 1098) 19 rfl (by decide) (by decide) (by decide) dL_law_40 ?_ (fun c19 => ?_)
      · refine x_aload_n 1 rfl rfl dL_law_1138 ?_
        refine x_callVI (y := miX11_middle) (As := []) (rest := []) clX11 kd_0 rfl moX11_middle rfl mlL_176 (by decide) ⟨by show _ ≤ 601024; omega, by show _ ≤ 7293034; omega⟩ (by simp [Value.category]) rfl dL_law_1139 (SX11_middle  M) (fun _ _ => XH.none) (fun M99 v100 => ?_)
        refine x_aload_n 2 rfl rfl dL_law_1142 ?_
        refine x_callVI (y := miX12_middle) (As := []) (rest := [.int v100]) clX12 kd_87 rfl moX12_middle rfl mlL_179 (by decide) ⟨by show _ ≤ 601024; omega, by show _ ≤ 7293034; omega⟩ (by simp [Value.category]) rfl dL_law_1143 (SX12_middle  M99) (fun _ _ => XH.none) (fun M101 v102 => ?_)
        refine x_icmp_eq (tgt := 2209) rfl dL_law_1146 (fun c => ?_) (fun c => ?_)
        · exact GX.pick [0, 1, 2, 3, 4] rfl <| GX.widen (k := kc + 5) (j := ks + 30) (by omega) (by omega) <| Slaw_b2209 b N xs kc ks hc hs  (flaw N xs n) hrec23 M101 x4
        · refine x_iconst (v := 0) (by decide) dL_law_1149 ?_
          exact l_ret0 dL_law_1150
      refine x_tabI (tgt := 1151) (off := 1111) 20 rfl (by decide) (by decide) (by decide) dL_law_40 ?_ (fun c20 => ?_)
      · refine x_aload_n 1 rfl rfl dL_law_1151 ?_
        refine x_aload_n 0 rfl rfl dL_law_1152 ?_
        refine x_iload 4 rfl dL_law_1153 ?_
        refine x_iconst (v := 1) (by decide) dL_law_1155 ?_
        refine x_iadd dL_law_1156 ?_
        refine x_sld dL_law_1157 (fun _ => ?_)
        refine x_aload_n 0 rfl rfl dL_law_1158 ?_
        refine x_iload 4 rfl dL_law_1159 ?_
        refine x_iconst (v := 2) (by decide) dL_law_1161 ?_
        refine x_iadd dL_law_1162 ?_
        refine x_sld dL_law_1163 (fun _ => ?_)
        refine x_aload_n 3 rfl rfl dL_law_1164 ?_
        refine x_callSH (y := miL_then) (hh := [(0, 10, 13, 18), (0, 10, 17, 13)]) (As := [.ref 0, .int (xs (ix (x4 + 1))), .int (xs (ix (x4 + 2))), .ref 121]) (rest := []) mhL_then rfl mlL_180 (by decide) ⟨by show _ ≤ 601024; omega, by show _ ≤ 7293034; omega⟩ (by simp [Value.category]) rfl dL_law_1165 (SL_then  M (xs (ix (x4 + 1))) (xs (ix (x4 + 2)))) (fun _ _ => XH.none) (fun M103 v104 => ?_)
        refine x_istore (L' := [(5, .int v104), (0, .ref (1000 + 33)), (1, .ref 0), (2, .ref 87), (3, .ref 121), (4, .int x4)]) (by decide) rfl dL_law_1168 ?_
        refine x_aload_n 3 rfl rfl dL_law_1170 ?_
        refine x_aload_n 1 rfl rfl dL_law_1171 ?_
        refine x_iload 5 rfl dL_law_1172 ?_
        refine x_iconst (v := 1) (by decide) dL_law_1174 ?_
        refine x_iadd dL_law_1175 ?_
        refine x_sld dL_law_1176 (fun _ => ?_)
        refine x_aload_n 1 rfl rfl dL_law_1177 ?_
        refine x_iload 5 rfl dL_law_1178 ?_
        refine x_iconst (v := 2) (by decide) dL_law_1180 ?_
        refine x_iadd dL_law_1181 ?_
        refine x_sld dL_law_1182 (fun _ => ?_)
        refine x_callVI (y := miX12_then) (As := [.int (xs (ix (x4 + 1))), .int (xs (ix (x4 + 2)))]) (rest := []) clX12 kd_87 rfl moX12_then rfl mlL_182 (by decide) ⟨by show _ ≤ 601024; omega, by show _ ≤ 7293034; omega⟩ (by simp [Value.category]) rfl dL_law_1183 (SX12_then  M103 (xs (ix (x4 + 1))) (xs (ix (x4 + 2)))) (fun _ _ => XH.none) (fun M105 v106 => ?_)
        refine x_istore (L' := [(6, .int v106), (5, .int v104), (0, .ref (1000 + 33)), (1, .ref 0), (2, .ref 87), (3, .ref 121), (4, .int x4)]) (by decide) rfl dL_law_1186 ?_
        refine x_aload_n 4 rfl rfl dL_law_1188 ?_
        refine x_callVI (y := miX12_thrown) (As := []) (rest := []) clX12 kd_87 rfl moX12_thrown rfl mlL_112 (by decide) ⟨by show _ ≤ 601024; omega, by show _ ≤ 7293034; omega⟩ (by simp [Value.category]) rfl dL_law_1189 (SX12_thrown  M105) (fun _ _ => XH.none) (fun M107 v108 => ?_)
        refine x_iload 1 rfl dL_law_1192 ?_
        refine x_icmp_eq (tgt := 1199) rfl dL_law_1194 (fun c => ?_) (fun c => ?_)
        · refine x_iload 1 rfl dL_law_1199 ?_
          refine x_if_ne (tgt := 1216) rfl dL_law_1201 (fun c => ?_) (fun c => ?_)
          · exact GX.pick [2, 3, 4, 5, 6] rfl <| GX.widen (k := kc + 5) (j := ks + 30) (by omega) (by omega) <| Slaw_b1216 b N xs kc ks hc hs  (flaw N xs n) hrec23 M107 x4
          · refine x_aload_n 5 rfl rfl dL_law_1204 ?_
            refine x_iconst (v := 0) (by decide) dL_law_1205 ?_
            refine x_laldL (j := 0) kd_121 (by decide) (by decide) dL_law_1206 ?_
            refine x_iload 0 rfl dL_law_1207 ?_
            refine x_i2l dL_law_1209 ?_
            refine x_lcmp dL_law_1210 ?_
            refine x_if_eq (tgt := 1216) rfl dL_law_1211 (fun c => ?_) (fun c => ?_)
            · exact GX.pick [2, 3, 4, 5, 6] rfl <| GX.widen (k := kc + 5) (j := ks + 30) (by omega) (by omega) <| Slaw_b1216 b N xs kc ks hc hs  (flaw N xs n) hrec23 M107 x4
            · refine x_iconst (v := 0) (by decide) dL_law_1214 ?_
              exact l_ret0 dL_law_1215
        · refine x_iconst (v := 0) (by decide) dL_law_1197 ?_
          exact l_ret0 dL_law_1198
      refine x_tabI (tgt := 1219) (off := 1179) 21 rfl (by decide) (by decide) (by decide) dL_law_40 ?_ (fun c21 => ?_)
      · refine x_aload_n 1 rfl rfl dL_law_1219 ?_
        refine x_aload_n 0 rfl rfl dL_law_1220 ?_
        refine x_iload 4 rfl dL_law_1221 ?_
        refine x_iconst (v := 1) (by decide) dL_law_1223 ?_
        refine x_iadd dL_law_1224 ?_
        refine x_sld dL_law_1225 (fun _ => ?_)
        refine x_aload_n 3 rfl rfl dL_law_1226 ?_
        refine x_callSH (y := miL_starves) (hh := [(0, 9, 12, 18)]) (As := [.ref 0, .int (xs (ix (x4 + 1))), .ref 121]) (rest := []) mhL_starves rfl mlL_183 (by decide) ⟨by show _ ≤ 601024; omega, by show _ ≤ 7293034; omega⟩ (by simp [Value.category]) rfl dL_law_1227 (SL_starves  M (xs (ix (x4 + 1)))) (fun _ _ => XH.none) (fun M109 v110 => ?_)
        refine x_istore (L' := [(5, .int v110), (0, .ref (1000 + 33)), (1, .ref 0), (2, .ref 87), (3, .ref 121), (4, .int x4)]) (by decide) rfl dL_law_1230 ?_
        refine x_aload_n 3 rfl rfl dL_law_1232 ?_
        refine x_aload_n 1 rfl rfl dL_law_1233 ?_
        refine x_iload 5 rfl dL_law_1234 ?_
        refine x_iconst (v := 1) (by decide) dL_law_1236 ?_
        refine x_iadd dL_law_1237 ?_
        refine x_sld dL_law_1238 (fun _ => ?_)
        refine x_callVI (y := miX12_starves) (As := [.int (xs (ix (x4 + 1)))]) (rest := []) clX12 kd_87 rfl moX12_starves rfl mlL_185 (by decide) ⟨by show _ ≤ 601024; omega, by show _ ≤ 7293034; omega⟩ (by simp [Value.category]) rfl dL_law_1239 (SX12_starves  M109 (xs (ix (x4 + 1)))) (fun _ _ => XH.none) (fun M111 v112 => ?_)
        refine x_istore (L' := [(6, .int v112), (5, .int v110), (0, .ref (1000 + 33)), (1, .ref 0), (2, .ref 87), (3, .ref 121), (4, .int x4)]) (by decide) rfl dL_law_1242 ?_
        refine x_aload_n 4 rfl rfl dL_law_1244 ?_
        refine x_callVI (y := miX12_thrown) (As := []) (rest := []) clX12 kd_87 rfl moX12_thrown rfl mlL_112 (by decide) ⟨by show _ ≤ 601024; omega, by show _ ≤ 7293034; omega⟩ (by simp [Value.category]) rfl dL_law_1245 (SX12_thrown  M111) (fun _ _ => XH.none) (fun M113 v114 => ?_)
        refine x_iload 1 rfl dL_law_1248 ?_
        refine x_icmp_eq (tgt := 1255) rfl dL_law_1250 (fun c => ?_) (fun c => ?_)
        · refine x_iload 1 rfl dL_law_1255 ?_
          refine x_if_ne (tgt := 1272) rfl dL_law_1257 (fun c => ?_) (fun c => ?_)
          · exact GX.pick [2, 3, 4, 5, 6] rfl <| GX.widen (k := kc + 5) (j := ks + 30) (by omega) (by omega) <| Slaw_b1272 b N xs kc ks hc hs  (flaw N xs n) hrec23 M113 x4
          · refine x_aload_n 5 rfl rfl dL_law_1260 ?_
            refine x_iconst (v := 0) (by decide) dL_law_1261 ?_
            refine x_laldL (j := 0) kd_121 (by decide) (by decide) dL_law_1262 ?_
            refine x_iload 0 rfl dL_law_1263 ?_
            refine x_i2l dL_law_1265 ?_
            refine x_lcmp dL_law_1266 ?_
            refine x_if_eq (tgt := 1272) rfl dL_law_1267 (fun c => ?_) (fun c => ?_)
            · exact GX.pick [2, 3, 4, 5, 6] rfl <| GX.widen (k := kc + 5) (j := ks + 30) (by omega) (by omega) <| Slaw_b1272 b N xs kc ks hc hs  (flaw N xs n) hrec23 M113 x4
            · refine x_iconst (v := 0) (by decide) dL_law_1270 ?_
              exact l_ret0 dL_law_1271
        · refine x_iconst (v := 0) (by decide) dL_law_1253 ?_
          exact l_ret0 dL_law_1254
      refine x_tabI (tgt := 1275) (off := 1235) 22 rfl (by decide) (by decide) (by decide) dL_law_40 ?_ (fun c22 => ?_)
      · refine x_aload_n 1 rfl rfl dL_law_1275 ?_
        refine x_aload_n 0 rfl rfl dL_law_1276 ?_
        refine x_iload 4 rfl dL_law_1277 ?_
        refine x_iconst (v := 1) (by decide) dL_law_1279 ?_
        refine x_iadd dL_law_1280 ?_
        refine x_sld dL_law_1281 (fun _ => ?_)
        refine x_aload_n 3 rfl rfl dL_law_1282 ?_
        refine x_callSH (y := miL_tithes) (hh := [(0, 9, 12, 13)]) (As := [.ref 0, .int (xs (ix (x4 + 1))), .ref 121]) (rest := []) mhL_tithes rfl mlL_186 (by decide) ⟨by show _ ≤ 601024; omega, by show _ ≤ 7293034; omega⟩ (by simp [Value.category]) rfl dL_law_1283 (SL_tithes  M (xs (ix (x4 + 1)))) (fun _ _ => XH.none) (fun M115 v116 => ?_)
        refine x_istore (L' := [(5, .int v116), (0, .ref (1000 + 33)), (1, .ref 0), (2, .ref 87), (3, .ref 121), (4, .int x4)]) (by decide) rfl dL_law_1286 ?_
        refine x_aload_n 3 rfl rfl dL_law_1288 ?_
        refine x_aload_n 1 rfl rfl dL_law_1289 ?_
        refine x_iload 5 rfl dL_law_1290 ?_
        refine x_iconst (v := 1) (by decide) dL_law_1292 ?_
        refine x_iadd dL_law_1293 ?_
        refine x_sld dL_law_1294 (fun _ => ?_)
        refine x_callVI (y := miX12_tithes) (As := [.int (xs (ix (x4 + 1)))]) (rest := []) clX12 kd_87 rfl moX12_tithes rfl mlL_188 (by decide) ⟨by show _ ≤ 601024; omega, by show _ ≤ 7293034; omega⟩ (by simp [Value.category]) rfl dL_law_1295 (SX12_tithes  M115 (xs (ix (x4 + 1)))) (fun _ _ => XH.none) (fun M117 v118 => ?_)
        refine x_istore (L' := [(6, .int v118), (5, .int v116), (0, .ref (1000 + 33)), (1, .ref 0), (2, .ref 87), (3, .ref 121), (4, .int x4)]) (by decide) rfl dL_law_1298 ?_
        refine x_aload_n 4 rfl rfl dL_law_1300 ?_
        refine x_callVI (y := miX12_thrown) (As := []) (rest := []) clX12 kd_87 rfl moX12_thrown rfl mlL_112 (by decide) ⟨by show _ ≤ 601024; omega, by show _ ≤ 7293034; omega⟩ (by simp [Value.category]) rfl dL_law_1301 (SX12_thrown  M117) (fun _ _ => XH.none) (fun M119 v120 => ?_)
        refine x_iload 1 rfl dL_law_1304 ?_
        refine x_icmp_eq (tgt := 1311) rfl dL_law_1306 (fun c => ?_) (fun c => ?_)
        · refine x_iload 1 rfl dL_law_1311 ?_
          refine x_if_ne (tgt := 1328) rfl dL_law_1313 (fun c => ?_) (fun c => ?_)
          · exact GX.pick [2, 3, 4, 5, 6] rfl <| GX.widen (k := kc + 5) (j := ks + 30) (by omega) (by omega) <| Slaw_b1328 b N xs kc ks hc hs  (flaw N xs n) hrec23 M119 x4
          · refine x_aload_n 5 rfl rfl dL_law_1316 ?_
            refine x_iconst (v := 0) (by decide) dL_law_1317 ?_
            refine x_laldL (j := 0) kd_121 (by decide) (by decide) dL_law_1318 ?_
            refine x_iload 0 rfl dL_law_1319 ?_
            refine x_i2l dL_law_1321 ?_
            refine x_lcmp dL_law_1322 ?_
            refine x_if_eq (tgt := 1328) rfl dL_law_1323 (fun c => ?_) (fun c => ?_)
            · exact GX.pick [2, 3, 4, 5, 6] rfl <| GX.widen (k := kc + 5) (j := ks + 30) (by omega) (by omega) <| Slaw_b1328 b N xs kc ks hc hs  (flaw N xs n) hrec23 M119 x4
            · refine x_iconst (v := 0) (by decide) dL_law_1326 ?_
              exact l_ret0 dL_law_1327
        · refine x_iconst (v := 0) (by decide) dL_law_1309 ?_
          exact l_ret0 dL_law_1310
      refine x_tabI (tgt := 1331) (off := 1291) 23 rfl (by decide) (by decide) (by decide) dL_law_40 ?_ (fun c23 => ?_)
      · refine x_aload_n 1 rfl rfl dL_law_1331 ?_
        refine x_callVI (y := miX11_holdsOut) (As := []) (rest := []) clX11 kd_0 rfl moX11_holdsOut rfl mlL_189 (by decide) ⟨by show _ ≤ 601024; omega, by show _ ≤ 7293034; omega⟩ (by simp [Value.category]) rfl dL_law_1332 (SX11_holdsOut  M) (fun _ _ => XH.none) (fun M121 v122 => ?_)
        refine x_aload_n 2 rfl rfl dL_law_1335 ?_
        refine x_callVI (y := miX12_holdsOut) (As := []) (rest := [.int v122]) clX12 kd_87 rfl moX12_holdsOut rfl mlL_192 (by decide) ⟨by show _ ≤ 601024; omega, by show _ ≤ 7293034; omega⟩ (by simp [Value.category]) rfl dL_law_1336 (SX12_holdsOut  M121) (fun _ _ => XH.none) (fun M123 v124 => ?_)
        refine x_icmp_eq (tgt := 2209) rfl dL_law_1339 (fun c => ?_) (fun c => ?_)
        · exact GX.pick [0, 1, 2, 3, 4] rfl <| GX.widen (k := kc + 5) (j := ks + 30) (by omega) (by omega) <| Slaw_b2209 b N xs kc ks hc hs  (flaw N xs n) hrec23 M123 x4
        · refine x_iconst (v := 0) (by decide) dL_law_1342 ?_
          exact l_ret0 dL_law_1343
      refine x_tabI (tgt := 1344) (off := 1304) 24 rfl (by decide) (by decide) (by decide) dL_law_40 ?_ (fun c24 => ?_)
      · refine x_aload_n 1 rfl rfl dL_law_1344 ?_
        refine x_aload_n 0 rfl rfl dL_law_1345 ?_
        refine x_iload 4 rfl dL_law_1346 ?_
        refine x_iconst (v := 1) (by decide) dL_law_1348 ?_
        refine x_iadd dL_law_1349 ?_
        refine x_sld dL_law_1350 (fun _ => ?_)
        refine x_aload_n 0 rfl rfl dL_law_1351 ?_
        refine x_iload 4 rfl dL_law_1352 ?_
        refine x_iconst (v := 2) (by decide) dL_law_1354 ?_
        refine x_iadd dL_law_1355 ?_
        refine x_sld dL_law_1356 (fun _ => ?_)
        refine x_aload_n 3 rfl rfl dL_law_1357 ?_
        refine x_callSH (y := miL_lotsFor) (hh := [(0, 10, 13, 18), (0, 10, 17, 13)]) (As := [.ref 0, .int (xs (ix (x4 + 1))), .int (xs (ix (x4 + 2))), .ref 121]) (rest := []) mhL_lotsFor rfl mlL_193 (by decide) ⟨by show _ ≤ 601024; omega, by show _ ≤ 7293034; omega⟩ (by simp [Value.category]) rfl dL_law_1358 (SL_lotsFor  M (xs (ix (x4 + 1))) (xs (ix (x4 + 2)))) (fun _ _ => XH.none) (fun M125 v126 => ?_)
        refine x_istore (L' := [(5, .int v126), (0, .ref (1000 + 33)), (1, .ref 0), (2, .ref 87), (3, .ref 121), (4, .int x4)]) (by decide) rfl dL_law_1361 ?_
        refine x_aload_n 3 rfl rfl dL_law_1363 ?_
        refine x_aload_n 1 rfl rfl dL_law_1364 ?_
        refine x_iload 5 rfl dL_law_1365 ?_
        refine x_iconst (v := 1) (by decide) dL_law_1367 ?_
        refine x_iadd dL_law_1368 ?_
        refine x_sld dL_law_1369 (fun _ => ?_)
        refine x_aload_n 1 rfl rfl dL_law_1370 ?_
        refine x_iload 5 rfl dL_law_1371 ?_
        refine x_iconst (v := 2) (by decide) dL_law_1373 ?_
        refine x_iadd dL_law_1374 ?_
        refine x_sld dL_law_1375 (fun _ => ?_)
        refine x_callVI (y := miX12_lotsFor) (As := [.int (xs (ix (x4 + 1))), .int (xs (ix (x4 + 2)))]) (rest := []) clX12 kd_87 rfl moX12_lotsFor rfl mlL_195 (by decide) ⟨by show _ ≤ 601024; omega, by show _ ≤ 7293034; omega⟩ (by simp [Value.category]) rfl dL_law_1376 (SX12_lotsFor  M125 (xs (ix (x4 + 1))) (xs (ix (x4 + 2)))) (fun _ _ => XH.none) (fun M127 v128 => ?_)
        refine x_istore (L' := [(6, .int v128), (5, .int v126), (0, .ref (1000 + 33)), (1, .ref 0), (2, .ref 87), (3, .ref 121), (4, .int x4)]) (by decide) rfl dL_law_1379 ?_
        refine x_aload_n 4 rfl rfl dL_law_1381 ?_
        refine x_callVI (y := miX12_thrown) (As := []) (rest := []) clX12 kd_87 rfl moX12_thrown rfl mlL_112 (by decide) ⟨by show _ ≤ 601024; omega, by show _ ≤ 7293034; omega⟩ (by simp [Value.category]) rfl dL_law_1382 (SX12_thrown  M127) (fun _ _ => XH.none) (fun M129 v130 => ?_)
        refine x_iload 1 rfl dL_law_1385 ?_
        refine x_icmp_eq (tgt := 1392) rfl dL_law_1387 (fun c => ?_) (fun c => ?_)
        · refine x_iload 1 rfl dL_law_1392 ?_
          refine x_if_ne (tgt := 1409) rfl dL_law_1394 (fun c => ?_) (fun c => ?_)
          · exact GX.pick [2, 3, 4, 5, 6] rfl <| GX.widen (k := kc + 5) (j := ks + 30) (by omega) (by omega) <| Slaw_b1409 b N xs kc ks hc hs  (flaw N xs n) hrec23 M129 x4
          · refine x_aload_n 5 rfl rfl dL_law_1397 ?_
            refine x_iconst (v := 0) (by decide) dL_law_1398 ?_
            refine x_laldL (j := 0) kd_121 (by decide) (by decide) dL_law_1399 ?_
            refine x_iload 0 rfl dL_law_1400 ?_
            refine x_i2l dL_law_1402 ?_
            refine x_lcmp dL_law_1403 ?_
            refine x_if_eq (tgt := 1409) rfl dL_law_1404 (fun c => ?_) (fun c => ?_)
            · exact GX.pick [2, 3, 4, 5, 6] rfl <| GX.widen (k := kc + 5) (j := ks + 30) (by omega) (by omega) <| Slaw_b1409 b N xs kc ks hc hs  (flaw N xs n) hrec23 M129 x4
            · refine x_iconst (v := 0) (by decide) dL_law_1407 ?_
              exact l_ret0 dL_law_1408
        · refine x_iconst (v := 0) (by decide) dL_law_1390 ?_
          exact l_ret0 dL_law_1391
      refine x_tabI (tgt := 1412) (off := 1372) 25 rfl (by decide) (by decide) (by decide) dL_law_40 ?_ (fun c25 => ?_)
      · refine x_aload_n 1 rfl rfl dL_law_1412 ?_
        refine x_aload_n 0 rfl rfl dL_law_1413 ?_
        refine x_iload 4 rfl dL_law_1414 ?_
        refine x_iconst (v := 1) (by decide) dL_law_1416 ?_
        refine x_iadd dL_law_1417 ?_
        refine x_sld dL_law_1418 (fun _ => ?_)
        refine x_aload_n 3 rfl rfl dL_law_1419 ?_
        refine x_callSH (y := miL_change) (hh := [(0, 9, 12, 13)]) (As := [.ref 0, .int (xs (ix (x4 + 1))), .ref 121]) (rest := []) mhL_change rfl mlL_196 (by decide) ⟨by show _ ≤ 601024; omega, by show _ ≤ 7293034; omega⟩ (by simp [Value.category]) rfl dL_law_1420 (SL_change  M (xs (ix (x4 + 1)))) (fun _ _ => XH.none) (fun M131 v132 => ?_)
        refine x_istore (L' := [(5, .int v132), (0, .ref (1000 + 33)), (1, .ref 0), (2, .ref 87), (3, .ref 121), (4, .int x4)]) (by decide) rfl dL_law_1423 ?_
        refine x_aload_n 3 rfl rfl dL_law_1425 ?_
        refine x_aload_n 1 rfl rfl dL_law_1426 ?_
        refine x_iload 5 rfl dL_law_1427 ?_
        refine x_iconst (v := 1) (by decide) dL_law_1429 ?_
        refine x_iadd dL_law_1430 ?_
        refine x_sld dL_law_1431 (fun _ => ?_)
        refine x_callVI (y := miX12_change) (As := [.int (xs (ix (x4 + 1)))]) (rest := []) clX12 kd_87 rfl moX12_change rfl mlL_198 (by decide) ⟨by show _ ≤ 601024; omega, by show _ ≤ 7293034; omega⟩ (by simp [Value.category]) rfl dL_law_1432 (SX12_change  M131 (xs (ix (x4 + 1)))) (fun _ _ => XH.none) (fun M133 v134 => ?_)
        refine x_istore (L' := [(6, .int v134), (5, .int v132), (0, .ref (1000 + 33)), (1, .ref 0), (2, .ref 87), (3, .ref 121), (4, .int x4)]) (by decide) rfl dL_law_1435 ?_
        refine x_aload_n 4 rfl rfl dL_law_1437 ?_
        refine x_callVI (y := miX12_thrown) (As := []) (rest := []) clX12 kd_87 rfl moX12_thrown rfl mlL_112 (by decide) ⟨by show _ ≤ 601024; omega, by show _ ≤ 7293034; omega⟩ (by simp [Value.category]) rfl dL_law_1438 (SX12_thrown  M133) (fun _ _ => XH.none) (fun M135 v136 => ?_)
        refine x_iload 1 rfl dL_law_1441 ?_
        refine x_icmp_eq (tgt := 1448) rfl dL_law_1443 (fun c => ?_) (fun c => ?_)
        · refine x_iload 1 rfl dL_law_1448 ?_
          refine x_if_ne (tgt := 1465) rfl dL_law_1450 (fun c => ?_) (fun c => ?_)
          · exact GX.pick [2, 3, 4, 5, 6] rfl <| GX.widen (k := kc + 5) (j := ks + 30) (by omega) (by omega) <| Slaw_b1465 b N xs kc ks hc hs  (flaw N xs n) hrec23 M135 x4
          · refine x_aload_n 5 rfl rfl dL_law_1453 ?_
            refine x_iconst (v := 0) (by decide) dL_law_1454 ?_
            refine x_laldL (j := 0) kd_121 (by decide) (by decide) dL_law_1455 ?_
            refine x_iload 0 rfl dL_law_1456 ?_
            refine x_i2l dL_law_1458 ?_
            refine x_lcmp dL_law_1459 ?_
            refine x_if_eq (tgt := 1465) rfl dL_law_1460 (fun c => ?_) (fun c => ?_)
            · exact GX.pick [2, 3, 4, 5, 6] rfl <| GX.widen (k := kc + 5) (j := ks + 30) (by omega) (by omega) <| Slaw_b1465 b N xs kc ks hc hs  (flaw N xs n) hrec23 M135 x4
            · refine x_iconst (v := 0) (by decide) dL_law_1463 ?_
              exact l_ret0 dL_law_1464
        · refine x_iconst (v := 0) (by decide) dL_law_1446 ?_
          exact l_ret0 dL_law_1447
      refine x_tabI (tgt := 1468) (off := 1428) 26 rfl (by decide) (by decide) (by decide) dL_law_40 ?_ (fun c26 => ?_)
      · refine x_aload_n 1 rfl rfl dL_law_1468 ?_
        refine x_aload_n 0 rfl rfl dL_law_1469 ?_
        refine x_iload 4 rfl dL_law_1470 ?_
        refine x_iconst (v := 1) (by decide) dL_law_1472 ?_
        refine x_iadd dL_law_1473 ?_
        refine x_sld dL_law_1474 (fun _ => ?_)
        refine x_aload_n 3 rfl rfl dL_law_1475 ?_
        refine x_callSH (y := miL_envied) (hh := [(0, 9, 12, 18)]) (As := [.ref 0, .int (xs (ix (x4 + 1))), .ref 121]) (rest := []) mhL_envied rfl mlL_199 (by decide) ⟨by show _ ≤ 601024; omega, by show _ ≤ 7293034; omega⟩ (by simp [Value.category]) rfl dL_law_1476 (SL_envied  M (xs (ix (x4 + 1)))) (fun _ _ => XH.none) (fun M137 v138 => ?_)
        refine x_istore (L' := [(5, .int v138), (0, .ref (1000 + 33)), (1, .ref 0), (2, .ref 87), (3, .ref 121), (4, .int x4)]) (by decide) rfl dL_law_1479 ?_
        refine x_aload_n 3 rfl rfl dL_law_1481 ?_
        refine x_aload_n 1 rfl rfl dL_law_1482 ?_
        refine x_iload 5 rfl dL_law_1483 ?_
        refine x_iconst (v := 1) (by decide) dL_law_1485 ?_
        refine x_iadd dL_law_1486 ?_
        refine x_sld dL_law_1487 (fun _ => ?_)
        refine x_callVI (y := miX12_envied) (As := [.int (xs (ix (x4 + 1)))]) (rest := []) clX12 kd_87 rfl moX12_envied rfl mlL_201 (by decide) ⟨by show _ ≤ 601024; omega, by show _ ≤ 7293034; omega⟩ (by simp [Value.category]) rfl dL_law_1488 (SX12_envied  M137 (xs (ix (x4 + 1)))) (fun _ _ => XH.none) (fun M139 v140 => ?_)
        refine x_istore (L' := [(6, .int v140), (5, .int v138), (0, .ref (1000 + 33)), (1, .ref 0), (2, .ref 87), (3, .ref 121), (4, .int x4)]) (by decide) rfl dL_law_1491 ?_
        refine x_aload_n 4 rfl rfl dL_law_1493 ?_
        refine x_callVI (y := miX12_thrown) (As := []) (rest := []) clX12 kd_87 rfl moX12_thrown rfl mlL_112 (by decide) ⟨by show _ ≤ 601024; omega, by show _ ≤ 7293034; omega⟩ (by simp [Value.category]) rfl dL_law_1494 (SX12_thrown  M139) (fun _ _ => XH.none) (fun M141 v142 => ?_)
        refine x_iload 1 rfl dL_law_1497 ?_
        refine x_icmp_eq (tgt := 1504) rfl dL_law_1499 (fun c => ?_) (fun c => ?_)
        · refine x_iload 1 rfl dL_law_1504 ?_
          refine x_if_ne (tgt := 1521) rfl dL_law_1506 (fun c => ?_) (fun c => ?_)
          · exact GX.pick [2, 3, 4, 5, 6] rfl <| GX.widen (k := kc + 5) (j := ks + 30) (by omega) (by omega) <| Slaw_b1521 b N xs kc ks hc hs  (flaw N xs n) hrec23 M141 x4
          · refine x_aload_n 5 rfl rfl dL_law_1509 ?_
            refine x_iconst (v := 0) (by decide) dL_law_1510 ?_
            refine x_laldL (j := 0) kd_121 (by decide) (by decide) dL_law_1511 ?_
            refine x_iload 0 rfl dL_law_1512 ?_
            refine x_i2l dL_law_1514 ?_
            refine x_lcmp dL_law_1515 ?_
            refine x_if_eq (tgt := 1521) rfl dL_law_1516 (fun c => ?_) (fun c => ?_)
            · exact GX.pick [2, 3, 4, 5, 6] rfl <| GX.widen (k := kc + 5) (j := ks + 30) (by omega) (by omega) <| Slaw_b1521 b N xs kc ks hc hs  (flaw N xs n) hrec23 M141 x4
            · refine x_iconst (v := 0) (by decide) dL_law_1519 ?_
              exact l_ret0 dL_law_1520
        · refine x_iconst (v := 0) (by decide) dL_law_1502 ?_
          exact l_ret0 dL_law_1503
      refine x_tabI (tgt := 1524) (off := 1484) 27 rfl (by decide) (by decide) (by decide) dL_law_40 ?_ (fun c27 => ?_)
      · refine x_aload_n 1 rfl rfl dL_law_1524 ?_
        refine x_aload_n 0 rfl rfl dL_law_1525 ?_
        refine x_iload 4 rfl dL_law_1526 ?_
        refine x_iconst (v := 1) (by decide) dL_law_1528 ?_
        refine x_iadd dL_law_1529 ?_
        refine x_sld dL_law_1530 (fun _ => ?_)
        refine x_aload_n 0 rfl rfl dL_law_1531 ?_
        refine x_iload 4 rfl dL_law_1532 ?_
        refine x_iconst (v := 2) (by decide) dL_law_1534 ?_
        refine x_iadd dL_law_1535 ?_
        refine x_sld dL_law_1536 (fun _ => ?_)
        refine x_aload_n 3 rfl rfl dL_law_1537 ?_
        refine x_callSH (y := miL_without) (hh := [(0, 10, 13, 18), (0, 10, 17, 13)]) (As := [.ref 0, .int (xs (ix (x4 + 1))), .int (xs (ix (x4 + 2))), .ref 121]) (rest := []) mhL_without rfl mlL_202 (by decide) ⟨by show _ ≤ 601024; omega, by show _ ≤ 7293034; omega⟩ (by simp [Value.category]) rfl dL_law_1538 (SL_without  M (xs (ix (x4 + 1))) (xs (ix (x4 + 2)))) (fun _ _ => XH.none) (fun M143 v144 => ?_)
        refine x_istore (L' := [(5, .int v144), (0, .ref (1000 + 33)), (1, .ref 0), (2, .ref 87), (3, .ref 121), (4, .int x4)]) (by decide) rfl dL_law_1541 ?_
        refine x_aload_n 3 rfl rfl dL_law_1543 ?_
        refine x_aload_n 1 rfl rfl dL_law_1544 ?_
        refine x_iload 5 rfl dL_law_1545 ?_
        refine x_iconst (v := 1) (by decide) dL_law_1547 ?_
        refine x_iadd dL_law_1548 ?_
        refine x_sld dL_law_1549 (fun _ => ?_)
        refine x_aload_n 1 rfl rfl dL_law_1550 ?_
        refine x_iload 5 rfl dL_law_1551 ?_
        refine x_iconst (v := 2) (by decide) dL_law_1553 ?_
        refine x_iadd dL_law_1554 ?_
        refine x_sld dL_law_1555 (fun _ => ?_)
        refine x_callVI (y := miX12_without) (As := [.int (xs (ix (x4 + 1))), .int (xs (ix (x4 + 2)))]) (rest := []) clX12 kd_87 rfl moX12_without rfl mlL_204 (by decide) ⟨by show _ ≤ 601024; omega, by show _ ≤ 7293034; omega⟩ (by simp [Value.category]) rfl dL_law_1556 (SX12_without  M143 (xs (ix (x4 + 1))) (xs (ix (x4 + 2)))) (fun _ _ => XH.none) (fun M145 v146 => ?_)
        refine x_istore (L' := [(6, .int v146), (5, .int v144), (0, .ref (1000 + 33)), (1, .ref 0), (2, .ref 87), (3, .ref 121), (4, .int x4)]) (by decide) rfl dL_law_1559 ?_
        refine x_aload_n 4 rfl rfl dL_law_1561 ?_
        refine x_callVI (y := miX12_thrown) (As := []) (rest := []) clX12 kd_87 rfl moX12_thrown rfl mlL_112 (by decide) ⟨by show _ ≤ 601024; omega, by show _ ≤ 7293034; omega⟩ (by simp [Value.category]) rfl dL_law_1562 (SX12_thrown  M145) (fun _ _ => XH.none) (fun M147 v148 => ?_)
        refine x_iload 1 rfl dL_law_1565 ?_
        refine x_icmp_eq (tgt := 1572) rfl dL_law_1567 (fun c => ?_) (fun c => ?_)
        · refine x_iload 1 rfl dL_law_1572 ?_
          refine x_if_ne (tgt := 1589) rfl dL_law_1574 (fun c => ?_) (fun c => ?_)
          · exact GX.pick [2, 3, 4, 5, 6] rfl <| GX.widen (k := kc + 5) (j := ks + 30) (by omega) (by omega) <| Slaw_b1589 b N xs kc ks hc hs  (flaw N xs n) hrec23 M147 x4
          · refine x_aload_n 5 rfl rfl dL_law_1577 ?_
            refine x_iconst (v := 0) (by decide) dL_law_1578 ?_
            refine x_laldL (j := 0) kd_121 (by decide) (by decide) dL_law_1579 ?_
            refine x_iload 0 rfl dL_law_1580 ?_
            refine x_i2l dL_law_1582 ?_
            refine x_lcmp dL_law_1583 ?_
            refine x_if_eq (tgt := 1589) rfl dL_law_1584 (fun c => ?_) (fun c => ?_)
            · exact GX.pick [2, 3, 4, 5, 6] rfl <| GX.widen (k := kc + 5) (j := ks + 30) (by omega) (by omega) <| Slaw_b1589 b N xs kc ks hc hs  (flaw N xs n) hrec23 M147 x4
            · refine x_iconst (v := 0) (by decide) dL_law_1587 ?_
              exact l_ret0 dL_law_1588
        · refine x_iconst (v := 0) (by decide) dL_law_1570 ?_
          exact l_ret0 dL_law_1571
      refine x_tabI (tgt := 1592) (off := 1552) 28 rfl (by decide) (by decide) (by decide) dL_law_40 ?_ (fun c28 => ?_)
      · refine x_aload_n 1 rfl rfl dL_law_1592 ?_
        refine x_aload_n 0 rfl rfl dL_law_1593 ?_
        refine x_iload 4 rfl dL_law_1594 ?_
        refine x_iconst (v := 1) (by decide) dL_law_1596 ?_
        refine x_iadd dL_law_1597 ?_
        refine x_sld dL_law_1598 (fun _ => ?_)
        refine x_aload_n 3 rfl rfl dL_law_1599 ?_
        refine x_callSH (y := miL_lastPlace) (hh := [(0, 9, 12, 18)]) (As := [.ref 0, .int (xs (ix (x4 + 1))), .ref 121]) (rest := []) mhL_lastPlace rfl mlL_205 (by decide) ⟨by show _ ≤ 601024; omega, by show _ ≤ 7293034; omega⟩ (by simp [Value.category]) rfl dL_law_1600 (SL_lastPlace  M (xs (ix (x4 + 1)))) (fun _ _ => XH.none) (fun M149 v150 => ?_)
        refine x_istore (L' := [(5, .int v150), (0, .ref (1000 + 33)), (1, .ref 0), (2, .ref 87), (3, .ref 121), (4, .int x4)]) (by decide) rfl dL_law_1603 ?_
        refine x_aload_n 3 rfl rfl dL_law_1605 ?_
        refine x_aload_n 1 rfl rfl dL_law_1606 ?_
        refine x_iload 5 rfl dL_law_1607 ?_
        refine x_iconst (v := 1) (by decide) dL_law_1609 ?_
        refine x_iadd dL_law_1610 ?_
        refine x_sld dL_law_1611 (fun _ => ?_)
        refine x_callVI (y := miX12_lastPlace) (As := [.int (xs (ix (x4 + 1)))]) (rest := []) clX12 kd_87 rfl moX12_lastPlace rfl mlL_207 (by decide) ⟨by show _ ≤ 601024; omega, by show _ ≤ 7293034; omega⟩ (by simp [Value.category]) rfl dL_law_1612 (SX12_lastPlace  M149 (xs (ix (x4 + 1)))) (fun _ _ => XH.none) (fun M151 v152 => ?_)
        refine x_istore (L' := [(6, .int v152), (5, .int v150), (0, .ref (1000 + 33)), (1, .ref 0), (2, .ref 87), (3, .ref 121), (4, .int x4)]) (by decide) rfl dL_law_1615 ?_
        refine x_aload_n 4 rfl rfl dL_law_1617 ?_
        refine x_callVI (y := miX12_thrown) (As := []) (rest := []) clX12 kd_87 rfl moX12_thrown rfl mlL_112 (by decide) ⟨by show _ ≤ 601024; omega, by show _ ≤ 7293034; omega⟩ (by simp [Value.category]) rfl dL_law_1618 (SX12_thrown  M151) (fun _ _ => XH.none) (fun M153 v154 => ?_)
        refine x_iload 1 rfl dL_law_1621 ?_
        refine x_icmp_eq (tgt := 1628) rfl dL_law_1623 (fun c => ?_) (fun c => ?_)
        · refine x_iload 1 rfl dL_law_1628 ?_
          refine x_if_ne (tgt := 1645) rfl dL_law_1630 (fun c => ?_) (fun c => ?_)
          · exact GX.pick [2, 3, 4, 5, 6] rfl <| GX.widen (k := kc + 5) (j := ks + 30) (by omega) (by omega) <| Slaw_b1645 b N xs kc ks hc hs  (flaw N xs n) hrec23 M153 x4
          · refine x_aload_n 5 rfl rfl dL_law_1633 ?_
            refine x_iconst (v := 0) (by decide) dL_law_1634 ?_
            refine x_laldL (j := 0) kd_121 (by decide) (by decide) dL_law_1635 ?_
            refine x_iload 0 rfl dL_law_1636 ?_
            refine x_i2l dL_law_1638 ?_
            refine x_lcmp dL_law_1639 ?_
            refine x_if_eq (tgt := 1645) rfl dL_law_1640 (fun c => ?_) (fun c => ?_)
            · exact GX.pick [2, 3, 4, 5, 6] rfl <| GX.widen (k := kc + 5) (j := ks + 30) (by omega) (by omega) <| Slaw_b1645 b N xs kc ks hc hs  (flaw N xs n) hrec23 M153 x4
            · refine x_iconst (v := 0) (by decide) dL_law_1643 ?_
              exact l_ret0 dL_law_1644
        · refine x_iconst (v := 0) (by decide) dL_law_1626 ?_
          exact l_ret0 dL_law_1627
      refine x_tabI (tgt := 1648) (off := 1608) 29 rfl (by decide) (by decide) (by decide) dL_law_40 ?_ (fun c29 => ?_)
      · refine x_aload_n 1 rfl rfl dL_law_1648 ?_
        refine x_aload_n 0 rfl rfl dL_law_1649 ?_
        refine x_iload 4 rfl dL_law_1650 ?_
        refine x_iconst (v := 1) (by decide) dL_law_1652 ?_
        refine x_iadd dL_law_1653 ?_
        refine x_sld dL_law_1654 (fun _ => ?_)
        refine x_aload_n 3 rfl rfl dL_law_1655 ?_
        refine x_callSH (y := miL_famine) (hh := [(0, 9, 12, 13)]) (As := [.ref 0, .int (xs (ix (x4 + 1))), .ref 121]) (rest := []) mhL_famine rfl mlL_208 (by decide) ⟨by show _ ≤ 601024; omega, by show _ ≤ 7293034; omega⟩ (by simp [Value.category]) rfl dL_law_1656 (SL_famine  M (xs (ix (x4 + 1)))) (fun _ _ => XH.none) (fun M155 v156 => ?_)
        refine x_istore (L' := [(5, .int v156), (0, .ref (1000 + 33)), (1, .ref 0), (2, .ref 87), (3, .ref 121), (4, .int x4)]) (by decide) rfl dL_law_1659 ?_
        refine x_aload_n 3 rfl rfl dL_law_1661 ?_
        refine x_aload_n 1 rfl rfl dL_law_1662 ?_
        refine x_iload 5 rfl dL_law_1663 ?_
        refine x_iconst (v := 1) (by decide) dL_law_1665 ?_
        refine x_iadd dL_law_1666 ?_
        refine x_sld dL_law_1667 (fun _ => ?_)
        refine x_callVI (y := miX12_famine) (As := [.int (xs (ix (x4 + 1)))]) (rest := []) clX12 kd_87 rfl moX12_famine rfl mlL_210 (by decide) ⟨by show _ ≤ 601024; omega, by show _ ≤ 7293034; omega⟩ (by simp [Value.category]) rfl dL_law_1668 (SX12_famine  M155 (xs (ix (x4 + 1)))) (fun _ _ => XH.none) (fun M157 v158 => ?_)
        refine x_istore (L' := [(6, .int v158), (5, .int v156), (0, .ref (1000 + 33)), (1, .ref 0), (2, .ref 87), (3, .ref 121), (4, .int x4)]) (by decide) rfl dL_law_1671 ?_
        refine x_aload_n 4 rfl rfl dL_law_1673 ?_
        refine x_callVI (y := miX12_thrown) (As := []) (rest := []) clX12 kd_87 rfl moX12_thrown rfl mlL_112 (by decide) ⟨by show _ ≤ 601024; omega, by show _ ≤ 7293034; omega⟩ (by simp [Value.category]) rfl dL_law_1674 (SX12_thrown  M157) (fun _ _ => XH.none) (fun M159 v160 => ?_)
        refine x_iload 1 rfl dL_law_1677 ?_
        refine x_icmp_eq (tgt := 1684) rfl dL_law_1679 (fun c => ?_) (fun c => ?_)
        · refine x_iload 1 rfl dL_law_1684 ?_
          refine x_if_ne (tgt := 1701) rfl dL_law_1686 (fun c => ?_) (fun c => ?_)
          · exact GX.pick [2, 3, 4, 5, 6] rfl <| GX.widen (k := kc + 5) (j := ks + 30) (by omega) (by omega) <| Slaw_b1701 b N xs kc ks hc hs  (flaw N xs n) hrec23 M159 x4
          · refine x_aload_n 5 rfl rfl dL_law_1689 ?_
            refine x_iconst (v := 0) (by decide) dL_law_1690 ?_
            refine x_laldL (j := 0) kd_121 (by decide) (by decide) dL_law_1691 ?_
            refine x_iload 0 rfl dL_law_1692 ?_
            refine x_i2l dL_law_1694 ?_
            refine x_lcmp dL_law_1695 ?_
            refine x_if_eq (tgt := 1701) rfl dL_law_1696 (fun c => ?_) (fun c => ?_)
            · exact GX.pick [2, 3, 4, 5, 6] rfl <| GX.widen (k := kc + 5) (j := ks + 30) (by omega) (by omega) <| Slaw_b1701 b N xs kc ks hc hs  (flaw N xs n) hrec23 M159 x4
            · refine x_iconst (v := 0) (by decide) dL_law_1699 ?_
              exact l_ret0 dL_law_1700
        · refine x_iconst (v := 0) (by decide) dL_law_1682 ?_
          exact l_ret0 dL_law_1683
      refine x_tabI (tgt := 1704) (off := 1664) 30 rfl (by decide) (by decide) (by decide) dL_law_40 ?_ (fun c30 => ?_)
      · refine x_aload_n 1 rfl rfl dL_law_1704 ?_
        refine x_aload_n 0 rfl rfl dL_law_1705 ?_
        refine x_iload 4 rfl dL_law_1706 ?_
        refine x_iconst (v := 1) (by decide) dL_law_1708 ?_
        refine x_iadd dL_law_1709 ?_
        refine x_sld dL_law_1710 (fun _ => ?_)
        refine x_aload_n 0 rfl rfl dL_law_1711 ?_
        refine x_iload 4 rfl dL_law_1712 ?_
        refine x_iconst (v := 2) (by decide) dL_law_1714 ?_
        refine x_iadd dL_law_1715 ?_
        refine x_sld dL_law_1716 (fun _ => ?_)
        refine x_aload_n 3 rfl rfl dL_law_1717 ?_
        refine x_callSH (y := miL_bushels) (hh := [(0, 10, 13, 18), (0, 10, 17, 13)]) (As := [.ref 0, .int (xs (ix (x4 + 1))), .int (xs (ix (x4 + 2))), .ref 121]) (rest := []) mhL_bushels rfl mlL_211 (by decide) ⟨by show _ ≤ 601024; omega, by show _ ≤ 7293034; omega⟩ (by simp [Value.category]) rfl dL_law_1718 (SL_bushels  M (xs (ix (x4 + 1))) (xs (ix (x4 + 2)))) (fun _ _ => XH.none) (fun M161 v162 => ?_)
        refine x_istore (L' := [(5, .int v162), (0, .ref (1000 + 33)), (1, .ref 0), (2, .ref 87), (3, .ref 121), (4, .int x4)]) (by decide) rfl dL_law_1721 ?_
        refine x_aload_n 3 rfl rfl dL_law_1723 ?_
        refine x_aload_n 1 rfl rfl dL_law_1724 ?_
        refine x_iload 5 rfl dL_law_1725 ?_
        refine x_iconst (v := 1) (by decide) dL_law_1727 ?_
        refine x_iadd dL_law_1728 ?_
        refine x_sld dL_law_1729 (fun _ => ?_)
        refine x_aload_n 1 rfl rfl dL_law_1730 ?_
        refine x_iload 5 rfl dL_law_1731 ?_
        refine x_iconst (v := 2) (by decide) dL_law_1733 ?_
        refine x_iadd dL_law_1734 ?_
        refine x_sld dL_law_1735 (fun _ => ?_)
        refine x_callVI (y := miX12_bushels) (As := [.int (xs (ix (x4 + 1))), .int (xs (ix (x4 + 2)))]) (rest := []) clX12 kd_87 rfl moX12_bushels rfl mlL_213 (by decide) ⟨by show _ ≤ 601024; omega, by show _ ≤ 7293034; omega⟩ (by simp [Value.category]) rfl dL_law_1736 (SX12_bushels  M161 (xs (ix (x4 + 1))) (xs (ix (x4 + 2)))) (fun _ _ => XH.none) (fun M163 v164 => ?_)
        refine x_istore (L' := [(6, .int v164), (5, .int v162), (0, .ref (1000 + 33)), (1, .ref 0), (2, .ref 87), (3, .ref 121), (4, .int x4)]) (by decide) rfl dL_law_1739 ?_
        refine x_aload_n 4 rfl rfl dL_law_1741 ?_
        refine x_callVI (y := miX12_thrown) (As := []) (rest := []) clX12 kd_87 rfl moX12_thrown rfl mlL_112 (by decide) ⟨by show _ ≤ 601024; omega, by show _ ≤ 7293034; omega⟩ (by simp [Value.category]) rfl dL_law_1742 (SX12_thrown  M163) (fun _ _ => XH.none) (fun M165 v166 => ?_)
        refine x_iload 1 rfl dL_law_1745 ?_
        refine x_icmp_eq (tgt := 1752) rfl dL_law_1747 (fun c => ?_) (fun c => ?_)
        · refine x_iload 1 rfl dL_law_1752 ?_
          refine x_if_ne (tgt := 1769) rfl dL_law_1754 (fun c => ?_) (fun c => ?_)
          · exact GX.pick [2, 3, 4, 5, 6] rfl <| GX.widen (k := kc + 5) (j := ks + 30) (by omega) (by omega) <| Slaw_b1769 b N xs kc ks hc hs  (flaw N xs n) hrec23 M165 x4
          · refine x_aload_n 5 rfl rfl dL_law_1757 ?_
            refine x_iconst (v := 0) (by decide) dL_law_1758 ?_
            refine x_laldL (j := 0) kd_121 (by decide) (by decide) dL_law_1759 ?_
            refine x_iload 0 rfl dL_law_1760 ?_
            refine x_i2l dL_law_1762 ?_
            refine x_lcmp dL_law_1763 ?_
            refine x_if_eq (tgt := 1769) rfl dL_law_1764 (fun c => ?_) (fun c => ?_)
            · exact GX.pick [2, 3, 4, 5, 6] rfl <| GX.widen (k := kc + 5) (j := ks + 30) (by omega) (by omega) <| Slaw_b1769 b N xs kc ks hc hs  (flaw N xs n) hrec23 M165 x4
            · refine x_iconst (v := 0) (by decide) dL_law_1767 ?_
              exact l_ret0 dL_law_1768
        · refine x_iconst (v := 0) (by decide) dL_law_1750 ?_
          exact l_ret0 dL_law_1751
      refine x_tabI (tgt := 1772) (off := 1732) 31 rfl (by decide) (by decide) (by decide) dL_law_40 ?_ (fun c31 => ?_)
      · refine x_aload_n 1 rfl rfl dL_law_1772 ?_
        refine x_callVI (y := miX11_free) (As := []) (rest := []) clX11 kd_0 rfl moX11_free rfl mlL_214 (by decide) ⟨by show _ ≤ 601024; omega, by show _ ≤ 7293034; omega⟩ (by simp [Value.category]) rfl dL_law_1773 (SX11_free  M) (fun _ _ => XH.none) (fun M167 v168 => ?_)
        refine x_aload_n 2 rfl rfl dL_law_1776 ?_
        refine x_callVI (y := miX12_free) (As := []) (rest := [.int v168]) clX12 kd_87 rfl moX12_free rfl mlL_217 (by decide) ⟨by show _ ≤ 601024; omega, by show _ ≤ 7293034; omega⟩ (by simp [Value.category]) rfl dL_law_1777 (SX12_free  M167) (fun _ _ => XH.none) (fun M169 v170 => ?_)
        refine x_icmp_eq (tgt := 2209) rfl dL_law_1780 (fun c => ?_) (fun c => ?_)
        · exact GX.pick [0, 1, 2, 3, 4] rfl <| GX.widen (k := kc + 5) (j := ks + 30) (by omega) (by omega) <| Slaw_b2209 b N xs kc ks hc hs  (flaw N xs n) hrec23 M169 x4
        · refine x_iconst (v := 0) (by decide) dL_law_1783 ?_
          exact l_ret0 dL_law_1784
      refine x_tabI (tgt := 1785) (off := 1745) 32 rfl (by decide) (by decide) (by decide) dL_law_40 ?_ (fun c32 => ?_)
      · refine x_aload_n 1 rfl rfl dL_law_1785 ?_
        refine x_aload_n 0 rfl rfl dL_law_1786 ?_
        refine x_iload 4 rfl dL_law_1787 ?_
        refine x_iconst (v := 1) (by decide) dL_law_1789 ?_
        refine x_iadd dL_law_1790 ?_
        refine x_sld dL_law_1791 (fun _ => ?_)
        refine x_aload_n 3 rfl rfl dL_law_1792 ?_
        refine x_callSH (y := miL_richest) (hh := [(0, 9, 12, 13)]) (As := [.ref 0, .int (xs (ix (x4 + 1))), .ref 121]) (rest := []) mhL_richest rfl mlL_218 (by decide) ⟨by show _ ≤ 601024; omega, by show _ ≤ 7293034; omega⟩ (by simp [Value.category]) rfl dL_law_1793 (SL_richest  M (xs (ix (x4 + 1)))) (fun _ _ => XH.none) (fun M171 v172 => ?_)
        refine x_istore (L' := [(5, .int v172), (0, .ref (1000 + 33)), (1, .ref 0), (2, .ref 87), (3, .ref 121), (4, .int x4)]) (by decide) rfl dL_law_1796 ?_
        refine x_aload_n 3 rfl rfl dL_law_1798 ?_
        refine x_aload_n 1 rfl rfl dL_law_1799 ?_
        refine x_iload 5 rfl dL_law_1800 ?_
        refine x_iconst (v := 1) (by decide) dL_law_1802 ?_
        refine x_iadd dL_law_1803 ?_
        refine x_sld dL_law_1804 (fun _ => ?_)
        refine x_callVI (y := miX12_richest) (As := [.int (xs (ix (x4 + 1)))]) (rest := []) clX12 kd_87 rfl moX12_richest rfl mlL_220 (by decide) ⟨by show _ ≤ 601024; omega, by show _ ≤ 7293034; omega⟩ (by simp [Value.category]) rfl dL_law_1805 (SX12_richest  M171 (xs (ix (x4 + 1)))) (fun _ _ => XH.none) (fun M173 v174 => ?_)
        refine x_istore (L' := [(6, .int v174), (5, .int v172), (0, .ref (1000 + 33)), (1, .ref 0), (2, .ref 87), (3, .ref 121), (4, .int x4)]) (by decide) rfl dL_law_1808 ?_
        refine x_aload_n 4 rfl rfl dL_law_1810 ?_
        refine x_callVI (y := miX12_thrown) (As := []) (rest := []) clX12 kd_87 rfl moX12_thrown rfl mlL_112 (by decide) ⟨by show _ ≤ 601024; omega, by show _ ≤ 7293034; omega⟩ (by simp [Value.category]) rfl dL_law_1811 (SX12_thrown  M173) (fun _ _ => XH.none) (fun M175 v176 => ?_)
        refine x_iload 1 rfl dL_law_1814 ?_
        refine x_icmp_eq (tgt := 1821) rfl dL_law_1816 (fun c => ?_) (fun c => ?_)
        · refine x_iload 1 rfl dL_law_1821 ?_
          refine x_if_ne (tgt := 1838) rfl dL_law_1823 (fun c => ?_) (fun c => ?_)
          · exact GX.pick [2, 3, 4, 5, 6] rfl <| GX.widen (k := kc + 5) (j := ks + 30) (by omega) (by omega) <| Slaw_b1838 b N xs kc ks hc hs  (flaw N xs n) hrec23 M175 x4
          · refine x_aload_n 5 rfl rfl dL_law_1826 ?_
            refine x_iconst (v := 0) (by decide) dL_law_1827 ?_
            refine x_laldL (j := 0) kd_121 (by decide) (by decide) dL_law_1828 ?_
            refine x_iload 0 rfl dL_law_1829 ?_
            refine x_i2l dL_law_1831 ?_
            refine x_lcmp dL_law_1832 ?_
            refine x_if_eq (tgt := 1838) rfl dL_law_1833 (fun c => ?_) (fun c => ?_)
            · exact GX.pick [2, 3, 4, 5, 6] rfl <| GX.widen (k := kc + 5) (j := ks + 30) (by omega) (by omega) <| Slaw_b1838 b N xs kc ks hc hs  (flaw N xs n) hrec23 M175 x4
            · refine x_iconst (v := 0) (by decide) dL_law_1836 ?_
              exact l_ret0 dL_law_1837
        · refine x_iconst (v := 0) (by decide) dL_law_1819 ?_
          exact l_ret0 dL_law_1820
      refine x_tabI (tgt := 1841) (off := 1801) 33 rfl (by decide) (by decide) (by decide) dL_law_40 ?_ (fun c33 => ?_)
      · refine x_aload_n 1 rfl rfl dL_law_1841 ?_
        refine x_aload_n 0 rfl rfl dL_law_1842 ?_
        refine x_iload 4 rfl dL_law_1843 ?_
        refine x_iconst (v := 1) (by decide) dL_law_1845 ?_
        refine x_iadd dL_law_1846 ?_
        refine x_sld dL_law_1847 (fun _ => ?_)
        refine x_aload_n 0 rfl rfl dL_law_1848 ?_
        refine x_iload 4 rfl dL_law_1849 ?_
        refine x_iconst (v := 2) (by decide) dL_law_1851 ?_
        refine x_iadd dL_law_1852 ?_
        refine x_sld dL_law_1853 (fun _ => ?_)
        refine x_aload_n 0 rfl rfl dL_law_1854 ?_
        refine x_iload 4 rfl dL_law_1855 ?_
        refine x_iconst (v := 3) (by decide) dL_law_1857 ?_
        refine x_iadd dL_law_1858 ?_
        refine x_sld dL_law_1859 (fun _ => ?_)
        refine x_aload_n 3 rfl rfl dL_law_1860 ?_
        refine x_callSH (y := miL_see) (hh := [(0, 12, 15, 18)]) (As := [.ref 0, .int (xs (ix (x4 + 1))), .int (xs (ix (x4 + 2))), .int (xs (ix (x4 + 3))), .ref 121]) (rest := []) mhL_see rfl mlL_221 (by decide) ⟨by show _ ≤ 601024; omega, by show _ ≤ 7293034; omega⟩ (by simp [Value.category]) rfl dL_law_1861 (SL_see  M (xs (ix (x4 + 1))) (xs (ix (x4 + 2))) (xs (ix (x4 + 3)))) (fun _ _ => XH.none) (fun M177 v178 => ?_)
        refine x_istore (L' := [(5, .int v178), (0, .ref (1000 + 33)), (1, .ref 0), (2, .ref 87), (3, .ref 121), (4, .int x4)]) (by decide) rfl dL_law_1864 ?_
        refine x_aload_n 3 rfl rfl dL_law_1866 ?_
        refine x_aload_n 1 rfl rfl dL_law_1867 ?_
        refine x_iload 5 rfl dL_law_1868 ?_
        refine x_iconst (v := 1) (by decide) dL_law_1870 ?_
        refine x_iadd dL_law_1871 ?_
        refine x_sld dL_law_1872 (fun _ => ?_)
        refine x_aload_n 1 rfl rfl dL_law_1873 ?_
        refine x_iload 5 rfl dL_law_1874 ?_
        refine x_iconst (v := 2) (by decide) dL_law_1876 ?_
        refine x_iadd dL_law_1877 ?_
        refine x_sld dL_law_1878 (fun _ => ?_)
        refine x_aload_n 1 rfl rfl dL_law_1879 ?_
        refine x_iload 5 rfl dL_law_1880 ?_
        refine x_iconst (v := 3) (by decide) dL_law_1882 ?_
        refine x_iadd dL_law_1883 ?_
        refine x_sld dL_law_1884 (fun _ => ?_)
        refine x_callVI (y := miX12_see) (As := [.int (xs (ix (x4 + 1))), .int (xs (ix (x4 + 2))), .int (xs (ix (x4 + 3)))]) (rest := []) clX12 kd_87 rfl moX12_see rfl mlL_223 (by decide) ⟨by show _ ≤ 601024; omega, by show _ ≤ 7293034; omega⟩ (by simp [Value.category]) rfl dL_law_1885 (SX12_see  M177 (xs (ix (x4 + 1))) (xs (ix (x4 + 2))) (xs (ix (x4 + 3)))) (fun _ _ => XH.none) (fun M179 v180 => ?_)
        refine x_istore (L' := [(6, .int v180), (5, .int v178), (0, .ref (1000 + 33)), (1, .ref 0), (2, .ref 87), (3, .ref 121), (4, .int x4)]) (by decide) rfl dL_law_1888 ?_
        refine x_aload_n 4 rfl rfl dL_law_1890 ?_
        refine x_callVI (y := miX12_thrown) (As := []) (rest := []) clX12 kd_87 rfl moX12_thrown rfl mlL_112 (by decide) ⟨by show _ ≤ 601024; omega, by show _ ≤ 7293034; omega⟩ (by simp [Value.category]) rfl dL_law_1891 (SX12_thrown  M179) (fun _ _ => XH.none) (fun M181 v182 => ?_)
        refine x_iload 1 rfl dL_law_1894 ?_
        refine x_icmp_eq (tgt := 1901) rfl dL_law_1896 (fun c => ?_) (fun c => ?_)
        · refine x_iload 1 rfl dL_law_1901 ?_
          refine x_if_ne (tgt := 1918) rfl dL_law_1903 (fun c => ?_) (fun c => ?_)
          · exact GX.pick [2, 3, 4, 5, 6] rfl <| GX.widen (k := kc + 5) (j := ks + 30) (by omega) (by omega) <| Slaw_b1918 b N xs kc ks hc hs  (flaw N xs n) hrec23 M181 x4
          · refine x_aload_n 5 rfl rfl dL_law_1906 ?_
            refine x_iconst (v := 0) (by decide) dL_law_1907 ?_
            refine x_laldL (j := 0) kd_121 (by decide) (by decide) dL_law_1908 ?_
            refine x_iload 0 rfl dL_law_1909 ?_
            refine x_i2l dL_law_1911 ?_
            refine x_lcmp dL_law_1912 ?_
            refine x_if_eq (tgt := 1918) rfl dL_law_1913 (fun c => ?_) (fun c => ?_)
            · exact GX.pick [2, 3, 4, 5, 6] rfl <| GX.widen (k := kc + 5) (j := ks + 30) (by omega) (by omega) <| Slaw_b1918 b N xs kc ks hc hs  (flaw N xs n) hrec23 M181 x4
            · refine x_iconst (v := 0) (by decide) dL_law_1916 ?_
              exact l_ret0 dL_law_1917
        · refine x_iconst (v := 0) (by decide) dL_law_1899 ?_
          exact l_ret0 dL_law_1900
      refine x_tabI (tgt := 1921) (off := 1881) 34 rfl (by decide) (by decide) (by decide) dL_law_40 ?_ (fun c34 => ?_)
      · refine x_aload_n 1 rfl rfl dL_law_1921 ?_
        refine x_callVI (y := miX11_brothers) (As := []) (rest := []) clX11 kd_0 rfl moX11_brothers rfl mlL_224 (by decide) ⟨by show _ ≤ 601024; omega, by show _ ≤ 7293034; omega⟩ (by simp [Value.category]) rfl dL_law_1922 (SX11_brothers  M) (fun _ _ => XH.none) (fun M183 v184 => ?_)
        refine x_aload_n 2 rfl rfl dL_law_1925 ?_
        refine x_callVI (y := miX12_brothers) (As := []) (rest := [.int v184]) clX12 kd_87 rfl moX12_brothers rfl mlL_227 (by decide) ⟨by show _ ≤ 601024; omega, by show _ ≤ 7293034; omega⟩ (by simp [Value.category]) rfl dL_law_1926 (SX12_brothers  M183) (fun _ _ => XH.none) (fun M185 v186 => ?_)
        refine x_icmp_eq (tgt := 2209) rfl dL_law_1929 (fun c => ?_) (fun c => ?_)
        · exact GX.pick [0, 1, 2, 3, 4] rfl <| GX.widen (k := kc + 5) (j := ks + 30) (by omega) (by omega) <| Slaw_b2209 b N xs kc ks hc hs  (flaw N xs n) hrec23 M185 x4
        · refine x_iconst (v := 0) (by decide) dL_law_1932 ?_
          exact l_ret0 dL_law_1933
      refine x_tabI (tgt := 1934) (off := 1894) 35 rfl (by decide) (by decide) (by decide) dL_law_40 ?_ (fun c35 => ?_)
      · refine x_aload_n 1 rfl rfl dL_law_1934 ?_
        refine x_aload_n 0 rfl rfl dL_law_1935 ?_
        refine x_iload 4 rfl dL_law_1936 ?_
        refine x_iconst (v := 1) (by decide) dL_law_1938 ?_
        refine x_iadd dL_law_1939 ?_
        refine x_sld dL_law_1940 (fun _ => ?_)
        refine x_aload_n 0 rfl rfl dL_law_1941 ?_
        refine x_iload 4 rfl dL_law_1942 ?_
        refine x_iconst (v := 2) (by decide) dL_law_1944 ?_
        refine x_iadd dL_law_1945 ?_
        refine x_sld dL_law_1946 (fun _ => ?_)
        refine x_aload_n 3 rfl rfl dL_law_1947 ?_
        refine x_callSH (y := miL_look) (hh := [(0, 10, 13, 18)]) (As := [.ref 0, .int (xs (ix (x4 + 1))), .int (xs (ix (x4 + 2))), .ref 121]) (rest := []) mhL_look rfl mlL_228 (by decide) ⟨by show _ ≤ 601024; omega, by show _ ≤ 7293034; omega⟩ (by simp [Value.category]) rfl dL_law_1948 (SL_look  M (xs (ix (x4 + 1))) (xs (ix (x4 + 2)))) (fun _ _ => XH.none) (fun M187 v188 => ?_)
        refine x_istore (L' := [(5, .int v188), (0, .ref (1000 + 33)), (1, .ref 0), (2, .ref 87), (3, .ref 121), (4, .int x4)]) (by decide) rfl dL_law_1951 ?_
        refine x_aload_n 3 rfl rfl dL_law_1953 ?_
        refine x_aload_n 1 rfl rfl dL_law_1954 ?_
        refine x_iload 5 rfl dL_law_1955 ?_
        refine x_iconst (v := 1) (by decide) dL_law_1957 ?_
        refine x_iadd dL_law_1958 ?_
        refine x_sld dL_law_1959 (fun _ => ?_)
        refine x_aload_n 1 rfl rfl dL_law_1960 ?_
        refine x_iload 5 rfl dL_law_1961 ?_
        refine x_iconst (v := 2) (by decide) dL_law_1963 ?_
        refine x_iadd dL_law_1964 ?_
        refine x_sld dL_law_1965 (fun _ => ?_)
        refine x_callVI (y := miX12_look) (As := [.int (xs (ix (x4 + 1))), .int (xs (ix (x4 + 2)))]) (rest := []) clX12 kd_87 rfl moX12_look rfl mlL_230 (by decide) ⟨by show _ ≤ 601024; omega, by show _ ≤ 7293034; omega⟩ (by simp [Value.category]) rfl dL_law_1966 (SX12_look  M187 (xs (ix (x4 + 1))) (xs (ix (x4 + 2)))) (fun _ _ => XH.none) (fun M189 v190 => ?_)
        refine x_istore (L' := [(6, .int v190), (5, .int v188), (0, .ref (1000 + 33)), (1, .ref 0), (2, .ref 87), (3, .ref 121), (4, .int x4)]) (by decide) rfl dL_law_1969 ?_
        refine x_aload_n 4 rfl rfl dL_law_1971 ?_
        refine x_callVI (y := miX12_thrown) (As := []) (rest := []) clX12 kd_87 rfl moX12_thrown rfl mlL_112 (by decide) ⟨by show _ ≤ 601024; omega, by show _ ≤ 7293034; omega⟩ (by simp [Value.category]) rfl dL_law_1972 (SX12_thrown  M189) (fun _ _ => XH.none) (fun M191 v192 => ?_)
        refine x_iload 1 rfl dL_law_1975 ?_
        refine x_icmp_eq (tgt := 1982) rfl dL_law_1977 (fun c => ?_) (fun c => ?_)
        · refine x_iload 1 rfl dL_law_1982 ?_
          refine x_if_ne (tgt := 1999) rfl dL_law_1984 (fun c => ?_) (fun c => ?_)
          · exact GX.pick [2, 3, 4, 5, 6] rfl <| GX.widen (k := kc + 5) (j := ks + 30) (by omega) (by omega) <| Slaw_b1999 b N xs kc ks hc hs  (flaw N xs n) hrec23 M191 x4
          · refine x_aload_n 5 rfl rfl dL_law_1987 ?_
            refine x_iconst (v := 0) (by decide) dL_law_1988 ?_
            refine x_laldL (j := 0) kd_121 (by decide) (by decide) dL_law_1989 ?_
            refine x_iload 0 rfl dL_law_1990 ?_
            refine x_i2l dL_law_1992 ?_
            refine x_lcmp dL_law_1993 ?_
            refine x_if_eq (tgt := 1999) rfl dL_law_1994 (fun c => ?_) (fun c => ?_)
            · exact GX.pick [2, 3, 4, 5, 6] rfl <| GX.widen (k := kc + 5) (j := ks + 30) (by omega) (by omega) <| Slaw_b1999 b N xs kc ks hc hs  (flaw N xs n) hrec23 M191 x4
            · refine x_iconst (v := 0) (by decide) dL_law_1997 ?_
              exact l_ret0 dL_law_1998
        · refine x_iconst (v := 0) (by decide) dL_law_1980 ?_
          exact l_ret0 dL_law_1981
      refine x_tabI (tgt := 2002) (off := 1962) 36 rfl (by decide) (by decide) (by decide) dL_law_40 ?_ (fun c36 => ?_)
      · refine x_aload_n 1 rfl rfl dL_law_2002 ?_
        refine x_callVV (y := miX11_forget) (As := []) (rest := []) clX11 kd_0 rfl moX11_forget rfl mlL_231 (by decide) ⟨by show _ ≤ 601024; omega, by show _ ≤ 7293034; omega⟩ (by simp [Value.category]) rfl dL_law_2003 (SX11_forget  M) (fun _ _ => XH.none) (fun M193 => ?_)
        refine x_aload_n 2 rfl rfl dL_law_2006 ?_
        refine x_callVV (y := miX12_forget) (As := []) (rest := []) clX12 kd_87 rfl moX12_forget rfl mlL_234 (by decide) ⟨by show _ ≤ 601024; omega, by show _ ≤ 7293034; omega⟩ (by simp [Value.category]) rfl dL_law_2007 (SX12_forget  M193) (fun _ _ => XH.none) (fun M195 => ?_)
        refine x_goto (tgt := 2209) rfl dL_law_2010 ?_
        exact GX.pick [0, 1, 2, 3, 4] rfl <| GX.widen (k := kc + 5) (j := ks + 30) (by omega) (by omega) <| Slaw_b2209 b N xs kc ks hc hs  (flaw N xs n) hrec23 M195 x4
      refine x_tabI (tgt := 2013) (off := 1973) 37 rfl (by decide) (by decide) (by decide) dL_law_40 ?_ (fun c37 => ?_)
      · refine x_aload_n 1 rfl rfl dL_law_2013 ?_
        refine x_aload_n 0 rfl rfl dL_law_2014 ?_
        refine x_iload 4 rfl dL_law_2015 ?_
        refine x_iconst (v := 1) (by decide) dL_law_2017 ?_
        refine x_iadd dL_law_2018 ?_
        refine x_sld dL_law_2019 (fun _ => ?_)
        refine x_aload_n 0 rfl rfl dL_law_2020 ?_
        refine x_iload 4 rfl dL_law_2021 ?_
        refine x_iconst (v := 2) (by decide) dL_law_2023 ?_
        refine x_iadd dL_law_2024 ?_
        refine x_sld dL_law_2025 (fun _ => ?_)
        refine x_aload_n 0 rfl rfl dL_law_2026 ?_
        refine x_iload 4 rfl dL_law_2027 ?_
        refine x_iconst (v := 3) (by decide) dL_law_2029 ?_
        refine x_iadd dL_law_2030 ?_
        refine x_sld dL_law_2031 (fun _ => ?_)
        refine x_aload_n 0 rfl rfl dL_law_2032 ?_
        refine x_iload 4 rfl dL_law_2033 ?_
        refine x_iconst (v := 4) (by decide) dL_law_2035 ?_
        refine x_iadd dL_law_2036 ?_
        refine x_sld dL_law_2037 (fun _ => ?_)
        refine x_aload_n 3 rfl rfl dL_law_2038 ?_
        refine x_callSH (y := miL_game) (hh := [(0, 14, 17, 18), (0, 14, 21, 13)]) (As := [.ref 0, .int (xs (ix (x4 + 1))), .int (xs (ix (x4 + 2))), .int (xs (ix (x4 + 3))), .int (xs (ix (x4 + 4))), .ref 121]) (rest := []) mhL_game rfl mlL_235 (by decide) ⟨by show _ ≤ 601024; omega, by show _ ≤ 7293034; omega⟩ (by simp [Value.category]) rfl dL_law_2039 (SL_game  M (xs (ix (x4 + 1))) (xs (ix (x4 + 2))) (xs (ix (x4 + 3))) (xs (ix (x4 + 4)))) (fun _ _ => XH.none) (fun M197 v198 => ?_)
        refine x_istore (L' := [(5, .int v198), (0, .ref (1000 + 33)), (1, .ref 0), (2, .ref 87), (3, .ref 121), (4, .int x4)]) (by decide) rfl dL_law_2042 ?_
        refine x_aload_n 3 rfl rfl dL_law_2044 ?_
        refine x_aload_n 1 rfl rfl dL_law_2045 ?_
        refine x_iload 5 rfl dL_law_2046 ?_
        refine x_iconst (v := 1) (by decide) dL_law_2048 ?_
        refine x_iadd dL_law_2049 ?_
        refine x_sld dL_law_2050 (fun _ => ?_)
        refine x_aload_n 1 rfl rfl dL_law_2051 ?_
        refine x_iload 5 rfl dL_law_2052 ?_
        refine x_iconst (v := 2) (by decide) dL_law_2054 ?_
        refine x_iadd dL_law_2055 ?_
        refine x_sld dL_law_2056 (fun _ => ?_)
        refine x_aload_n 1 rfl rfl dL_law_2057 ?_
        refine x_iload 5 rfl dL_law_2058 ?_
        refine x_iconst (v := 3) (by decide) dL_law_2060 ?_
        refine x_iadd dL_law_2061 ?_
        refine x_sld dL_law_2062 (fun _ => ?_)
        refine x_aload_n 1 rfl rfl dL_law_2063 ?_
        refine x_iload 5 rfl dL_law_2064 ?_
        refine x_iconst (v := 4) (by decide) dL_law_2066 ?_
        refine x_iadd dL_law_2067 ?_
        refine x_sld dL_law_2068 (fun _ => ?_)
        refine x_callVI (y := miX12_game) (As := [.int (xs (ix (x4 + 1))), .int (xs (ix (x4 + 2))), .int (xs (ix (x4 + 3))), .int (xs (ix (x4 + 4)))]) (rest := []) clX12 kd_87 rfl moX12_game rfl mlL_238 (by decide) ⟨by show _ ≤ 601024; omega, by show _ ≤ 7293034; omega⟩ (by simp [Value.category]) rfl dL_law_2069 (SX12_game  M197 (xs (ix (x4 + 1))) (xs (ix (x4 + 2))) (xs (ix (x4 + 3))) (xs (ix (x4 + 4)))) (fun _ _ => XH.none) (fun M199 v200 => ?_)
        refine x_istore (L' := [(6, .int v200), (5, .int v198), (0, .ref (1000 + 33)), (1, .ref 0), (2, .ref 87), (3, .ref 121), (4, .int x4)]) (by decide) rfl dL_law_2072 ?_
        refine x_aload_n 4 rfl rfl dL_law_2074 ?_
        refine x_callVI (y := miX12_thrown) (As := []) (rest := []) clX12 kd_87 rfl moX12_thrown rfl mlL_112 (by decide) ⟨by show _ ≤ 601024; omega, by show _ ≤ 7293034; omega⟩ (by simp [Value.category]) rfl dL_law_2075 (SX12_thrown  M199) (fun _ _ => XH.none) (fun M201 v202 => ?_)
        refine x_iload 1 rfl dL_law_2078 ?_
        refine x_icmp_eq (tgt := 2085) rfl dL_law_2080 (fun c => ?_) (fun c => ?_)
        · refine x_iload 1 rfl dL_law_2085 ?_
          refine x_if_ne (tgt := 2102) rfl dL_law_2087 (fun c => ?_) (fun c => ?_)
          · exact GX.pick [2, 3, 4, 5, 6] rfl <| Slaw_b2102 b N xs kc ks hc hs  (flaw N xs n) hrec23 M201 x4
          · refine x_aload_n 5 rfl rfl dL_law_2090 ?_
            refine x_iconst (v := 0) (by decide) dL_law_2091 ?_
            refine x_laldL (j := 0) kd_121 (by decide) (by decide) dL_law_2092 ?_
            refine x_iload 0 rfl dL_law_2093 ?_
            refine x_i2l dL_law_2095 ?_
            refine x_lcmp dL_law_2096 ?_
            refine x_if_eq (tgt := 2102) rfl dL_law_2097 (fun c => ?_) (fun c => ?_)
            · exact GX.pick [2, 3, 4, 5, 6] rfl <| Slaw_b2102 b N xs kc ks hc hs  (flaw N xs n) hrec23 M201 x4
            · refine x_iconst (v := 0) (by decide) dL_law_2100 ?_
              exact l_ret0 dL_law_2101
        · refine x_iconst (v := 0) (by decide) dL_law_2083 ?_
          exact l_ret0 dL_law_2084
      refine x_tabI (tgt := 2105) (off := 2065) 38 rfl (by decide) (by decide) (by decide) dL_law_40 ?_ (fun c38 => ?_)
      · refine x_aload_n 1 rfl rfl dL_law_2105 ?_
        refine x_aload_n 0 rfl rfl dL_law_2106 ?_
        refine x_iload 4 rfl dL_law_2107 ?_
        refine x_iconst (v := 1) (by decide) dL_law_2109 ?_
        refine x_iadd dL_law_2110 ?_
        refine x_sld dL_law_2111 (fun _ => ?_)
        refine x_aload_n 0 rfl rfl dL_law_2112 ?_
        refine x_iload 4 rfl dL_law_2113 ?_
        refine x_iconst (v := 2) (by decide) dL_law_2115 ?_
        refine x_iadd dL_law_2116 ?_
        refine x_sld dL_law_2117 (fun _ => ?_)
        refine x_aload_n 0 rfl rfl dL_law_2118 ?_
        refine x_iload 4 rfl dL_law_2119 ?_
        refine x_iconst (v := 3) (by decide) dL_law_2121 ?_
        refine x_iadd dL_law_2122 ?_
        refine x_sld dL_law_2123 (fun _ => ?_)
        refine x_aload_n 3 rfl rfl dL_law_2124 ?_
        refine x_callSH (y := miL_founders) (hh := [(0, 12, 15, 18), (0, 12, 19, 13)]) (As := [.ref 0, .int (xs (ix (x4 + 1))), .int (xs (ix (x4 + 2))), .int (xs (ix (x4 + 3))), .ref 121]) (rest := []) mhL_founders rfl mlL_239 (by decide) ⟨by show _ ≤ 601024; omega, by show _ ≤ 7293034; omega⟩ (by simp [Value.category]) rfl dL_law_2125 (SL_founders  M (xs (ix (x4 + 1))) (xs (ix (x4 + 2))) (xs (ix (x4 + 3)))) (fun _ _ => XH.none) (fun M203 v204 => ?_)
        refine x_istore (L' := [(5, .int v204), (0, .ref (1000 + 33)), (1, .ref 0), (2, .ref 87), (3, .ref 121), (4, .int x4)]) (by decide) rfl dL_law_2128 ?_
        refine x_aload_n 3 rfl rfl dL_law_2130 ?_
        refine x_aload_n 1 rfl rfl dL_law_2131 ?_
        refine x_iload 5 rfl dL_law_2132 ?_
        refine x_iconst (v := 1) (by decide) dL_law_2134 ?_
        refine x_iadd dL_law_2135 ?_
        refine x_sld dL_law_2136 (fun _ => ?_)
        refine x_aload_n 1 rfl rfl dL_law_2137 ?_
        refine x_iload 5 rfl dL_law_2138 ?_
        refine x_iconst (v := 2) (by decide) dL_law_2140 ?_
        refine x_iadd dL_law_2141 ?_
        refine x_sld dL_law_2142 (fun _ => ?_)
        refine x_aload_n 1 rfl rfl dL_law_2143 ?_
        refine x_iload 5 rfl dL_law_2144 ?_
        refine x_iconst (v := 3) (by decide) dL_law_2146 ?_
        refine x_iadd dL_law_2147 ?_
        refine x_sld dL_law_2148 (fun _ => ?_)
        refine x_callVI (y := miX12_founders) (As := [.int (xs (ix (x4 + 1))), .int (xs (ix (x4 + 2))), .int (xs (ix (x4 + 3)))]) (rest := []) clX12 kd_87 rfl moX12_founders rfl mlL_241 (by decide) ⟨by show _ ≤ 601024; omega, by show _ ≤ 7293034; omega⟩ (by simp [Value.category]) rfl dL_law_2149 (SX12_founders  M203 (xs (ix (x4 + 1))) (xs (ix (x4 + 2))) (xs (ix (x4 + 3)))) (fun _ _ => XH.none) (fun M205 v206 => ?_)
        refine x_istore (L' := [(6, .int v206), (5, .int v204), (0, .ref (1000 + 33)), (1, .ref 0), (2, .ref 87), (3, .ref 121), (4, .int x4)]) (by decide) rfl dL_law_2152 ?_
        refine x_aload_n 4 rfl rfl dL_law_2154 ?_
        refine x_callVI (y := miX12_thrown) (As := []) (rest := []) clX12 kd_87 rfl moX12_thrown rfl mlL_112 (by decide) ⟨by show _ ≤ 601024; omega, by show _ ≤ 7293034; omega⟩ (by simp [Value.category]) rfl dL_law_2155 (SX12_thrown  M205) (fun _ _ => XH.none) (fun M207 v208 => ?_)
        refine x_iload 1 rfl dL_law_2158 ?_
        refine x_icmp_eq (tgt := 2165) rfl dL_law_2160 (fun c => ?_) (fun c => ?_)
        · refine x_iload 1 rfl dL_law_2165 ?_
          refine x_if_ne (tgt := 2182) rfl dL_law_2167 (fun c => ?_) (fun c => ?_)
          · exact GX.pick [2, 3, 4, 5, 6] rfl <| GX.widen (k := kc + 5) (j := ks + 30) (by omega) (by omega) <| Slaw_b2182 b N xs kc ks hc hs  (flaw N xs n) hrec23 M207 x4
          · refine x_aload_n 5 rfl rfl dL_law_2170 ?_
            refine x_iconst (v := 0) (by decide) dL_law_2171 ?_
            refine x_laldL (j := 0) kd_121 (by decide) (by decide) dL_law_2172 ?_
            refine x_iload 0 rfl dL_law_2173 ?_
            refine x_i2l dL_law_2175 ?_
            refine x_lcmp dL_law_2176 ?_
            refine x_if_eq (tgt := 2182) rfl dL_law_2177 (fun c => ?_) (fun c => ?_)
            · exact GX.pick [2, 3, 4, 5, 6] rfl <| GX.widen (k := kc + 5) (j := ks + 30) (by omega) (by omega) <| Slaw_b2182 b N xs kc ks hc hs  (flaw N xs n) hrec23 M207 x4
            · refine x_iconst (v := 0) (by decide) dL_law_2180 ?_
              exact l_ret0 dL_law_2181
        · refine x_iconst (v := 0) (by decide) dL_law_2163 ?_
          exact l_ret0 dL_law_2164
      refine x_tabI (tgt := 2185) (off := 2145) 39 rfl (by decide) (by decide) (by decide) dL_law_40 ?_ (fun c39 => ?_)
      · refine x_aload_n 1 rfl rfl dL_law_2185 ?_
        refine x_callVV (y := miX11_image) (As := []) (rest := []) clX11 kd_0 rfl moX11_image rfl mlL_242 (by decide) ⟨by show _ ≤ 601024; omega, by show _ ≤ 7293034; omega⟩ (by simp [Value.category]) rfl dL_law_2186 (SX11_image  M) (fun _ _ => XH.none) (fun M209 => ?_)
        refine x_aload_n 2 rfl rfl dL_law_2189 ?_
        refine x_callVV (y := miX12_image) (As := []) (rest := []) clX12 kd_87 rfl moX12_image rfl mlL_245 (by decide) ⟨by show _ ≤ 601024; omega, by show _ ≤ 7293034; omega⟩ (by simp [Value.category]) rfl dL_law_2190 (SX12_image  M209) (fun _ _ => XH.none) (fun M211 => ?_)
        refine x_goto (tgt := 2209) rfl dL_law_2193 ?_
        exact GX.pick [0, 1, 2, 3, 4] rfl <| GX.widen (k := kc + 5) (j := ks + 30) (by omega) (by omega) <| Slaw_b2209 b N xs kc ks hc hs  (flaw N xs n) hrec23 M211 x4
      refine x_tabI (tgt := 2196) (off := 2156) 40 rfl (by decide) (by decide) (by decide) dL_law_40 ?_ (fun c40 => ?_)
      · refine x_aload_n 1 rfl rfl dL_law_2196 ?_
        refine x_callVI (y := miX11_restore) (As := []) (rest := []) clX11 kd_0 rfl moX11_restore rfl mlL_246 (by decide) ⟨by show _ ≤ 601024; omega, by show _ ≤ 7293034; omega⟩ (by simp [Value.category]) rfl dL_law_2197 (SX11_restore  M) (fun _ _ => XH.none) (fun M213 v214 => ?_)
        refine x_aload_n 2 rfl rfl dL_law_2200 ?_
        refine x_callVI (y := miX12_restore) (As := []) (rest := [.int v214]) clX12 kd_87 rfl moX12_restore rfl mlL_250 (by decide) ⟨by show _ ≤ 601024; omega, by show _ ≤ 7293034; omega⟩ (by simp [Value.category]) rfl dL_law_2201 (SX12_restore  M213) (fun _ _ => XH.none) (fun M215 v216 => ?_)
        refine x_icmp_eq (tgt := 2209) rfl dL_law_2204 (fun c => ?_) (fun c => ?_)
        · exact GX.pick [0, 1, 2, 3, 4] rfl <| GX.widen (k := kc + 5) (j := ks + 30) (by omega) (by omega) <| Slaw_b2209 b N xs kc ks hc hs  (flaw N xs n) hrec23 M215 x4
        · refine x_iconst (v := 0) (by decide) dL_law_2207 ?_
          exact l_ret0 dL_law_2208
      refine x_tabZ (tgt := 2209) [0, 1, 2, 3, 4, 5, 6, 7, 8, 9, 10, 11, 12, 13, 14, 15, 16, 17, 18, 19, 20, 21, 22, 23, 24, 25, 26, 27, 28, 29, 30, 31, 32, 33, 34, 35, 36, 37, 38, 39, 40] (List.forall_mem_cons.mpr ⟨c0, (List.forall_mem_cons.mpr ⟨c1, (List.forall_mem_cons.mpr ⟨c2, (List.forall_mem_cons.mpr ⟨c3, (List.forall_mem_cons.mpr ⟨c4, (List.forall_mem_cons.mpr ⟨c5, (List.forall_mem_cons.mpr ⟨c6, (List.forall_mem_cons.mpr ⟨c7, (List.forall_mem_cons.mpr ⟨c8, (List.forall_mem_cons.mpr ⟨c9, (List.forall_mem_cons.mpr ⟨c10, (List.forall_mem_cons.mpr ⟨c11, (List.forall_mem_cons.mpr ⟨c12, (List.forall_mem_cons.mpr ⟨c13, (List.forall_mem_cons.mpr ⟨c14, (List.forall_mem_cons.mpr ⟨c15, (List.forall_mem_cons.mpr ⟨c16, (List.forall_mem_cons.mpr ⟨c17, (List.forall_mem_cons.mpr ⟨c18, (List.forall_mem_cons.mpr ⟨c19, (List.forall_mem_cons.mpr ⟨c20, (List.forall_mem_cons.mpr ⟨c21, (List.forall_mem_cons.mpr ⟨c22, (List.forall_mem_cons.mpr ⟨c23, (List.forall_mem_cons.mpr ⟨c24, (List.forall_mem_cons.mpr ⟨c25, (List.forall_mem_cons.mpr ⟨c26, (List.forall_mem_cons.mpr ⟨c27, (List.forall_mem_cons.mpr ⟨c28, (List.forall_mem_cons.mpr ⟨c29, (List.forall_mem_cons.mpr ⟨c30, (List.forall_mem_cons.mpr ⟨c31, (List.forall_mem_cons.mpr ⟨c32, (List.forall_mem_cons.mpr ⟨c33, (List.forall_mem_cons.mpr ⟨c34, (List.forall_mem_cons.mpr ⟨c35, (List.forall_mem_cons.mpr ⟨c36, (List.forall_mem_cons.mpr ⟨c37, (List.forall_mem_cons.mpr ⟨c38, (List.forall_mem_cons.mpr ⟨c39, (List.forall_mem_cons.mpr ⟨c40, (fun _ h => absurd h List.not_mem_nil)⟩)⟩)⟩)⟩)⟩)⟩)⟩)⟩)⟩)⟩)⟩)⟩)⟩)⟩)⟩)⟩)⟩)⟩)⟩)⟩)⟩)⟩)⟩)⟩)⟩)⟩)⟩)⟩)⟩)⟩)⟩)⟩)⟩)⟩)⟩)⟩)⟩)⟩)⟩)⟩)⟩) rfl dL_law_40 (by decide) (by decide) ?_
      exact GX.pick [0, 1, 2, 3, 4] rfl <| GX.widen (k := kc + 5) (j := ks + 30) (by omega) (by omega) <| Slaw_b2209 b N xs kc ks hc hs  (flaw N xs n) hrec23 M x4

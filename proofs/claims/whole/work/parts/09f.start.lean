def tkI : List Nat := [97, 99, 101, 103, 105, 107, 109, 75, 81, 83, 85, 87, 89, 91, 93, 95]
def tmT (i : Nat) : Term := .string "SonsLot$Tokens" (tkI.getD i 0)
def sConds (t : Term) (bs : List Int32) : List Cond := [.exactly t "java/lang/String", .eq (.field t "java/lang/String" "coder" "B") (.int 0), .arrayOf (.field t "java/lang/String" "value" "[B") .byte, .eq (.length (.field t "java/lang/String" "value" "[B")) (.int (Int32.ofNat bs.length))] ++ (List.range bs.length).map (fun j => .eq (.elem (.field t "java/lang/String" "value" "[B") (.int (Int32.ofNat j))) (.int (bs.getD j 0)))
theorem str_one {args : Array Value} {s : State} {t : Term} {bs : List Int32} {A : Nat → Prop} (hs : ∀ c ∈ sConds t bs, c.before args s = true) (hlen : bs.length < 2 ^ 31) (hA : ∀ a : Nat, a < s.heap.size → ¬ A a) :
    ∃ q : Nat × Nat, t.eval args s none [] s = some (.ref q.1) ∧ va_O "java/lang/String" q.1 A s s.heap ∧ va_OF "java/lang/String" "coder" "B" (.int 0) q.1 A s s.heap ∧ va_OF "java/lang/String" "value" "[B" (.ref q.2) q.1 A s s.heap ∧ va_T .byte q.2 bs.length (fun j => .int (bs.getD j 0)) A s s.heap := by
  obtain ⟨adK, adV, ⟨h1, -⟩, h3⟩ := vk_Sof (args := args) (s := s) (N := 1) (tm := fun _ => t) (len := [bs.length]) (byt := [bs]) (A := A)
    (fun i hi => by obtain rfl : i = 0 := by omega
                    exact hlen)
    (fun i _ => hs _ (by simp [sConds]))
    (fun i _ => hs _ (by simp [sConds]))
    (fun i _ => hs _ (by simp [sConds]))
    (fun i hi => by obtain rfl : i = 0 := by omega
                    exact hs _ (by simp [sConds]))
    (fun i hi j hj => by
      obtain rfl : i = 0 := by omega
      have hj : j < bs.length := hj
      refine hs _ ?_
      unfold sConds
      exact List.mem_append_right _ (List.mem_map.mpr ⟨j, List.mem_range.mpr hj, rfl⟩))
    (fun i j hi hj hij => by omega) hA
  exact ⟨(adK 0, adV 0), h3 0 (by omega), h1 0 (by omega)⟩
def tkP : List (Nat × Nat) := [(75, 7), (81, 8), (83, 9), (85, 10), (87, 11), (89, 12), (91, 13), (93, 14), (95, 15), (97, 0), (99, 1), (101, 2), (103, 3), (105, 4), (107, 5), (109, 6)]
def mdI : List (Nat × Nat) := [(11, 0), (13, 1), (15, 2), (17, 3), (19, 4), (25, 5), (27, 6), (265, 9), (267, 10), (269, 11), (271, 12), (246, 15), (254, 14), (259, 13), (280, 7), (285, 8)]
theorem start_flat : (flatC (Jvm.Cond.and given_1 narrow_1)).drop 39 = tkP.flatMap (fun q => sConds (.string "SonsLot$Tokens" q.1) (sByt.getD q.2 [])) ++ mdI.flatMap (fun q => sConds (.string "SonsLotModel" q.1) (sByt.getD q.2 []) ++ [.eq (tmT q.2) (.string "SonsLotModel" q.1)]) := by decide +kernel
theorem start_in {c : Cond} (h : c ∈ (flatC (Jvm.Cond.and given_1 narrow_1)).drop 39) : c ∈ flatC (Jvm.Cond.and given_1 narrow_1) := List.mem_of_mem_drop h
theorem tkP_all : ∀ i, i < 16 → (tkI.getD i 0, i) ∈ tkP := by decide +kernel
theorem start_T : ∀ i, i < 16 → ∀ c ∈ sConds (tmT i) (sByt.getD i []), c ∈ flatC (Jvm.Cond.and given_1 narrow_1) := fun i hi c hc => start_in (by
  rw [start_flat]
  exact List.mem_append_left _ (List.mem_flatMap.mpr ⟨_, tkP_all i hi, hc⟩))
theorem start_M : ∀ q ∈ mdI, Cond.eq (tmT q.2) (.string "SonsLotModel" q.1) ∈ flatC (Jvm.Cond.and given_1 narrow_1) := fun q hq => start_in (by
  rw [start_flat]
  exact List.mem_append_right _ (List.mem_flatMap.mpr ⟨_, hq, List.mem_append_right _ (List.mem_singleton.mpr rfl)⟩))
theorem start_M2 : ∀ q ∈ mdI, ∀ c ∈ sConds (.string "SonsLotModel" q.1) (sByt.getD q.2 []), c ∈ flatC (Jvm.Cond.and given_1 narrow_1) := fun q hq c hc => start_in (by
  rw [start_flat]
  exact List.mem_append_right _ (List.mem_flatMap.mpr ⟨_, hq, List.mem_append_left _ hc⟩))
theorem sLen_byt : ∀ i, i < 16 → sLen.getD i 0 = (sByt.getD i []).length := by decide
theorem sByt_inj : ∀ i, i < 16 → ∀ j, j < 16 → (sByt.getD i []).length = (sByt.getD j []).length → (∀ q, q < 8 → q < (sByt.getD i []).length → (sByt.getD i []).getD q 0 = (sByt.getD j []).getD q 0) → i = j := by decide +kernel
theorem eq_ref {args : Array Value} {s : State} {t u : Term} {a b : Nat} (ht : t.eval args s none [] s = some (.ref a)) (hu : u.eval args s none [] s = some (.ref b)) (h : (Cond.eq t u).before args s = true) : a = b := by
  simp only [Cond.before, Cond.holds, Cond.value, ht, hu] at h
  simpa using h
theorem ofs_eq {o n d : String} {v w : Value} {a : Nat} {A : Nat → Prop} {U : State} {H : Heap} (h1 : va_OF o n d v a A U H) (h2 : va_OF o n d w a A U H) : v = w := by
  obtain ⟨cf, k, i, f, cell, g1, g2, g3, g4, g5, g6⟩ := h1
  obtain ⟨cf', k', i', f', cell', e1, e2, e3, e4, e5, e6⟩ := h2
  have := Option.some.inj (g1.symm.trans e1)
  cases this
  cases Option.some.inj (g3.symm.trans e3)
  exact Option.some.inj (g5.symm.trans e5)
theorem start_inj {s : State} {A : Nat → Prop} {adK adV : Nat → Nat} (h : ∀ i, i < 16 → va_O "java/lang/String" (adK i) A s s.heap ∧ va_OF "java/lang/String" "coder" "B" (.int 0) (adK i) A s s.heap ∧ va_OF "java/lang/String" "value" "[B" (.ref (adV i)) (adK i) A s s.heap ∧ va_T .byte (adV i) (sByt.getD i []).length (fun j => .int ((sByt.getD i []).getD j 0)) A s s.heap) : ∀ i j : Nat, i < 16 → j < 16 → adK i = adK j → i = j := by
  intro i j hi hj e
  have h1 := h i hi
  have h2 := h j hj
  rw [e] at h1
  have ev : adV i = adV j := by
    have := ofs_eq h1.2.2.1 h2.2.2.1
    injection this
  rw [ev] at h1
  obtain ⟨c1, a1, a2, a3, a4, a5, a6, a7⟩ := h1.2.2.2
  obtain ⟨c2, b1, b2, b3, b4, b5, b6, b7⟩ := h2.2.2.2
  cases Option.some.inj (a1.symm.trans b1)
  have hb : ∀ i, i < 16 → (sByt.getD i []).length < 2 ^ 31 := by decide
  have hl : (sByt.getD i []).length = (sByt.getD j []).length := (nI_eq (hb i hi) (hb j hj)).mp (a5.symm.trans b5)
  refine sByt_inj i hi j hj hl (fun q _ hq => ?_)
  have := (a6 q hq).symm.trans (b6 q (by rw [← hl]; exact hq))
  injection this with this
  injection this
theorem tb_lw : ∀ w ∈ TB, w ∈ lw_tbl := fun w hw => (List.mem_filter.mp hw).1
theorem iwX0 : Cond.instantiable RX0 4 ∈ lw_tbl := List.mem_of_getElem? (i := 351) (by decide +kernel)
theorem iwX1 : Cond.instantiable RX1 3 ∈ lw_tbl := List.mem_of_getElem? (i := 409) (by decide +kernel)
theorem iwX2 : Cond.instantiable RX2 17 ∈ lw_tbl := List.mem_of_getElem? (i := 165) (by decide +kernel)
theorem iwX3 : Cond.instantiable RX3 2 ∈ lw_tbl := List.mem_of_getElem? (i := 334) (by decide +kernel)
theorem iwX4 : Cond.instantiable RX4 4 ∈ lw_tbl := List.mem_of_getElem? (i := 469) (by decide +kernel)
theorem iwX5 : Cond.instantiable RX5 8 ∈ lw_tbl := List.mem_of_getElem? (i := 274) (by decide +kernel)
theorem iwX6 : Cond.instantiable RX6 3 ∈ lw_tbl := List.mem_of_getElem? (i := 171) (by decide +kernel)
theorem iwX7 : Cond.instantiable RX7 4 ∈ lw_tbl := List.mem_of_getElem? (i := 426) (by decide +kernel)
theorem iwX8 : Cond.instantiable RX8 10 ∈ lw_tbl := List.mem_of_getElem? (i := 357) (by decide +kernel)
theorem iwX9 : Cond.instantiable RX9 2 ∈ lw_tbl := List.mem_of_getElem? (i := 149) (by decide +kernel)
theorem iwX10 : Cond.instantiable RX10 7 ∈ lw_tbl := List.mem_of_getElem? (i := 280) (by decide +kernel)
theorem iwX11 : Cond.instantiable RX11 10 ∈ lw_tbl := List.mem_of_getElem? (i := 141) (by decide +kernel)
theorem iwX12 : Cond.instantiable RX12 60 ∈ lw_tbl := List.mem_of_getElem? (i := 1421) (by decide +kernel)
theorem start_cl {args : Array Value} {s : State} (hts : ∀ w ∈ lw_tbl, w.before args s = true) : ∃ D : va_G, ∀ (k : Nat) (q : vw_C), vwCl[k]? = some q → u_Kn s q.1 q.2.1 q.2.2 (D.1 k) (D.2 k) := by
  obtain ⟨c0, i0, k0⟩ := u_known (C := RX0) (T := TX0) (N := 4) (n := 4) hts (fun w hw => tb_lw w (clX0.2.1 w hw)) (hts _ iwX0)
  obtain ⟨c1, i1, k1⟩ := u_known (C := RX1) (T := TX1) (N := 3) (n := 3) hts (fun w hw => tb_lw w (clX1.2.1 w hw)) (hts _ iwX1)
  obtain ⟨c2, i2, k2⟩ := u_known (C := RX2) (T := TX2) (N := 17) (n := 17) hts (fun w hw => tb_lw w (clX2.2.1 w hw)) (hts _ iwX2)
  obtain ⟨c3, i3, k3⟩ := u_known (C := RX3) (T := TX3) (N := 2) (n := 2) hts (fun w hw => tb_lw w (clX3.2.1 w hw)) (hts _ iwX3)
  obtain ⟨c4, i4, k4⟩ := u_known (C := RX4) (T := TX4) (N := 4) (n := 4) hts (fun w hw => tb_lw w (clX4.2.1 w hw)) (hts _ iwX4)
  obtain ⟨c5, i5, k5⟩ := u_known (C := RX5) (T := TX5) (N := 8) (n := 8) hts (fun w hw => tb_lw w (clX5.2.1 w hw)) (hts _ iwX5)
  obtain ⟨c6, i6, k6⟩ := u_known (C := RX6) (T := TX6) (N := 3) (n := 3) hts (fun w hw => tb_lw w (clX6.2.1 w hw)) (hts _ iwX6)
  obtain ⟨c7, i7, k7⟩ := u_known (C := RX7) (T := TX7) (N := 4) (n := 4) hts (fun w hw => tb_lw w (clX7.2.1 w hw)) (hts _ iwX7)
  obtain ⟨c8, i8, k8⟩ := u_known (C := RX8) (T := TX8) (N := 10) (n := 10) hts (fun w hw => tb_lw w (clX8.2.1 w hw)) (hts _ iwX8)
  obtain ⟨c9, i9, k9⟩ := u_known (C := RX9) (T := TX9) (N := 2) (n := 2) hts (fun w hw => tb_lw w (clX9.2.1 w hw)) (hts _ iwX9)
  obtain ⟨c10, i10, k10⟩ := u_known (C := RX10) (T := TX10) (N := 7) (n := 7) hts (fun w hw => tb_lw w (clX10.2.1 w hw)) (hts _ iwX10)
  obtain ⟨c11, i11, k11⟩ := u_known (C := RX11) (T := TX11) (N := 10) (n := 10) hts (fun w hw => tb_lw w (clX11.2.1 w hw)) (hts _ iwX11)
  obtain ⟨c12, i12, k12⟩ := u_known (C := RX12) (T := TX12) (N := 60) (n := 60) hts (fun w hw => tb_lw w (clX12.2.1 w hw)) (hts _ iwX12)
  refine ⟨(fun k => [c0, c1, c2, c3, c4, c5, c6, c7, c8, c9, c10, c11, c12].getD k 0, fun k => [i0, i1, i2, i3, i4, i5, i6, i7, i8, i9, i10, i11, i12].getD k (fun _ => 0)), ?_⟩
  intro k q hq
  match k, hq with
  | 0, hq => cases hq; exact k0
  | 1, hq => cases hq; exact k1
  | 2, hq => cases hq; exact k2
  | 3, hq => cases hq; exact k3
  | 4, hq => cases hq; exact k4
  | 5, hq => cases hq; exact k5
  | 6, hq => cases hq; exact k6
  | 7, hq => cases hq; exact k7
  | 8, hq => cases hq; exact k8
  | 9, hq => cases hq; exact k9
  | 10, hq => cases hq; exact k10
  | 11, hq => cases hq; exact k11
  | 12, hq => cases hq; exact k12
  | k + 13, hq => simp [vwCl] at hq
theorem aw0 : Cond.arrayClass .int ∈ lw_tbl := List.mem_of_getElem? (i := 186) (by decide +kernel)
theorem aw1 : Cond.arrayClass .byte ∈ lw_tbl := List.mem_of_getElem? (i := 163) (by decide +kernel)
theorem aw2 : Cond.arrayClass .long ∈ lw_tbl := List.mem_of_getElem? (i := 491) (by decide +kernel)
theorem aw3 : Cond.arrayOver (.array .int) ∈ lw_tbl := List.mem_of_getElem? (i := 475) (by decide +kernel)
theorem aw4 : Cond.arrayOver (.array .long) ∈ lw_tbl := List.mem_of_getElem? (i := 477) (by decide +kernel)
theorem aw5 : Cond.arrayOver (.object "java/lang/String") ∈ lw_tbl := List.mem_of_getElem? (i := 1427) (by decide +kernel)
theorem arrT {s : State} {c : ClassId} {k : Class} {comp : ClassId} {ty : FieldType} (h1 : s.vm.classes[c]? = some k) (h2 : k.kind = .array comp ty) : ArrOfT s c ty := fun _ _ => ⟨(fun _ h => by cases h), k, h1, comp, h2⟩
theorem start_ar {args : Array Value} {s : State} (hts : ∀ w ∈ lw_tbl, w.before args s = true) : ∃ a : Nat → Nat, ∀ (k : Nat) (q : ClassId × FieldType), ([(a 0, .int), (a 1, .byte), (a 2, .long), (a 3, .array .int), (a 4, .array .long), (a 5, .object "java/lang/String")] : List (ClassId × FieldType))[k]? = some q → ArrOfT s q.1 q.2 ∧ va_RA s q.1 q.2 := by
  obtain ⟨c0, k0, m0, f0, g0, h0⟩ := Cond.arrayClass_spec (hts _ aw0)
  obtain ⟨c1, k1, m1, f1, g1, h1⟩ := Cond.arrayClass_spec (hts _ aw1)
  obtain ⟨c2, k2, m2, f2, g2, h2⟩ := Cond.arrayClass_spec (hts _ aw2)
  obtain ⟨m3, c3, k3, -, g3, h3, f3⟩ := Cond.arrayOver_specA (hts _ aw3)
  obtain ⟨m4, c4, k4, -, g4, h4, f4⟩ := Cond.arrayOver_specA (hts _ aw4)
  obtain ⟨m5, c5, k5, e5, -, g5, h5, f5⟩ := Cond.arrayOver_spec (hts _ aw5)
  refine ⟨fun i => [c0, c1, c2, c3, c4, c5].getD i 0, ?_⟩
  intro k q hq
  match k, hq with
  | 0, hq => cases hq; exact ⟨arrT g0 h0, f0⟩
  | 1, hq => cases hq; exact ⟨arrT g1 h1, f1⟩
  | 2, hq => cases hq; exact ⟨arrT g2 h2, f2⟩
  | 3, hq => cases hq; exact ⟨arrT g3 h3, f3⟩
  | 4, hq => cases hq; exact ⟨arrT g4 h4, f4⟩
  | 5, hq => cases hq; exact ⟨arrT g5 h5, k5, m5, g5, h5, e5, f5⟩
  | k + 6, hq => simp at hq
theorem nw_all : ∀ q ∈ NLl, Cond.methodLinkNest q.1 q.2.1 ⟨q.2.2, "<init>", "()V"⟩ "SonsLot" ∈ lw_tbl := by decide +kernel
theorem sr_all : ∀ q ∈ SRl, Cond.stringRef q.1 q.2.1 (sTx.getD q.2.2 "") ∈ lw_tbl := by decide +kernel
theorem sr_cases : ∀ q ∈ SRl, q.2.2 < 16 ∧ ((q.1 = "SonsLot$Tokens" ∧ tkI.getD q.2.2 0 = q.2.1) ∨ (q.1 = "SonsLotModel" ∧ (q.2.1, q.2.2) ∈ mdI)) := by decide +kernel
theorem cw1 : Cond.castable iaeN iaeN ∈ lw_tbl := List.mem_of_getElem? (i := 786) (by decide +kernel)
theorem cw2 : Cond.castable nseN nseN ∈ lw_tbl := List.mem_of_getElem? (i := 1114) (by decide +kernel)
theorem cw3 : Cond.castable "java/lang/String" "java/lang/Object" ∈ lw_tbl := List.mem_of_getElem? (i := 2093) (by decide +kernel)
theorem nc1 : Cond.not (.castable iaeN nseN) ∈ flatC (Jvm.Cond.and given_1 narrow_1) := List.mem_of_getElem? (i := 38) (by decide +kernel)
theorem nc2 : Cond.not (.castable nseN iaeN) ∈ flatC (Jvm.Cond.and given_1 narrow_1) := List.mem_of_getElem? (i := 24) (by decide +kernel)
theorem dc_all : ∀ c ∈ ["java/lang/RuntimeException", "java/lang/Exception", "java/lang/Throwable"], Cond.declares ⟨c, "<init>", "()V"⟩ ∈ lw_tbl := by decide +kernel
theorem ls1 : Cond.laysStatic Bundle.tN "UNASSIGNED_STACK" Bundle.steD ∈ lw_tbl := List.mem_of_getElem? (i := 811) (by decide +kernel)
theorem ls2 : Cond.laysStatic Bundle.tN "SUPPRESSED_SENTINEL" Bundle.listD ∈ lw_tbl := List.mem_of_getElem? (i := 813) (by decide +kernel)
theorem ls3 : Cond.laysStatic "java/lang/String" "COMPACT_STRINGS" "Z" ∈ lw_tbl := List.mem_of_getElem? (i := 897) (by decide +kernel)
theorem ls4 : Cond.laysStatic "jdk/internal/util/Preconditions" "SIOOBE_FORMATTER" "Ljava/util/function/BiFunction;" ∈ lw_tbl := List.mem_of_getElem? (i := 913) (by decide +kernel)
theorem li1 : Cond.initialized Bundle.tN ∈ lw_tbl := List.mem_of_getElem? (i := 128) (by decide +kernel)
theorem li3 : Cond.initialized "java/lang/String" ∈ lw_tbl := List.mem_of_getElem? (i := 133) (by decide +kernel)
theorem li4 : Cond.initialized "jdk/internal/util/Preconditions" ∈ lw_tbl := List.mem_of_getElem? (i := 135) (by decide +kernel)
theorem fz1 : Cond.isRef (.static Bundle.tN "UNASSIGNED_STACK" Bundle.steD) ∈ flatC (Jvm.Cond.and given_1 narrow_1) := List.mem_of_getElem? (i := 4) (by decide +kernel)
theorem fz2 : Cond.isRef (.static Bundle.tN "SUPPRESSED_SENTINEL" Bundle.listD) ∈ flatC (Jvm.Cond.and given_1 narrow_1) := List.mem_of_getElem? (i := 5) (by decide +kernel)
theorem fz3 : Cond.eq (.static "java/lang/String" "COMPACT_STRINGS" "Z") (.int 1) ∈ flatC (Jvm.Cond.and given_1 narrow_1) := List.mem_of_getElem? (i := 6) (by decide +kernel)
theorem fz4 : Cond.isRef (.static "jdk/internal/util/Preconditions" "SIOOBE_FORMATTER" "Ljava/util/function/BiFunction;") ∈ flatC (Jvm.Cond.and given_1 narrow_1) := List.mem_of_getElem? (i := 7) (by decide +kernel)
theorem start_E {s : State} {b : Nat} (hts : ∀ w ∈ lw_tbl, w.before #[Value.ref b] s = true) (hgv : (Jvm.Cond.and given_1 narrow_1).before #[Value.ref b] s = true) : ∃ E : EV, E.1 = s.heap.size ∧ Tb E s ∧ Old E s s.heap ∧ E.2.2.2.1 33 = b := by
  have hs := flat_of_before _ hgv
  obtain ⟨D, hD⟩ := start_cl hts
  obtain ⟨ar, har⟩ := start_ar hts
  have hA : ∀ a : Nat, a < s.heap.size → ¬ (fun q : Nat => s.heap.size ≤ q) a := fun a h q => by
    have : s.heap.size ≤ a := q
    omega
  have hb : ∀ i, i < 16 → (sByt.getD i []).length < 2 ^ 31 := by decide
  have hstr : ∀ i : Nat, ∃ q : Nat × Nat, i < 16 → (tmT i).eval #[Value.ref b] s none [] s = some (.ref q.1) ∧ va_O "java/lang/String" q.1 (fun q : Nat => s.heap.size ≤ q) s s.heap ∧ va_OF "java/lang/String" "coder" "B" (.int 0) q.1 (fun q : Nat => s.heap.size ≤ q) s s.heap ∧ va_OF "java/lang/String" "value" "[B" (.ref q.2) q.1 (fun q : Nat => s.heap.size ≤ q) s s.heap ∧ va_T .byte q.2 (sByt.getD i []).length (fun j => .int ((sByt.getD i []).getD j 0)) (fun q : Nat => s.heap.size ≤ q) s s.heap := by
    intro i
    by_cases hi : i < 16
    · obtain ⟨q, hq⟩ := str_one (t := tmT i) (bs := sByt.getD i []) (A := fun q : Nat => s.heap.size ≤ q) (fun c hc => hs c (start_T i hi c hc)) (hb i hi) hA
      exact ⟨q, fun _ => hq⟩
    · exact ⟨(0, 0), fun h => absurd h hi⟩
  obtain ⟨ad, had⟩ := Classical.axiomOfChoice hstr
  have hz := va_Zqof (A := fun q : Nat => s.heap.size ≤ q) (hts _ ls4) (hts _ li4) (hs _ fz4) hA
  obtain ⟨t0, ht0⟩ : ∃ t0 : Nat, va_Z "jdk/internal/util/Preconditions" "SIOOBE_FORMATTER" "Ljava/util/function/BiFunction;" .null (fun q : Nat => s.heap.size ≤ q) s s.heap ∨ va_Z "jdk/internal/util/Preconditions" "SIOOBE_FORMATTER" "Ljava/util/function/BiFunction;" (.ref t0) (fun q : Nat => s.heap.size ≤ q) s s.heap := by
    rcases hz with h | ⟨t, h⟩
    · exact ⟨0, Or.inl h⟩
    · exact ⟨t, Or.inr h⟩
  obtain ⟨kf, hkf⟩ : ∃ kf : Nat → Nat, kf = fun i => if i < 16 then (ad i).1 else if i < 32 then (ad (i - 16)).2 else if i = 32 then t0 else b := ⟨_, rfl⟩
  have kf1 : ∀ i, i < 16 → kf i = (ad i).1 := fun i hi => by rw [hkf]; exact if_pos hi
  have kf2 : ∀ j, j < 16 → kf (16 + j) = (ad j).2 := fun j hj => by
    rw [hkf]
    show (if 16 + j < 16 then _ else if 16 + j < 32 then _ else _) = _
    rw [if_neg (by omega), if_pos (by omega)]
    congr 2
    omega
  have kf3 : kf 32 = t0 := by rw [hkf]; rfl
  have kf4 : kf 33 = b := by rw [hkf]; rfl
  refine ⟨(s.heap.size, D, ar, kf, fun i => (ad i).2), rfl, ⟨⟨hD, har⟩, fun q hq => va_Nw.of rfl (hts _ (nw_all q hq)), ⟨hts _ aw3, hts _ aw4, hts _ aw5⟩, ?_, ⟨va_Nw.of rfl (hts _ cw1), va_Nw.of rfl (hts _ cw2), va_Nw.of rfl (hts _ cw3)⟩, ⟨va_Nc.of (hs _ nc1), va_Nc.of (hs _ nc2)⟩, fun c hc => va_Nw.of rfl (hts _ (dc_all c hc))⟩, ⟨⟨?_, ?_⟩, ⟨vx_Zqof (hts _ ls1) (hts _ li1) (hs _ fz1) hA, vx_Zqof (hts _ ls2) (hts _ li1) (hs _ fz2) hA⟩, va_Zof (hts _ ls3) (hts _ li3) (va_eqt (hs _ fz3)) hA, ?_, ?_⟩, kf4⟩
  · intro q hq
    obtain ⟨h16, hc⟩ := sr_cases q hq
    refine vk_R.of (hts _ (sr_all q hq)) ?_
    have h1 := (had q.2.2 h16).1
    show (Term.string q.1 q.2.1).eval #[Value.ref b] s none [] s = some (.ref (kf q.2.2))
    rw [kf1 _ h16]
    rcases hc with ⟨e1, e2⟩ | ⟨e1, e2⟩
    · rw [e1, ← e2]; exact h1
    · rw [e1]
      obtain ⟨z, hz, -⟩ := str_one (t := .string "SonsLotModel" q.2.1) (bs := sByt.getD q.2.2 []) (A := fun q : Nat => s.heap.size ≤ q) (fun c hc => hs c (start_M2 (q.2.1, q.2.2) e2 c hc)) (hb _ h16) hA
      rw [eq_ref h1 hz (hs _ (start_M (q.2.1, q.2.2) e2))]
      exact hz
  · intro i hi
    show va_O "java/lang/String" (kf i) _ s s.heap ∧ va_OF "java/lang/String" "coder" "B" (.int 0) (kf i) _ s s.heap ∧ va_OF "java/lang/String" "value" "[B" (.ref (ad i).2) (kf i) _ s s.heap ∧ va_T .byte (ad i).2 (sLen.getD i 0) (fun j => .int ((sByt.getD i []).getD j 0)) _ s s.heap
    rw [kf1 i hi, sLen_byt i hi]
    exact (had i hi).2
  · intro i j hi hj e
    refine start_inj (adK := fun i => (ad i).1) (adV := fun i => (ad i).2) (fun i hi => (had i hi).2) i j hi hj ?_
    have e : kf i = kf j := e
    rw [kf1 i hi, kf1 j hj] at e
    exact e
  · show va_Z _ _ _ _ _ s s.heap ∨ va_Z _ _ _ (.ref (kf 32)) _ s s.heap
    rw [kf3]
    exact ht0
  · intro j hj
    exact kf2 j hj

theorem ph_s (E : EV) (j : Nat) : ph E (1000 + j) = E.2.2.2.1 j := by unfold ph; rw [if_neg (by omega), Nat.add_sub_cancel_left]
def sch (j k : Nat) : Int32 := (sByt.getD j []).getD k 0 &&& 255
section
variable {mi y : MI} {d mc ms cells slots pc d2 idx n : Nat} {L : List (Nat × Value)} {st rest As : List Value} {M : Mem} {o : RS} {j : Nat}
theorem g_sval (hj : j < 16) (hw : Cond.fieldLink mi.2.2.2.cls idx "java/lang/String" "value" "[B" ∈ TB) (hd : decode mi.1 pc = .ok (.getfield idx, 3)) (h : GO mi d mc ms cells slots (pc + 3) L (.ref (1000 + (16 + j)) :: st) M o) : GO mi d mc ms cells slots pc L (.ref (1000 + j) :: st) M o := by
  intro M' ρ e l E p e' s m args below meth c ls H locs B b hl hP hS hz
  have k := h M' ρ e l E p e' s m args below meth c ls H locs B b hl hP hS hz
  have hO := B.2.2.2.2.1
  have k2 : W p l e' _ s m args below meth c H locs cells slots _ (F0 m (pc + 3) ls (.ref (ph E (1000 + (16 + j))) :: st.map (cvv E))) := k
  show W p l e' _ s m args below meth c H locs cells slots _ (F0 m pc ls (.ref (ph E (1000 + j)) :: st.map (cvv E)))
  rw [ph_s, hO.2.2.2.2 j hj] at k2
  rw [ph_s]
  exact vk_getf B.1.1 B.1.2.1 (hO.1.1 j hj).2.2.1 hS B.2.1 (B.2.2.1 _ hw) (fun _ h => h) hd k2
theorem g_scod (hj : j < 16) (hw : Cond.fieldLink mi.2.2.2.cls idx "java/lang/String" "coder" "B" ∈ TB) (hd : decode mi.1 pc = .ok (.getfield idx, 3)) (h : GO mi d mc ms cells slots (pc + 3) L (.int 0 :: st) M o) : GO mi d mc ms cells slots pc L (.ref (1000 + j) :: st) M o := by
  intro M' ρ e l E p e' s m args below meth c ls H locs B b hl hP hS hz
  have k := h M' ρ e l E p e' s m args below meth c ls H locs B b hl hP hS hz
  show W p l e' _ s m args below meth c H locs cells slots _ (F0 m pc ls (.ref (ph E (1000 + j)) :: st.map (cvv E)))
  rw [ph_s]
  exact vk_getf B.1.1 B.1.2.1 (B.2.2.2.2.1.1.1 j hj).2.1 hS B.2.1 (B.2.2.1 _ hw) (fun _ h => h) hd k
theorem g_scom (hw : Cond.fieldLink mi.2.2.2.cls idx "java/lang/String" "COMPACT_STRINGS" "Z" ∈ TB) (hd : decode mi.1 pc = .ok (.getstatic idx, 3)) (h : GO mi d mc ms cells slots (pc + 3) L (.int 1 :: st) M o) : GO mi d mc ms cells slots pc L st M o := by
  intro M' ρ e l E p e' s m args below meth c ls H locs B b hl hP hS hz
  exact va_gets B.1.1 B.1.2.1 B.2.2.2.2.1.2.2.1 hS B.2.1 (B.2.2.1 _ hw) (fun _ h => h) hd (h M' ρ e l E p e' s m args below meth c ls H locs B b hl hP hS hz)
theorem g_ssio (hw : Cond.fieldLink mi.2.2.2.cls idx "jdk/internal/util/Preconditions" "SIOOBE_FORMATTER" "Ljava/util/function/BiFunction;" ∈ TB) (hd : decode mi.1 pc = .ok (.getstatic idx, 3)) (h1 : GO mi d mc ms cells slots (pc + 3) L (.null :: st) M o) (h2 : GO mi d mc ms cells slots (pc + 3) L (.ref (1000 + 32) :: st) M o) : GO mi d mc ms cells slots pc L st M o := by
  intro M' ρ e l E p e' s m args below meth c ls H locs B b hl hP hS hz
  rcases B.2.2.2.2.1.2.2.2.1 with q | q
  · exact va_gets B.1.1 B.1.2.1 q hS B.2.1 (B.2.2.1 _ hw) (fun _ h => h) hd (h1 M' ρ e l E p e' s m args below meth c ls H locs B b hl hP hS hz)
  · have k2 : W p l e' _ s m args below meth c H locs cells slots _ (F0 m (pc + 3) ls (.ref (ph E (1000 + 32)) :: st.map (cvv E))) := h2 M' ρ e l E p e' s m args below meth c ls H locs B b hl hP hS hz
    rw [ph_s] at k2
    exact va_gets B.1.1 B.1.2.1 q hS B.2.1 (B.2.2.1 _ hw) (fun _ h => h) hd k2
theorem g_salen (hj : j < 16) (hd : decode mi.1 pc = .ok (.arraylength, 1)) (h : GO mi d mc ms cells slots (pc + 1) L (.int (nI (sLen.getD j 0)) :: st) M o) : GO mi d mc ms cells slots pc L (.ref (1000 + (16 + j)) :: st) M o := by
  intro M' ρ e l E p e' s m args below meth c ls H locs B b hl hP hS hz
  show W p l e' _ s m args below meth c H locs cells slots _ (F0 m pc ls (.ref (ph E (1000 + (16 + j))) :: st.map (cvv E)))
  rw [ph_s, B.2.2.2.2.1.2.2.2.2 j hj]
  exact va_tlen B.1.1 B.1.2.1 (B.2.2.2.2.1.1.1 j hj).2.2.2 hS rfl hd (h M' ρ e l E p e' s m args below meth c ls H locs B b hl hP hS hz)
theorem g_sbald {i : Int32} (hj : j < 16) (hi : inb i (sLen.getD j 0) = true) (hd : decode mi.1 pc = .ok (.baload, 1)) (h : GO mi d mc ms cells slots (pc + 1) L (.int ((sByt.getD j []).getD (ix i) 0) :: st) M o) : GO mi d mc ms cells slots pc L (.int i :: .ref (1000 + (16 + j)) :: st) M o := by
  intro M' ρ e l E p e' s m args below meth c ls H locs B b hl hP hS hz
  show W p l e' _ s m args below meth c H locs cells slots _ (F0 m pc ls (.int i :: .ref (ph E (1000 + (16 + j))) :: st.map (cvv E)))
  rw [ph_s, B.2.2.2.2.1.2.2.2.2 j hj]
  exact va_tb B.1.1 B.1.2.1 (B.2.2.2.2.1.1.1 j hj).2.2.2 hS (inb_iff.mp hi) rfl hd (h M' ρ e l E p e' s m args below meth c ls H locs B b hl hP hS hz)
theorem g_nreturn {v : Int32} {ty : FieldType} (hr : mi.2.2.1 = some ty) (hn : narrow ty (.int v) = .int v) (hc : cells ≤ mc) (hs : slots ≤ ms) (hd : decode mi.1 pc = .ok (.ireturn, 1)) : GO mi d mc ms cells slots pc L [.int v] M (some (M, .inr (some (.int v)))) := by
  intro M' ρ e l E p e' s m args below meth c ls H locs B b hl hP hS hz2
  cases e
  refine W.widen hc hs (vx_ret ?_)
  exact W.zret B.1.1 B.1.2.1 (B.1.2.2.2.1.trans hr) hn (fun t ht _ => ⟨⟨_, rfl, rfl⟩, by rw [ht]; exact hP, fun q => absurd q (Nat.lt_irrefl _), hS.F ht⟩) hS.2.2 hd B.1.2.2.2.2.1
theorem g_callSK {v : Int32} {st0 : List Value} (hm : MokS y n) (hn : As.length = n) (hlink : Cond.methodLink mi.2.2.2.cls idx y.2.2.2 ∈ TB) (hd2 : d2 + 1 ≤ d) (hmc : cells + 0 ≤ mc ∧ slots + 0 ≤ ms) (hcat : (rest.map fun v => v.category).sum ≤ 8) (hst : st0 = As.reverse ++ rest)
    (hd : decode mi.1 pc = .ok (.invokestatic idx, 3)) (hK : CTO d2 y 0 0 As M (some (M, .inr (some (.int v))))) (h : GO mi d mc ms cells slots (pc + 3) L (.int v :: rest) M o) : GO mi d mc ms cells slots pc L st0 M o := by
  intro M' ρ e l E p e' s m args below meth c ls H locs B b hl hP hS hz
  exact call_ret (r := some (.int v)) (runS (ρ1 := .inr (some (.int v))) hm hn hlink hd2 hmc hcat hst hd (hK M _ rfl) B hl hP hS) hS (fun H1 locs1 hP1 hS1 => h M' ρ e l E p e' s m args below meth c ls H1 locs1 B b hl hP1 hS1 (fun q => absurd q (Nat.lt_irrefl _)))
/-- a call on a String -/
theorem g_scall {v : Int32} {st0 : List Value} (hj : j < 16) (hyC : y.2.2.2.cls = "java/lang/String") (hm : MokV y n) (hn : As.length = n) (hlink : Cond.methodLink mi.2.2.2.cls idx y.2.2.2 ∈ TB) (hd2 : d2 + 1 ≤ d) (hmc : cells ≤ mc ∧ slots ≤ ms) (hcat : (rest.map fun v => v.category).sum ≤ 8) (hst : st0 = As.reverse ++ .ref (1000 + j) :: rest)
    (hd : decode mi.1 pc = .ok (.invokevirtual idx, 3)) (hK : CTO d2 y 0 0 (.ref (1000 + j) :: As) M (some (M, .inr (some (.int v))))) (h : GO mi d mc ms cells slots (pc + 3) L (.int v :: rest) M o) : GO mi d mc ms cells slots pc L st0 M o := by
  intro M' ρ e l E p e' s m args below meth c ls H locs B b hl hP hS hz
  have hK := hK M _ rfl
  have hp1 := cp_pre (av := .ref (1000 + j) :: As) B.2.2.2.1 B.2.2.2.2.1 B.2.2.2.2.2.2 hP hS
  have e1 : ((Value.ref (1000 + j) :: As).map (cvv E)).toArray = (Value.ref (E.2.2.2.1 j) :: As.map (cvv E)).toArray := by
    show (Value.ref (ph E (1000 + j)) :: As.map (cvv E)).toArray = _
    rw [ph_s]
  rw [e1] at hp1
  refine call_ret (mc1 := 0) (ms1 := 0) (r := some (.int v)) (vx_runV (As := As.map (cvv E)) (rest := rest.map (cvv E)) (b := E.2.2.2.1 j) (C := "java/lang/String") (nL := mi.2.1) ⟨B.1.1, B.1.2.1, B.1.2.2.1, B.2.1, B.2.2.1⟩ (hK l E B.2.2.2.2.2.1) ⟨hm.1.callB B.2.2.1 hlink hd2, B.2.2.1 _ hm.2.1, by rw [← hyC]; exact B.2.2.1 _ hm.2.2⟩ ⟨Cp.blind, vk_recv B.2.2.2.2.1.1 hj hS, hp1⟩ rfl ?_ ?_ ?_ ?_ hd hmc) hS (fun H1 locs1 hP1 hS1 => h M' ρ e l E p e' s m args below meth c ls H1 locs1 B b hl hP1 hS1 (fun q => absurd q (Nat.lt_irrefl _)))
  · rw [List.length_map]; exact hn
  · exact hl.1
  · show st0.map (cvv E) = _
    rw [hst, List.map_append, List.map_reverse, List.map_cons]
    show _ ++ Value.ref (ph E (1000 + j)) :: _ = _
    rw [ph_s]
  · show 2 * 0 + ((rest.map (cvv E)).map fun v => v.category).sum ≤ 8
    rw [cat_sum]
    omega
end
abbrev miJ0_coder_7d493 : MI := (cJ0_coder_7d493, 1, (some .byte), yJ0_coder_7d493)
theorem moJ0_coder_7d493 : MokV miJ0_coder_7d493 0 := ⟨⟨⟨⟨by decide, by decide, by decide +kernel⟩, by decide⟩, tbm (k := 133) (by decide +kernel) (by decide +kernel), tbm (k := 895) (by decide +kernel) (by decide +kernel)⟩, tbm (k := 893) (by decide +kernel) (by decide +kernel), tbm (k := 894) (by decide +kernel) (by decide +kernel)⟩
abbrev miJ0_isLatin1_aae02 : MI := (cJ0_isLatin1_aae02, 1, (some .boolean), yJ0_isLatin1_aae02)
theorem moJ0_isLatin1_aae02 : MokV miJ0_isLatin1_aae02 0 := ⟨⟨⟨⟨by decide, by decide, by decide +kernel⟩, by decide⟩, tbm (k := 133) (by decide +kernel) (by decide +kernel), tbm (k := 905) (by decide +kernel) (by decide +kernel)⟩, tbm (k := 903) (by decide +kernel) (by decide +kernel), tbm (k := 904) (by decide +kernel) (by decide +kernel)⟩
abbrev miJ0_length_8abf5 : MI := (cJ0_length_8abf5, 1, (some .int), yJ0_length_8abf5)
theorem moJ0_length_8abf5 : MokV miJ0_length_8abf5 0 := ⟨⟨⟨⟨by decide, by decide, by decide +kernel⟩, by decide⟩, tbm (k := 133) (by decide +kernel) (by decide +kernel), tbm (k := 891) (by decide +kernel) (by decide +kernel)⟩, tbm (k := 889) (by decide +kernel) (by decide +kernel), tbm (k := 890) (by decide +kernel) (by decide +kernel)⟩
abbrev miJ0_charAt_5068e : MI := (cJ0_charAt_5068e, 2, (some .char), yJ0_charAt_5068e)
theorem moJ0_charAt_5068e : MokV miJ0_charAt_5068e 1 := ⟨⟨⟨⟨by decide, by decide, by decide +kernel⟩, by decide⟩, tbm (k := 133) (by decide +kernel) (by decide +kernel), tbm (k := 901) (by decide +kernel) (by decide +kernel)⟩, tbm (k := 899) (by decide +kernel) (by decide +kernel), tbm (k := 900) (by decide +kernel) (by decide +kernel)⟩
abbrev miJ0_checkIndex_df160 : MI := (cJ0_checkIndex_df160, 2, none, yJ0_checkIndex_df160)
theorem moJ0_checkIndex_df160 : MokS miJ0_checkIndex_df160 2 := ⟨⟨⟨⟨by decide, by decide, by decide +kernel⟩, by decide⟩, tbm (k := 133) (by decide +kernel) (by decide +kernel), tbm (k := 911) (by decide +kernel) (by decide +kernel)⟩, tbm (k := 910) (by decide +kernel) (by decide +kernel)⟩
abbrev miJ1_charAt_3b067 : MI := (cJ1_charAt_3b067, 2, (some .char), yJ1_charAt_3b067)
theorem moJ1_charAt_3b067 : MokS miJ1_charAt_3b067 2 := ⟨⟨⟨⟨by decide, by decide, by decide +kernel⟩, by decide⟩, tbm (k := 134) (by decide +kernel) (by decide +kernel), tbm (k := 908) (by decide +kernel) (by decide +kernel)⟩, tbm (k := 907) (by decide +kernel) (by decide +kernel)⟩
abbrev miJ3_checkIndex_8e157 : MI := (cJ3_checkIndex_8e157, 3, (some .int), yJ3_checkIndex_8e157)
theorem moJ3_checkIndex_8e157 : MokS miJ3_checkIndex_8e157 3 := ⟨⟨⟨⟨by decide, by decide, by decide +kernel⟩, by decide⟩, tbm (k := 135) (by decide +kernel) (by decide +kernel), tbm (k := 916) (by decide +kernel) (by decide +kernel)⟩, tbm (k := 915) (by decide +kernel) (by decide +kernel)⟩
theorem sJ_coder (j : Nat) (hj : j < 16) (M : Mem) : CTO 0 miJ0_coder_7d493 0 0 [.ref (1000 + j)] M (some (M, .inr (some (.int 0)))) := by
  refine CTO.of (by decide) (by simp [lg_sl, Value.category]) ?_
  show GO miJ0_coder_7d493 0 0 0 0 0 0 [(0, .ref (1000 + j))] [] M _
  refine g_scom (tbm (k := 896) (by decide +kernel) (by decide +kernel) : Cond.fieldLink "java/lang/String" 38 "java/lang/String" "COMPACT_STRINGS" "Z" ∈ TB) dJ0_coder_7d493_0 ?_
  have := g_if_eq (mi := miJ0_coder_7d493) (d := 0) (mc := 0) (ms := 0) (cells := 0) (slots := 0) (L := [(0, .ref (1000 + j))]) (st := []) (M := M) (x := 1) (tgt := 13) (A := none) (B := some (M, .inr (some (.int 0)))) rfl dJ0_coder_7d493_3 (fun _ => GO.none) (fun _ => ?_)
  · exact this
  refine g_aload_n 0 rfl rfl dJ0_coder_7d493_6 ?_
  refine g_scod hj (tbm (k := 2095) (by decide +kernel) (by decide +kernel) : Cond.fieldLink "java/lang/String" 15 "java/lang/String" "coder" "B" ∈ TB) dJ0_coder_7d493_7 ?_
  refine g_goto (tgt := 14) rfl dJ0_coder_7d493_10 ?_
  exact g_nreturn rfl (by decide) (by decide) (by decide) dJ0_coder_7d493_14
theorem sJ_lat (j : Nat) (hj : j < 16) (M : Mem) : CTO 0 miJ0_isLatin1_aae02 0 0 [.ref (1000 + j)] M (some (M, .inr (some (.int 1)))) := by
  refine CTO.of (by decide) (by simp [lg_sl, Value.category]) ?_
  show GO miJ0_isLatin1_aae02 0 0 0 0 0 0 [(0, .ref (1000 + j))] [] M _
  refine g_scom (tbm (k := 896) (by decide +kernel) (by decide +kernel) : Cond.fieldLink "java/lang/String" 38 "java/lang/String" "COMPACT_STRINGS" "Z" ∈ TB) dJ0_isLatin1_aae02_0 ?_
  have := g_if_eq (mi := miJ0_isLatin1_aae02) (d := 0) (mc := 0) (ms := 0) (cells := 0) (slots := 0) (L := [(0, .ref (1000 + j))]) (st := []) (M := M) (x := 1) (tgt := 17) (A := none) (B := some (M, .inr (some (.int 1)))) rfl dJ0_isLatin1_aae02_3 (fun _ => GO.none) (fun _ => ?_)
  · exact this
  refine g_aload_n 0 rfl rfl dJ0_isLatin1_aae02_6 ?_
  refine g_scod hj (tbm (k := 2095) (by decide +kernel) (by decide +kernel) : Cond.fieldLink "java/lang/String" 15 "java/lang/String" "coder" "B" ∈ TB) dJ0_isLatin1_aae02_7 ?_
  have := g_if_ne (mi := miJ0_isLatin1_aae02) (d := 0) (mc := 0) (ms := 0) (cells := 0) (slots := 0) (L := [(0, .ref (1000 + j))]) (st := []) (M := M) (x := 0) (tgt := 17) (A := none) (B := some (M, .inr (some (.int 1)))) rfl dJ0_isLatin1_aae02_10 (fun _ => GO.none) (fun _ => ?_)
  · exact this
  refine g_iconst (v := 1) (by decide) dJ0_isLatin1_aae02_13 ?_
  refine g_goto (tgt := 18) rfl dJ0_isLatin1_aae02_14 ?_
  exact g_zreturn rfl (by decide) (by decide) dJ0_isLatin1_aae02_18 (by decide)
theorem sLen_lt : ∀ j, j < 16 → sLen.getD j 0 < 2 ^ 31 := by decide
theorem sJ_length (j : Nat) (hj : j < 16) (M : Mem) : CTO 1 miJ0_length_8abf5 0 0 [.ref (1000 + j)] M (some (M, .inr (some (.int (nI (sLen.getD j 0)))))) := by
  refine CTO.of (by decide) (by simp [lg_sl, Value.category]) ?_
  show GO miJ0_length_8abf5 1 0 0 0 0 0 [(0, .ref (1000 + j))] [] M _
  refine g_aload_n 0 rfl rfl dJ0_length_8abf5_0 ?_
  refine g_sval hj (tbm (k := 2094) (by decide +kernel) (by decide +kernel) : Cond.fieldLink "java/lang/String" 9 "java/lang/String" "value" "[B" ∈ TB) dJ0_length_8abf5_1 ?_
  refine g_salen hj dJ0_length_8abf5_4 ?_
  refine g_aload_n 0 rfl rfl dJ0_length_8abf5_5 ?_
  refine g_scall (y := miJ0_coder_7d493) (As := []) (rest := [.int (nI (sLen.getD j 0))]) hj rfl moJ0_coder_7d493 rfl (tbm (k := 892) (by decide +kernel) (by decide +kernel) : Cond.methodLink "java/lang/String" 335 yJ0_coder_7d493 ∈ TB) (by decide) (by decide) (by simp [Value.category]) rfl dJ0_length_8abf5_6 (sJ_coder j hj M) ?_
  refine g_ishr dJ0_length_8abf5_9 ?_
  rw [sc_shr0 (sLen_lt j hj)]
  exact g_ireturn rfl (by decide) (by decide) dJ0_length_8abf5_10 rfl rfl
theorem sJ_prec (i n : Int32) (v : Value) (hv : v = .null ∨ v = .ref (1000 + 32)) (h1 : ¬ i < 0) (h2 : i < n) (M : Mem) : CTO 0 miJ3_checkIndex_8e157 0 0 [.int i, .int n, v] M (some (M, .inr (some (.int i)))) := by
  refine CTO.of (by decide) (by rcases hv with rfl | rfl <;> simp [lg_sl, Value.category]) ?_
  have e : lv_args 0 [.int i, .int n, v] = [(0, .int i), (1, .int n), (2, v)] := by simp [lv_args, Value.category]
  rw [e]
  refine GO.pick [0, 1] rfl ?_
  refine g_iload_n 0 rfl rfl dJ3_checkIndex_8e157_0 ?_
  have := g_if_lt (mi := miJ3_checkIndex_8e157) (d := 0) (mc := 0) (ms := 0) (cells := 0) (slots := 0) (L := [(0, .int i), (1, .int n)]) (st := []) (M := M) (x := i) (tgt := 9) (A := none) (B := some (M, .inr (some (.int i)))) rfl dJ3_checkIndex_8e157_1 (fun c => absurd c h1) (fun _ => ?_)
  · rw [if_neg h1] at this; exact this
  refine g_iload_n 0 rfl rfl dJ3_checkIndex_8e157_4 ?_
  refine g_iload_n 1 rfl rfl dJ3_checkIndex_8e157_5 ?_
  have := g_icmp_lt (mi := miJ3_checkIndex_8e157) (d := 0) (mc := 0) (ms := 0) (cells := 0) (slots := 0) (L := [(0, .int i), (1, .int n)]) (st := []) (M := M) (x := i) (y := n) (tgt := 16) (A := some (M, .inr (some (.int i)))) (B := none) rfl dJ3_checkIndex_8e157_6 (fun _ => ?_) (fun c => absurd h2 c)
  · rw [if_pos h2] at this; exact this
  refine g_iload_n 0 rfl rfl dJ3_checkIndex_8e157_16 ?_
  exact g_ireturn rfl (by decide) (by decide) dJ3_checkIndex_8e157_17 rfl rfl
theorem sJ_chk (i n : Int32) (h1 : ¬ i < 0) (h2 : i < n) (M : Mem) : CTO 1 miJ0_checkIndex_df160 0 0 [.int i, .int n] M (some (M, .inr none)) := by
  refine CTO.of (by decide) (by simp [lg_sl, Value.category]) ?_
  show GO miJ0_checkIndex_df160 1 0 0 0 0 0 [(0, .int i), (1, .int n)] [] M _
  refine g_iload_n 0 rfl rfl dJ0_checkIndex_df160_0 ?_
  refine g_iload_n 1 rfl rfl dJ0_checkIndex_df160_1 ?_
  have key : ∀ v : Value, (v = .null ∨ v = .ref (1000 + 32)) → GO miJ0_checkIndex_df160 1 0 0 0 0 5 [(0, .int i), (1, .int n)] [v, .int n, .int i] M (bI (some (M, .inr (some (.int i)))) (fun M1 _ => some (M1, .inr none))) := by
    intro v hv
    refine g_callSI (y := miJ3_checkIndex_8e157) (As := [.int i, .int n, v]) (rest := []) moJ3_checkIndex_8e157 rfl (tbm (k := 914) (by decide +kernel) (by decide +kernel) : Cond.methodLink "java/lang/String" 1059 yJ3_checkIndex_8e157 ∈ TB) (by decide) (by decide) (by simp [Value.category]) rfl dJ0_checkIndex_df160_5 (sJ_prec i n v hv h1 h2 M) (fun M1 v1 => ?_)
    refine g_pop_int dJ0_checkIndex_df160_8 ?_
    exact g_vreturn rfl (by decide) (by decide) dJ0_checkIndex_df160_9
  exact g_ssio (tbm (k := 912) (by decide +kernel) (by decide +kernel) : Cond.fieldLink "java/lang/String" 1053 "jdk/internal/util/Preconditions" "SIOOBE_FORMATTER" "Ljava/util/function/BiFunction;" ∈ TB) dJ0_checkIndex_df160_2 (key .null (Or.inl rfl)) (key (.ref (1000 + 32)) (Or.inr rfl))
theorem in_lt {i : Int32} {n : Nat} (hn : n < 2 ^ 31) (h : inb i n = true) : ¬ i < 0 ∧ i < nI n := by
  have h1 := inb_iff.mp h
  obtain ⟨k, hk, e⟩ := vp_in_of h1 hn
  subst e
  exact ⟨nI_pos (by omega), nI_lt hk hn⟩
theorem sJ_c1 (j : Nat) (hj : j < 16) (i : Int32) (hi : inb i (sLen.getD j 0) = true) (M : Mem) : CTO 2 miJ1_charAt_3b067 0 0 [.ref (1000 + (16 + j)), .int i] M (some (M, .inr (some (.int (sch j (ix i)))))) := by
  refine CTO.of (by decide) (by simp [lg_sl, Value.category]) ?_
  show GO miJ1_charAt_3b067 2 0 0 0 0 0 [(0, .ref (1000 + (16 + j))), (1, .int i)] [] M _
  refine g_iload_n 1 rfl rfl dJ1_charAt_3b067_0 ?_
  refine g_aload_n 0 rfl rfl dJ1_charAt_3b067_1 ?_
  refine g_salen hj dJ1_charAt_3b067_2 ?_
  obtain ⟨q1, q2⟩ := in_lt (sLen_lt j hj) hi
  have := g_callSV (mi := miJ1_charAt_3b067) (d := 2) (mc := 0) (ms := 0) (cells := 0) (slots := 0) (L := [(0, .ref (1000 + (16 + j))), (1, .int i)]) (y := miJ0_checkIndex_df160) (As := [.int i, .int (nI (sLen.getD j 0))]) (rest := []) (k := fun M1 => some (M1, .inr (some (.int (sch j (ix i)))))) moJ0_checkIndex_df160 rfl (tbm (k := 909) (by decide +kernel) (by decide +kernel) : Cond.methodLink "java/lang/StringLatin1" 9 yJ0_checkIndex_df160 ∈ TB) (by decide) (by decide) (by simp [Value.category]) rfl dJ1_charAt_3b067_3 (sJ_chk i (nI (sLen.getD j 0)) q1 q2 M) (fun M1 => ?_)
  · exact this
  refine g_aload_n 0 rfl rfl dJ1_charAt_3b067_6 ?_
  refine g_iload_n 1 rfl rfl dJ1_charAt_3b067_7 ?_
  refine g_sbald hj hi dJ1_charAt_3b067_8 ?_
  refine g_sipush (v := 255) (by decide) dJ1_charAt_3b067_9 ?_
  refine g_iand dJ1_charAt_3b067_12 ?_
  refine g_i2c dJ1_charAt_3b067_13 ?_
  rw [sc_c2]
  exact g_nreturn rfl (sc_nar _) (by decide) (by decide) dJ1_charAt_3b067_14
theorem sJ_charAt (j : Nat) (hj : j < 16) (i : Int32) (hi : inb i (sLen.getD j 0) = true) (M : Mem) : CTO 3 miJ0_charAt_5068e 0 0 [.ref (1000 + j), .int i] M (some (M, .inr (some (.int (sch j (ix i)))))) := by
  refine CTO.of (by decide) (by simp [lg_sl, Value.category]) ?_
  show GO miJ0_charAt_5068e 3 0 0 0 0 0 [(0, .ref (1000 + j)), (1, .int i)] [] M _
  refine g_aload_n 0 rfl rfl dJ0_charAt_5068e_0 ?_
  refine g_scall (y := miJ0_isLatin1_aae02) (As := []) (rest := []) hj rfl moJ0_isLatin1_aae02 rfl (tbm (k := 902) (by decide +kernel) (by decide +kernel) : Cond.methodLink "java/lang/String" 492 yJ0_isLatin1_aae02 ∈ TB) (by decide) (by decide) (by simp [Value.category]) rfl dJ0_charAt_5068e_1 (sJ_lat j hj M) ?_
  have := g_if_eq (mi := miJ0_charAt_5068e) (d := 3) (mc := 0) (ms := 0) (cells := 0) (slots := 0) (L := [(0, .ref (1000 + j)), (1, .int i)]) (st := []) (M := M) (x := 1) (tgt := 16) (A := none) (B := some (M, .inr (some (.int (sch j (ix i)))))) rfl dJ0_charAt_5068e_4 (fun _ => GO.none) (fun _ => ?_)
  · exact this
  refine g_aload_n 0 rfl rfl dJ0_charAt_5068e_7 ?_
  refine g_sval hj (tbm (k := 2094) (by decide +kernel) (by decide +kernel) : Cond.fieldLink "java/lang/String" 9 "java/lang/String" "value" "[B" ∈ TB) dJ0_charAt_5068e_8 ?_
  refine g_iload_n 1 rfl rfl dJ0_charAt_5068e_11 ?_
  refine g_callSK (y := miJ1_charAt_3b067) (As := [.ref (1000 + (16 + j)), .int i]) (rest := []) moJ1_charAt_3b067 rfl (tbm (k := 906) (by decide +kernel) (by decide +kernel) : Cond.methodLink "java/lang/String" 495 yJ1_charAt_3b067 ∈ TB) (by decide) (by decide) (by simp [Value.category]) rfl dJ0_charAt_5068e_12 (sJ_c1 j hj i hi M) ?_
  exact g_nreturn rfl (sc_nar _) (by decide) (by decide) dJ0_charAt_5068e_15

section
variable {mi : MI} {d mc ms cells slots pc idx : Nat} {L : List (Nat × Value)} {st : List Value} {M : Mem} {o : RS} {j : Nat}
theorem g_slen (hj : j < 16) (hlink : Cond.methodLink mi.2.2.2.cls idx yJ0_length_8abf5 ∈ TB) (hdd : 4 ≤ d) (hmc : cells ≤ mc ∧ slots ≤ ms) (hcat : (st.map fun v => v.category).sum ≤ 8) (hd : decode mi.1 pc = .ok (.invokevirtual idx, 3)) (h : GO mi d mc ms cells slots (pc + 3) L (.int (nI (sLen.getD j 0)) :: st) M o) : GO mi d mc ms cells slots pc L (.ref (1000 + j) :: st) M o :=
  g_scall (y := miJ0_length_8abf5) (As := []) (rest := st) hj rfl moJ0_length_8abf5 rfl hlink (d2 := 1) (by omega) hmc hcat rfl hd (sJ_length j hj M) h
theorem g_schar {i : Int32} (hj : j < 16) (hi : inb i (sLen.getD j 0) = true) (hlink : Cond.methodLink mi.2.2.2.cls idx yJ0_charAt_5068e ∈ TB) (hdd : 4 ≤ d) (hmc : cells ≤ mc ∧ slots ≤ ms) (hcat : (st.map fun v => v.category).sum ≤ 8) (hd : decode mi.1 pc = .ok (.invokevirtual idx, 3)) (h : GO mi d mc ms cells slots (pc + 3) L (.int (sch j (ix i)) :: st) M o) : GO mi d mc ms cells slots pc L (.int i :: .ref (1000 + j) :: st) M o :=
  g_scall (y := miJ0_charAt_5068e) (As := [.int i]) (rest := st) hj rfl moJ0_charAt_5068e rfl hlink (d2 := 3) (by omega) hmc hcat rfl hd (sJ_charAt j hj i hi M) h
end
theorem vx_ofWF {l : Launch} {y : MethodName} {ws ws' : List Cond} {rm : Room} {Pc : Array Value → State → Prop} {Qc : Array Value → State → Outcome → State → Prop} {XC : String → State → State → Prop} {mc ms : Nat} {free : Addr → Prop} {cc : ByteArray} {maxL : Nat} {ret : Option FieldType}
    (hy : plainFor y = true) (hw : ws = Cond.code y cc maxL ret :: ws')
    (body : ∀ p e s m args below meth c s₁, BodyLoose p l y (headSpec ws rm) cc maxL ret e s m args below meth c s₁ → c.maxLocals = maxL → (∀ x ∈ c.exceptionTable.toList, False) → Pc args s →
      W p l e (headSpec ws rm).room s m args below meth c s.heap [] 0 0 (vx_MQ below Qc XC args s mc ms free) (entryFrame m args maxL)) : vx_Met l y ws rm Pc Qc XC mc ms free := by
  refine MetFree.of_bodySF (code := cc) (maxLocals := maxL) (ret := ret) hy ?_ ?_
  · intro args s m h hn
    obtain ⟨meth, c, h1, h2, h3, h4, h5, h6, -, -⟩ := Cond.code_spec hn (atoms_spec (ws := ws) h _ (by rw [hw]; exact List.mem_cons_self))
    exact ⟨meth, c, h1, h2, h3, h4, h5, h6⟩
  · intro p e s m args below meth c s₁ B hml hP _
    have hh0 : s₁.heap = s.heap := by rw [B.state]; rfl
    have ht : ∀ x ∈ c.exceptionTable.toList, False := by
      obtain ⟨meth9, c9, h1, h2, -, -, -, -, h7, -⟩ := Cond.code_spec B.named (atoms_spec (ws := ws) B.pre _ (by rw [hw]; exact List.mem_cons_self))
      cases Option.some.inj (h1.symm.trans B.method)
      cases Option.some.inj (h2.symm.trans (Stand.of_body B).code)
      intro x hx
      rw [Array.isEmpty_iff.mp h7] at hx
      cases hx
    obtain ⟨t, a1, o, b1, b2, b3⟩ := body p e s m args below meth c s₁ B hml ht hP s₁ hh0 (Stand.of_body B)
    exact ⟨t, o, a1, b1, b2, b3⟩
theorem CTO.ofF {mi : MI} {d mc ms : Nat} {M : Mem} {o : RS} {av : List Value} (hy : plainFor mi.2.2.2 = true) (hlen : (lg_sl av).length ≤ mi.2.1) (h : GO mi d mc ms 0 0 0 (lv_args 0 av) [] M o) : CTO d mi mc ms av M o := by
  intro M' ρ e l E hst
  refine vx_ofWF (cc := mi.1) (maxL := mi.2.1) (ret := mi.2.2.1) hy rfl ?_
  intro p e9 s m args below meth c s₁ B hml htab hv
  obtain ⟨rfl, hP, hT, hO, hz, hb⟩ := hv
  have hts := atoms_spec (ws := wsOf mi) B.pre
  have hl := lv_entry (av.map (cvv E)) (n := mi.2.1) (by rw [lg_sl_cv]; exact hlen)
  rw [lg_entry_eq]
  generalize (lg_sl (av.map (cvv E)) ++ List.replicate (mi.2.1 - (lg_sl (av.map (cvv E))).length) Slot.unset).toArray = ls at hl ⊢
  rw [lv_args_cv] at hl
  exact h M' ρ e l E p e9 s m _ below meth c ls s.heap [] ⟨⟨B.exec, B.bytes, hml, B.returns, B.notSynchronized, (name_of_methodNamed B.named B.method).1⟩, findClass_of_methodNamed B.named, fun w hw => hts w (List.mem_cons_of_mem _ hw), hT, hO, hst, hb⟩ htab hl hP va_S.rf hz
theorem g_ldcwS {mi : MI} {d mc ms cells slots pc : Nat} {L : List (Nat × Value)} {st : List Value} {M : Mem} {o : RS} {idx j : Nat} (hq : (mi.2.2.2.cls, idx, j) ∈ SRl) (hd : decode mi.1 pc = .ok (.ldc_w idx, 3)) (h : GO mi d mc ms cells slots (pc + 3) L (.ref (1000 + j) :: st) M o) : GO mi d mc ms cells slots pc L st M o := by
  intro M' ρ e l E p e' s m args below meth c ls H locs B b hl hP hS hz
  have k2 : W p l e' _ s m args below meth c H locs cells slots _ (F0 m (pc + 3) ls (.ref (ph E (1000 + j)) :: st.map (cvv E))) := h M' ρ e l E p e' s m args below meth c ls H locs B b hl hP hS hz
  rw [ph_s] at k2
  have hZ := B.2.2.2.1.2.2.2.1 _ hq
  intro T hT X
  obtain ⟨t, a1, b1⟩ := k2 T hT X
  exact ⟨t, ldcStringW X B.1.1 B.2.1 (text := sTx.getD j "") (a := E.2.2.2.1 j) hZ.1 hZ.2 (g := F0 m pc ls (st.map (cvv E))) rfl (by rw [B.1.2.1]; exact hd) t a1, b1⟩
theorem g_alenS {mi : MI} {d mc ms cells slots pc : Nat} {L : List (Nat × Value)} {st : List Value} {M : Mem} {o : RS} {a n : Nat} {v : Int32} (hk : kd a = (25, n)) (hv : Int32.ofNat n = v) (hd : decode mi.1 pc = .ok (.arraylength, 1)) (h : GO mi d mc ms cells slots (pc + 1) L (.int v :: st) M o) : GO mi d mc ms cells slots pc L (.ref a :: st) M o := by
  intro M' ρ e l E p e' s m args below meth c ls H locs B b hl hP hS hz
  have ha : a < NN := kd_lt hk (by omega)
  have hg := wld_get (E := E) (F := cel M) ha
  show W p l e' _ s m args below meth c H locs cells slots _ (F0 m pc ls (.ref (ph E a) :: st.map (cvv E)))
  rw [ph_lt E (nn1 ha)]
  rw [cel_s hk] at hg
  exact va_alen B.1.1 B.1.2.1 B.2.2.2.1.1 hP a 5 hg rfl hv hd (h M' ρ e l E p e' s m args below meth c ls H locs B b hl hP hS hz)

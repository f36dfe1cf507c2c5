def fX5_readMarket (M : Mem)  : RS := if (gi M (isA (gb M 2)) 15) = 0 then bV (fX5_advance M) (fun M1 => wr (si M1 (isA (gb M1 2)) 15 1) (fun M3 => bI (fX5_readNumber M3 20) (fun M4 v5 => wr (si M4 (isA (gb M3 2)) 12 v5) (fun M6 => bI (fX5_readNumber M6 20) (fun M7 v8 => wr (si M7 (isA (gb M6 2)) 13 v8) (fun M9 => some (M9, .inr none))))))) else bV (fX5_refuseAs M 5) (fun M10 => some (M10, .inr none))
theorem SX5_readMarket (M : Mem)  : CTO (3) miX5_readMarket 0 0 [.ref 17] M (fX5_readMarket  M ) := by
  refine CTO.of (by decide) (by simp [lg_sl, Value.category]) ?_
  show GO miX5_readMarket (3) 0 0 0 0 0 [(0, .ref 17)] [] M (if (gi M (isA (gb M 2)) 15) = 0 then bV (fX5_advance M) (fun M1 => wr (si M1 (isA (gb M1 2)) 15 1) (fun M3 => bI (fX5_readNumber M3 20) (fun M4 v5 => wr (si M4 (isA (gb M3 2)) 12 v5) (fun M6 => bI (fX5_readNumber M6 20) (fun M7 v8 => wr (si M7 (isA (gb M6 2)) 13 v8) (fun M9 => some (M9, .inr none))))))) else bV (fX5_refuseAs M 5) (fun M10 => some (M10, .inr none)))
  refine g_aload_n 0 rfl rfl dX5_readMarket_0 ?_
  refine g_getR (k := 1) (b := (isA (gb M 2))) clX5 kd_17 (by decide) rfl rfl flX5_24 dX5_readMarket_1 ?_
  refine g_getI (k := 15) clX2 (kv_d3_24_0 _ (isA_dom _)) (by decide) rfl flX5_119 dX5_readMarket_4 ?_
  refine g_if_eq (tgt := 16) rfl dX5_readMarket_7 (fun c => ?_) (fun c => ?_)
  · refine g_aload_n 0 rfl rfl dX5_readMarket_16 ?_
    refine g_callVV (y := miX5_advance) (As := []) (rest := []) clX5 kd_17 rfl moX5_advance rfl mlX5_96 (by first | decide | omega) (by decide) (by simp [Value.category]) rfl dX5_readMarket_17 (SX5_advance  M) (fun M1 => ?_)
    refine g_aload_n 0 rfl rfl dX5_readMarket_20 ?_
    refine g_getR (k := 1) (b := (isA (gb M1 2))) clX5 kd_17 (by decide) rfl rfl flX5_24 dX5_readMarket_21 ?_
    refine g_iconst (v := 1) (by decide) dX5_readMarket_24 ?_
    refine g_putZ (k := 15) clX2 (kv_d3_24_0 _ (isA_dom _)) (by decide) rfl (by decide) rfl (by decide) flX5_119 dX5_readMarket_25 ?_
    refine GO.wr (fun M3 => ?_)
    refine g_aload_n 0 rfl rfl dX5_readMarket_28 ?_
    refine g_getR (k := 1) (b := (isA (gb M3 2))) clX5 kd_17 (by decide) rfl rfl flX5_24 dX5_readMarket_29 ?_
    refine g_aload_n 0 rfl rfl dX5_readMarket_32 ?_
    refine g_bipush (v := 20) (by decide) dX5_readMarket_33 ?_
    refine g_callVI (y := miX5_readNumber) (As := [.int 20]) (rest := [.ref (isA (gb M3 2))]) clX5 kd_17 rfl moX5_readNumber rfl mlX5_99 (by first | decide | omega) (by decide) (by simp [Value.category]) rfl dX5_readMarket_35 (SX5_readNumber  M3 20) (fun M4 v5 => ?_)
    refine g_putI (k := 12) clX2 (kv_d3_24_0 _ (isA_dom _)) (by decide) rfl (by decide) rfl flX5_123 dX5_readMarket_38 ?_
    refine GO.wr (fun M6 => ?_)
    refine g_aload_n 0 rfl rfl dX5_readMarket_41 ?_
    refine g_getR (k := 1) (b := (isA (gb M6 2))) clX5 kd_17 (by decide) rfl rfl flX5_24 dX5_readMarket_42 ?_
    refine g_aload_n 0 rfl rfl dX5_readMarket_45 ?_
    refine g_bipush (v := 20) (by decide) dX5_readMarket_46 ?_
    refine g_callVI (y := miX5_readNumber) (As := [.int 20]) (rest := [.ref (isA (gb M6 2))]) clX5 kd_17 rfl moX5_readNumber rfl mlX5_99 (by first | decide | omega) (by decide) (by simp [Value.category]) rfl dX5_readMarket_48 (SX5_readNumber  M6 20) (fun M7 v8 => ?_)
    refine g_putI (k := 13) clX2 (kv_d3_24_0 _ (isA_dom _)) (by decide) rfl (by decide) rfl flX5_126 dX5_readMarket_51 ?_
    refine GO.wr (fun M9 => ?_)
    exact g_vreturn rfl (by decide) (by decide) dX5_readMarket_54
  · refine g_aload_n 0 rfl rfl dX5_readMarket_10 ?_
    refine g_iconst (v := 5) (by decide) dX5_readMarket_11 ?_
    refine g_callVV (y := miX5_refuseAs) (As := [.int 5]) (rest := []) clX5 kd_17 rfl moX5_refuseAs rfl mlX5_87 (by first | decide | omega) (by decide) (by simp [Value.category]) rfl dX5_readMarket_12 (SX5_refuseAs  M 5) (fun M10 => ?_)
    exact g_vreturn rfl (by decide) (by decide) dX5_readMarket_15
def fX2_addPlot (a0 : Nat) (M : Mem) (x1 : Int32) (x2 : Int32) (x3 : Int32) : RS := if (gi M a0 10) < 9 then chk (inb (gi M a0 10) 9) (wr (si M (a0 + 4) (ix (gi M a0 10)) x1) (fun M2 => chk (inb (gi M2 a0 10) 9) (wr (si M2 (a0 + 5) (ix (gi M2 a0 10)) x2) (fun M4 => chk (inb (gi M4 a0 10) 9) (wr (si M4 (a0 + 6) (ix (gi M4 a0 10)) x3) (fun M6 => wr (si M6 a0 10 ((gi M6 a0 10) + 1)) (fun M7 => some (M7, .inr none)))))))) else some (M, .inr none)
theorem SX2_addPlot (a0 : Nat) (h0 : a0 ∈ [3, 24]) (M : Mem) (x1 : Int32) (x2 : Int32) (x3 : Int32) : CTO (0) miX2_addPlot 0 0 [.ref a0, .int x1, .int x2, .int x3] M (fX2_addPlot a0 M x1 x2 x3) := by
  refine CTO.of (by decide) (by simp [lg_sl, Value.category]) ?_
  show GO miX2_addPlot (0) 0 0 0 0 0 [(0, .ref a0), (1, .int x1), (2, .int x2), (3, .int x3)] [] M (if (gi M a0 10) < 9 then chk (inb (gi M a0 10) 9) (wr (si M (a0 + 4) (ix (gi M a0 10)) x1) (fun M2 => chk (inb (gi M2 a0 10) 9) (wr (si M2 (a0 + 5) (ix (gi M2 a0 10)) x2) (fun M4 => chk (inb (gi M4 a0 10) 9) (wr (si M4 (a0 + 6) (ix (gi M4 a0 10)) x3) (fun M6 => wr (si M6 a0 10 ((gi M6 a0 10) + 1)) (fun M7 => some (M7, .inr none)))))))) else some (M, .inr none))
  refine g_aload_n 0 rfl rfl dX2_addPlot_0 ?_
  refine g_getI (k := 10) clX2 (kv_d3_24_0 _ h0) (by decide) rfl flX2_47 dX2_addPlot_1 ?_
  refine g_bipush (v := 9) (by decide) dX2_addPlot_4 ?_
  refine g_icmp_ge (tgt := 49) rfl dX2_addPlot_6 (fun c => ?_) (fun c => ?_)
  · exact g_vreturn rfl (by decide) (by decide) dX2_addPlot_49
  · refine g_aload_n 0 rfl rfl dX2_addPlot_9 ?_
    refine g_getR (k := 3) (b := (a0 + 4)) clX2 (kv_d3_24_0 _ h0) (by decide) rfl rfl flX2_21 dX2_addPlot_10 ?_
    refine g_aload_n 0 rfl rfl dX2_addPlot_13 ?_
    refine g_getI (k := 10) clX2 (kv_d3_24_0 _ h0) (by decide) rfl flX2_47 dX2_addPlot_14 ?_
    refine g_iload_n 1 rfl rfl dX2_addPlot_17 ?_
    refine g_ast (kv_d3_24_4 _ h0) dX2_addPlot_18 (fun hi1 => ?_)
    refine GO.wr (fun M2 => ?_)
    refine g_aload_n 0 rfl rfl dX2_addPlot_19 ?_
    refine g_getR (k := 4) (b := (a0 + 5)) clX2 (kv_d3_24_0 _ h0) (by decide) rfl rfl flX2_24 dX2_addPlot_20 ?_
    refine g_aload_n 0 rfl rfl dX2_addPlot_23 ?_
    refine g_getI (k := 10) clX2 (kv_d3_24_0 _ h0) (by decide) rfl flX2_47 dX2_addPlot_24 ?_
    refine g_iload_n 2 rfl rfl dX2_addPlot_27 ?_
    refine g_ast (kv_d3_24_5 _ h0) dX2_addPlot_28 (fun hi3 => ?_)
    refine GO.wr (fun M4 => ?_)
    refine g_aload_n 0 rfl rfl dX2_addPlot_29 ?_
    refine g_getR (k := 5) (b := (a0 + 6)) clX2 (kv_d3_24_0 _ h0) (by decide) rfl rfl flX2_27 dX2_addPlot_30 ?_
    refine g_aload_n 0 rfl rfl dX2_addPlot_33 ?_
    refine g_getI (k := 10) clX2 (kv_d3_24_0 _ h0) (by decide) rfl flX2_47 dX2_addPlot_34 ?_
    refine g_iload_n 3 rfl rfl dX2_addPlot_37 ?_
    refine g_ast (kv_d3_24_6 _ h0) dX2_addPlot_38 (fun hi5 => ?_)
    refine GO.wr (fun M6 => ?_)
    refine g_aload_n 0 rfl rfl dX2_addPlot_39 ?_
    refine g_dup_ref dX2_addPlot_40 ?_
    refine g_getI (k := 10) clX2 (kv_d3_24_0 _ h0) (by decide) rfl flX2_47 dX2_addPlot_41 ?_
    refine g_iconst (v := 1) (by decide) dX2_addPlot_44 ?_
    refine g_iadd dX2_addPlot_45 ?_
    refine g_putI (k := 10) clX2 (kv_d3_24_0 _ h0) (by decide) rfl (by decide) rfl flX2_47 dX2_addPlot_46 ?_
    refine GO.wr (fun M7 => ?_)
    exact g_vreturn rfl (by decide) (by decide) dX2_addPlot_49
def fX2_hasPlotAt_b32 (a0 : Nat) (rec2 : Mem → Int32 → Int32 → Int32 → RS) (M : Mem) (x1 : Int32) (x2 : Int32) (x3 : Int32) : RS := rec2 M x1 x2 (x3 + 1)
theorem SX2_hasPlotAt_b32 (a0 : Nat) (h0 : a0 ∈ [3, 24]) (rec2 : Mem → Int32 → Int32 → Int32 → RS) (hrec2 : ∀ (M : Mem) (x1 : Int32) (x2 : Int32) (x3 : Int32), GO miX2_hasPlotAt (0) 0 0 0 0 2 [(0, .ref a0), (1, .int x1), (2, .int x2), (3, .int x3)] [] M (rec2 M x1 x2 x3)) (M : Mem) (x1 : Int32) (x2 : Int32) (x3 : Int32) : GO miX2_hasPlotAt (0) 0 0 0 0 32 [(0, .ref a0), (1, .int x1), (2, .int x2), (3, .int x3)] [] M (fX2_hasPlotAt_b32 a0 rec2 M x1 x2 x3) := by
  show GO miX2_hasPlotAt (0) 0 0 0 0 32 [(0, .ref a0), (1, .int x1), (2, .int x2), (3, .int x3)] [] M (rec2 M x1 x2 (x3 + 1))
  refine g_iinc (v := x3 + 1) (L' := [(3, .int (x3 + 1)), (0, .ref a0), (1, .int x1), (2, .int x2)]) 3 rfl rfl (by decide) rfl dX2_hasPlotAt_32 ?_
  refine g_goto (tgt := 2) rfl dX2_hasPlotAt_35 ?_
  exact GO.pick [1, 2, 3, 0] rfl <| hrec2 M x1 x2 (x3 + 1)
def fX2_hasPlotAt_b2 (a0 : Nat) : Nat → Mem → Int32 → Int32 → Int32 → RS
  | 0 => fun _ _ _ _ => none
  | n + 1 => fun M x1 x2 x3 => if x3 < (gi M a0 10) then chk (inb x3 9) (if (gi M (a0 + 4) (ix x3)) = x1 then chk (inb x3 9) (if (gi M (a0 + 5) (ix x3)) = x2 then some (M, .inr (some (.int 1))) else fX2_hasPlotAt_b32 a0 (fX2_hasPlotAt_b2 a0 n) M x1 x2 x3) else fX2_hasPlotAt_b32 a0 (fX2_hasPlotAt_b2 a0 n) M x1 x2 x3) else some (M, .inr (some (.int 0)))
theorem SX2_hasPlotAt_b2 (a0 : Nat) (h0 : a0 ∈ [3, 24]) (n : Nat) : ∀ (M : Mem) (x1 : Int32) (x2 : Int32) (x3 : Int32), GO miX2_hasPlotAt (0) 0 0 0 0 2 [(0, .ref a0), (1, .int x1), (2, .int x2), (3, .int x3)] [] M (fX2_hasPlotAt_b2 a0 n M x1 x2 x3) := by
  induction n with
  | zero => intro M x1 x2 x3 ; exact GO.none
  | succ n hrec2 =>
    intro M x1 x2 x3 
    show GO miX2_hasPlotAt (0) 0 0 0 0 2 [(0, .ref a0), (1, .int x1), (2, .int x2), (3, .int x3)] [] M (if x3 < (gi M a0 10) then chk (inb x3 9) (if (gi M (a0 + 4) (ix x3)) = x1 then chk (inb x3 9) (if (gi M (a0 + 5) (ix x3)) = x2 then some (M, .inr (some (.int 1))) else fX2_hasPlotAt_b32 a0 (fX2_hasPlotAt_b2 a0 n) M x1 x2 x3) else fX2_hasPlotAt_b32 a0 (fX2_hasPlotAt_b2 a0 n) M x1 x2 x3) else some (M, .inr (some (.int 0))))
    refine g_iload_n 3 rfl rfl dX2_hasPlotAt_2 ?_
    refine g_aload_n 0 rfl rfl dX2_hasPlotAt_3 ?_
    refine g_getI (k := 10) clX2 (kv_d3_24_0 _ h0) (by decide) rfl flX2_47 dX2_hasPlotAt_4 ?_
    refine g_icmp_ge (tgt := 38) rfl dX2_hasPlotAt_7 (fun c => ?_) (fun c => ?_)
    · refine g_iconst (v := 0) (by decide) dX2_hasPlotAt_38 ?_
      exact g_zreturn rfl (by decide) (by decide) dX2_hasPlotAt_39 (by decide)
    · refine g_aload_n 0 rfl rfl dX2_hasPlotAt_10 ?_
      refine g_getR (k := 3) (b := (a0 + 4)) clX2 (kv_d3_24_0 _ h0) (by decide) rfl rfl flX2_21 dX2_hasPlotAt_11 ?_
      refine g_iload_n 3 rfl rfl dX2_hasPlotAt_14 ?_
      refine g_ald (kv_d3_24_4 _ h0) dX2_hasPlotAt_15 (fun hi1 => ?_)
      refine g_iload_n 1 rfl rfl dX2_hasPlotAt_16 ?_
      refine g_icmp_ne (tgt := 32) rfl dX2_hasPlotAt_17 (fun c => ?_) (fun c => ?_)
      · exact GO.pick [0, 1, 2, 3] rfl <| SX2_hasPlotAt_b32 a0 h0 (fX2_hasPlotAt_b2 a0 n) hrec2 M x1 x2 x3
      · refine g_aload_n 0 rfl rfl dX2_hasPlotAt_20 ?_
        refine g_getR (k := 4) (b := (a0 + 5)) clX2 (kv_d3_24_0 _ h0) (by decide) rfl rfl flX2_24 dX2_hasPlotAt_21 ?_
        refine g_iload_n 3 rfl rfl dX2_hasPlotAt_24 ?_
        refine g_ald (kv_d3_24_5 _ h0) dX2_hasPlotAt_25 (fun hi2 => ?_)
        refine g_iload_n 2 rfl rfl dX2_hasPlotAt_26 ?_
        refine g_icmp_ne (tgt := 32) rfl dX2_hasPlotAt_27 (fun c => ?_) (fun c => ?_)
        · exact GO.pick [0, 1, 2, 3] rfl <| SX2_hasPlotAt_b32 a0 h0 (fX2_hasPlotAt_b2 a0 n) hrec2 M x1 x2 x3
        · refine g_iconst (v := 1) (by decide) dX2_hasPlotAt_30 ?_
          exact g_zreturn rfl (by decide) (by decide) dX2_hasPlotAt_31 (by decide)
def fX2_hasPlotAt (a0 : Nat) (M : Mem) (x1 : Int32) (x2 : Int32) : RS := fX2_hasPlotAt_b2 a0 FU M x1 x2 0
theorem SX2_hasPlotAt (a0 : Nat) (h0 : a0 ∈ [3, 24]) (M : Mem) (x1 : Int32) (x2 : Int32) : CTO (0) miX2_hasPlotAt 0 0 [.ref a0, .int x1, .int x2] M (fX2_hasPlotAt a0 M x1 x2) := by
  refine CTO.of (by decide) (by simp [lg_sl, Value.category]) ?_
  show GO miX2_hasPlotAt (0) 0 0 0 0 0 [(0, .ref a0), (1, .int x1), (2, .int x2)] [] M (fX2_hasPlotAt_b2 a0 FU M x1 x2 0)
  refine g_iconst (v := 0) (by decide) dX2_hasPlotAt_0 ?_
  refine g_istore_n (L' := [(3, .int 0), (0, .ref a0), (1, .int x1), (2, .int x2)]) (by decide) rfl rfl dX2_hasPlotAt_1 ?_
  exact GO.pick [1, 2, 3, 0] rfl <| SX2_hasPlotAt_b2 a0 h0 FU M x1 x2 0
def fX5_readPlot_b60 (M : Mem) (x1 : Int32) (x2 : Int32) : RS := bI (fX5_readNumber M 20) (fun M13 v14 => bI (fX5_readNumber M13 9) (fun M15 v16 => bV (fX2_addPlot (isA (gb M15 2)) M15 x1 x2 v16) (fun M17 => some (M17, .inr none))))
theorem SX5_readPlot_b60 (M : Mem) (x1 : Int32) (x2 : Int32) : GO miX5_readPlot (3) 0 0 0 0 60 [(0, .ref 17), (1, .int x1), (2, .int x2)] [] M (fX5_readPlot_b60 M x1 x2) := by
  show GO miX5_readPlot (3) 0 0 0 0 60 [(0, .ref 17), (1, .int x1), (2, .int x2)] [] M (bI (fX5_readNumber M 20) (fun M13 v14 => bI (fX5_readNumber M13 9) (fun M15 v16 => bV (fX2_addPlot (isA (gb M15 2)) M15 x1 x2 v16) (fun M17 => some (M17, .inr none)))))
  refine g_aload_n 0 rfl rfl dX5_readPlot_60 ?_
  refine g_bipush (v := 20) (by decide) dX5_readPlot_61 ?_
  refine g_callVI (y := miX5_readNumber) (As := [.int 20]) (rest := []) clX5 kd_17 rfl moX5_readNumber rfl mlX5_99 (by first | decide | omega) (by decide) (by simp [Value.category]) rfl dX5_readPlot_63 (SX5_readNumber  M 20) (fun M13 v14 => ?_)
  refine g_pop_int dX5_readPlot_66 ?_
  refine g_aload_n 0 rfl rfl dX5_readPlot_67 ?_
  refine g_bipush (v := 9) (by decide) dX5_readPlot_68 ?_
  refine g_callVI (y := miX5_readNumber) (As := [.int 9]) (rest := []) clX5 kd_17 rfl moX5_readNumber rfl mlX5_99 (by first | decide | omega) (by decide) (by simp [Value.category]) rfl dX5_readPlot_70 (SX5_readNumber  M13 9) (fun M15 v16 => ?_)
  refine g_istore_n (L' := [(3, .int v16), (0, .ref 17), (1, .int x1), (2, .int x2)]) (by decide) rfl rfl dX5_readPlot_73 ?_
  refine g_aload_n 1 rfl rfl dX5_readPlot_74 ?_
  refine g_getR (k := 1) (b := (isA (gb M15 2))) clX5 kd_17 (by decide) rfl rfl flX5_24 dX5_readPlot_75 ?_
  refine g_iload_n 2 rfl rfl dX5_readPlot_78 ?_
  refine g_iload_n 3 rfl rfl dX5_readPlot_79 ?_
  refine g_iload_n 0 rfl rfl dX5_readPlot_80 ?_
  refine g_callVV (y := miX2_addPlot) (As := [.int x1, .int x2, .int v16]) (rest := []) clX2 (kv_d3_24_0 _ (isA_dom _)) rfl moX2_addPlot rfl mlX5_116 (by first | decide | omega) (by decide) (by simp [Value.category]) rfl dX5_readPlot_81 (SX2_addPlot (isA (gb M15 2)) (isA_dom _) M15 x1 x2 v16) (fun M17 => ?_)
  exact g_vreturn rfl (by decide) (by decide) dX5_readPlot_84
def fX5_readPlot (M : Mem)  : RS := if (gi M (isA (gb M 2)) 10) < 9 then bV (fX5_advance M) (fun M1 => bI (fX5_readNumber M1 20) (fun M3 v4 => bI (fX5_peekNumber M3 20) (fun M5 v6 => if (gi M5 17 6) = 0 then bI (fX2_hasPlotAt (isA (gb M5 2)) M5 v4 v6) (fun M7 v8 => if v8 = 0 then fX5_readPlot_b60  M7 v4 v6 else bV (fX5_refuseAs M7 4) (fun M9 => fX5_readPlot_b60  M9 v4 v6)) else fX5_readPlot_b60  M5 v4 v6))) else bV (fX5_refuseAs M 2) (fun M11 => some (M11, .inr none))
theorem SX5_readPlot (M : Mem)  : CTO (3) miX5_readPlot 0 0 [.ref 17] M (fX5_readPlot  M ) := by
  refine CTO.of (by decide) (by simp [lg_sl, Value.category]) ?_
  show GO miX5_readPlot (3) 0 0 0 0 0 [(0, .ref 17)] [] M (if (gi M (isA (gb M 2)) 10) < 9 then bV (fX5_advance M) (fun M1 => bI (fX5_readNumber M1 20) (fun M3 v4 => bI (fX5_peekNumber M3 20) (fun M5 v6 => if (gi M5 17 6) = 0 then bI (fX2_hasPlotAt (isA (gb M5 2)) M5 v4 v6) (fun M7 v8 => if v8 = 0 then fX5_readPlot_b60  M7 v4 v6 else bV (fX5_refuseAs M7 4) (fun M9 => fX5_readPlot_b60  M9 v4 v6)) else fX5_readPlot_b60  M5 v4 v6))) else bV (fX5_refuseAs M 2) (fun M11 => some (M11, .inr none)))
  refine g_aload_n 0 rfl rfl dX5_readPlot_0 ?_
  refine g_getR (k := 1) (b := (isA (gb M 2))) clX5 kd_17 (by decide) rfl rfl flX5_24 dX5_readPlot_1 ?_
  refine g_getI (k := 10) clX2 (kv_d3_24_0 _ (isA_dom _)) (by decide) rfl flX5_106 dX5_readPlot_4 ?_
  refine g_bipush (v := 9) (by decide) dX5_readPlot_7 ?_
  refine g_icmp_lt (tgt := 18) rfl dX5_readPlot_9 (fun c => ?_) (fun c => ?_)
  · refine g_aload_n 0 rfl rfl dX5_readPlot_18 ?_
    refine g_callVV (y := miX5_advance) (As := []) (rest := []) clX5 kd_17 rfl moX5_advance rfl mlX5_96 (by first | decide | omega) (by decide) (by simp [Value.category]) rfl dX5_readPlot_19 (SX5_advance  M) (fun M1 => ?_)
    refine g_aload_n 0 rfl rfl dX5_readPlot_22 ?_
    refine g_bipush (v := 20) (by decide) dX5_readPlot_23 ?_
    refine g_callVI (y := miX5_readNumber) (As := [.int 20]) (rest := []) clX5 kd_17 rfl moX5_readNumber rfl mlX5_99 (by first | decide | omega) (by decide) (by simp [Value.category]) rfl dX5_readPlot_25 (SX5_readNumber  M1 20) (fun M3 v4 => ?_)
    refine g_istore_n (L' := [(1, .int v4), (0, .ref 17)]) (by decide) rfl rfl dX5_readPlot_28 ?_
    refine g_aload_n 1 rfl rfl dX5_readPlot_29 ?_
    refine g_bipush (v := 20) (by decide) dX5_readPlot_30 ?_
    refine g_callVI (y := miX5_peekNumber) (As := [.int 20]) (rest := []) clX5 kd_17 rfl moX5_peekNumber rfl mlX5_109 (by first | decide | omega) (by decide) (by simp [Value.category]) rfl dX5_readPlot_32 (SX5_peekNumber  M3 20) (fun M5 v6 => ?_)
    refine g_istore_n (L' := [(2, .int v6), (1, .int v4), (0, .ref 17)]) (by decide) rfl rfl dX5_readPlot_35 ?_
    refine g_aload_n 2 rfl rfl dX5_readPlot_36 ?_
    refine g_getI (k := 6) clX5 kd_17 (by decide) rfl flX5_40 dX5_readPlot_37 ?_
    refine g_if_ne (tgt := 60) rfl dX5_readPlot_40 (fun c => ?_) (fun c => ?_)
    · exact GO.pick [2, 1, 0] rfl <| SX5_readPlot_b60  M5 v4 v6
    · refine g_aload_n 2 rfl rfl dX5_readPlot_43 ?_
      refine g_getR (k := 1) (b := (isA (gb M5 2))) clX5 kd_17 (by decide) rfl rfl flX5_24 dX5_readPlot_44 ?_
      refine g_iload_n 1 rfl rfl dX5_readPlot_47 ?_
      refine g_iload_n 0 rfl rfl dX5_readPlot_48 ?_
      refine g_callVI (y := miX2_hasPlotAt) (As := [.int v4, .int v6]) (rest := []) clX2 (kv_d3_24_0 _ (isA_dom _)) rfl moX2_hasPlotAt rfl mlX5_112 (by first | decide | omega) (by decide) (by simp [Value.category]) rfl dX5_readPlot_49 (SX2_hasPlotAt (isA (gb M5 2)) (isA_dom _) M5 v4 v6) (fun M7 v8 => ?_)
      refine g_if_eq (tgt := 60) rfl dX5_readPlot_52 (fun c => ?_) (fun c => ?_)
      · exact GO.pick [2, 1, 0] rfl <| SX5_readPlot_b60  M7 v4 v6
      · refine g_aload_n 2 rfl rfl dX5_readPlot_55 ?_
        refine g_iconst (v := 4) (by decide) dX5_readPlot_56 ?_
        refine g_callVV (y := miX5_refuseAs) (As := [.int 4]) (rest := []) clX5 kd_17 rfl moX5_refuseAs rfl mlX5_87 (by first | decide | omega) (by decide) (by simp [Value.category]) rfl dX5_readPlot_57 (SX5_refuseAs  M7 4) (fun M9 => ?_)
        exact GO.pick [2, 1, 0] rfl <| SX5_readPlot_b60  M9 v4 v6
  · refine g_aload_n 0 rfl rfl dX5_readPlot_12 ?_
    refine g_iconst (v := 2) (by decide) dX5_readPlot_13 ?_
    refine g_callVV (y := miX5_refuseAs) (As := [.int 2]) (rest := []) clX5 kd_17 rfl moX5_refuseAs rfl mlX5_87 (by first | decide | omega) (by decide) (by simp [Value.category]) rfl dX5_readPlot_14 (SX5_refuseAs  M 2) (fun M11 => ?_)
    exact g_vreturn rfl (by decide) (by decide) dX5_readPlot_17
def fX2_addRain (a0 : Nat) (M : Mem) (x1 : Int32) : RS := if (gi M a0 11) < 10 then chk (inb (gi M a0 11) 10) (wr (si M (a0 + 7) (ix (gi M a0 11)) x1) (fun M2 => wr (si M2 a0 11 ((gi M2 a0 11) + 1)) (fun M3 => some (M3, .inr none)))) else some (M, .inr none)
theorem SX2_addRain (a0 : Nat) (h0 : a0 ∈ [3, 24]) (M : Mem) (x1 : Int32) : CTO (0) miX2_addRain 0 0 [.ref a0, .int x1] M (fX2_addRain a0 M x1) := by
  refine CTO.of (by decide) (by simp [lg_sl, Value.category]) ?_
  show GO miX2_addRain (0) 0 0 0 0 0 [(0, .ref a0), (1, .int x1)] [] M (if (gi M a0 11) < 10 then chk (inb (gi M a0 11) 10) (wr (si M (a0 + 7) (ix (gi M a0 11)) x1) (fun M2 => wr (si M2 a0 11 ((gi M2 a0 11) + 1)) (fun M3 => some (M3, .inr none)))) else some (M, .inr none))
  refine g_aload_n 0 rfl rfl dX2_addRain_0 ?_
  refine g_getI (k := 11) clX2 (kv_d3_24_0 _ h0) (by decide) rfl flX2_50 dX2_addRain_1 ?_
  refine g_bipush (v := 10) (by decide) dX2_addRain_4 ?_
  refine g_icmp_ge (tgt := 29) rfl dX2_addRain_6 (fun c => ?_) (fun c => ?_)
  · exact g_vreturn rfl (by decide) (by decide) dX2_addRain_29
  · refine g_aload_n 0 rfl rfl dX2_addRain_9 ?_
    refine g_getR (k := 6) (b := (a0 + 7)) clX2 (kv_d3_24_0 _ h0) (by decide) rfl rfl flX2_30 dX2_addRain_10 ?_
    refine g_aload_n 0 rfl rfl dX2_addRain_13 ?_
    refine g_getI (k := 11) clX2 (kv_d3_24_0 _ h0) (by decide) rfl flX2_50 dX2_addRain_14 ?_
    refine g_iload_n 1 rfl rfl dX2_addRain_17 ?_
    refine g_ast (kv_d3_24_7 _ h0) dX2_addRain_18 (fun hi1 => ?_)
    refine GO.wr (fun M2 => ?_)
    refine g_aload_n 0 rfl rfl dX2_addRain_19 ?_
    refine g_dup_ref dX2_addRain_20 ?_
    refine g_getI (k := 11) clX2 (kv_d3_24_0 _ h0) (by decide) rfl flX2_50 dX2_addRain_21 ?_
    refine g_iconst (v := 1) (by decide) dX2_addRain_24 ?_
    refine g_iadd dX2_addRain_25 ?_
    refine g_putI (k := 11) clX2 (kv_d3_24_0 _ h0) (by decide) rfl (by decide) rfl flX2_50 dX2_addRain_26 ?_
    refine GO.wr (fun M3 => ?_)
    exact g_vreturn rfl (by decide) (by decide) dX2_addRain_29
def fX5_readRain_b74 (M : Mem)  : RS := bI (fX5_isNumber M) (fun M15 v16 => if v16 = 0 then some (M15, .inr none) else bV (fX5_refuseAs M15 2) (fun M17 => some (M17, .inr none)))
theorem SX5_readRain_b74 (M : Mem)  : GO miX5_readRain (3) 0 0 0 0 74 [(0, .ref 17)] [] M (fX5_readRain_b74 M ) := by
  show GO miX5_readRain (3) 0 0 0 0 74 [(0, .ref 17)] [] M (bI (fX5_isNumber M) (fun M15 v16 => if v16 = 0 then some (M15, .inr none) else bV (fX5_refuseAs M15 2) (fun M17 => some (M17, .inr none))))
  refine g_aload_n 0 rfl rfl dX5_readRain_74 ?_
  refine g_callVI (y := miX5_isNumber) (As := []) (rest := []) clX5 kd_17 rfl moX5_isNumber rfl mlX5_135 (by first | decide | omega) (by decide) (by simp [Value.category]) rfl dX5_readRain_75 (SX5_isNumber  M) (fun M15 v16 => ?_)
  refine g_if_eq (tgt := 86) rfl dX5_readRain_78 (fun c => ?_) (fun c => ?_)
  · exact g_vreturn rfl (by decide) (by decide) dX5_readRain_86
  · refine g_aload_n 0 rfl rfl dX5_readRain_81 ?_
    refine g_iconst (v := 2) (by decide) dX5_readRain_82 ?_
    refine g_callVV (y := miX5_refuseAs) (As := [.int 2]) (rest := []) clX5 kd_17 rfl moX5_refuseAs rfl mlX5_87 (by first | decide | omega) (by decide) (by simp [Value.category]) rfl dX5_readRain_83 (SX5_refuseAs  M15 2) (fun M17 => ?_)
    exact g_vreturn rfl (by decide) (by decide) dX5_readRain_86
def fX5_readRain_b35 : Nat → Mem → Int32 → RS
  | 0 => fun _ _ => none
  | n + 1 => fun M x1 => if x1 < 10 then if (gi M 17 6) = 0 then bI (fX5_isNumber M) (fun M9 v10 => if v10 = 0 then fX5_readRain_b74  M9 else bI (fX5_readNumber M9 9) (fun M11 v12 => bV (fX2_addRain (isA (gb M9 2)) M11 v12) (fun M13 => (fX5_readRain_b35 n) M13 (x1 + 1)))) else fX5_readRain_b74  M else fX5_readRain_b74  M
theorem SX5_readRain_b35 (n : Nat) : ∀ (M : Mem) (x1 : Int32), GO miX5_readRain (3) 0 0 0 0 35 [(0, .ref 17), (1, .int x1)] [] M (fX5_readRain_b35 n M x1) := by
  induction n with
  | zero => intro M x1 ; exact GO.none
  | succ n hrec35 =>
    intro M x1 
    show GO miX5_readRain (3) 0 0 0 0 35 [(0, .ref 17), (1, .int x1)] [] M (if x1 < 10 then if (gi M 17 6) = 0 then bI (fX5_isNumber M) (fun M9 v10 => if v10 = 0 then fX5_readRain_b74  M9 else bI (fX5_readNumber M9 9) (fun M11 v12 => bV (fX2_addRain (isA (gb M9 2)) M11 v12) (fun M13 => (fX5_readRain_b35 n) M13 (x1 + 1)))) else fX5_readRain_b74  M else fX5_readRain_b74  M)
    refine g_iload_n 1 rfl rfl dX5_readRain_35 ?_
    refine g_bipush (v := 10) (by decide) dX5_readRain_36 ?_
    refine g_icmp_ge (tgt := 74) rfl dX5_readRain_38 (fun c => ?_) (fun c => ?_)
    · exact GO.pick [0] rfl <| SX5_readRain_b74  M
    · refine g_aload_n 0 rfl rfl dX5_readRain_41 ?_
      refine g_getI (k := 6) clX5 kd_17 (by decide) rfl flX5_40 dX5_readRain_42 ?_
      refine g_if_ne (tgt := 74) rfl dX5_readRain_45 (fun c => ?_) (fun c => ?_)
      · exact GO.pick [0] rfl <| SX5_readRain_b74  M
      · refine g_aload_n 0 rfl rfl dX5_readRain_48 ?_
        refine g_callVI (y := miX5_isNumber) (As := []) (rest := []) clX5 kd_17 rfl moX5_isNumber rfl mlX5_135 (by first | decide | omega) (by decide) (by simp [Value.category]) rfl dX5_readRain_49 (SX5_isNumber  M) (fun M9 v10 => ?_)
        refine g_if_eq (tgt := 74) rfl dX5_readRain_52 (fun c => ?_) (fun c => ?_)
        · exact GO.pick [0] rfl <| SX5_readRain_b74  M9
        · refine g_aload_n 0 rfl rfl dX5_readRain_55 ?_
          refine g_getR (k := 1) (b := (isA (gb M9 2))) clX5 kd_17 (by decide) rfl rfl flX5_24 dX5_readRain_56 ?_
          refine g_aload_n 0 rfl rfl dX5_readRain_59 ?_
          refine g_bipush (v := 9) (by decide) dX5_readRain_60 ?_
          refine g_callVI (y := miX5_readNumber) (As := [.int 9]) (rest := [.ref (isA (gb M9 2))]) clX5 kd_17 rfl moX5_readNumber rfl mlX5_99 (by first | decide | omega) (by decide) (by simp [Value.category]) rfl dX5_readRain_62 (SX5_readNumber  M9 9) (fun M11 v12 => ?_)
          refine g_callVV (y := miX2_addRain) (As := [.int v12]) (rest := []) clX2 (kv_d3_24_0 _ (isA_dom _)) rfl moX2_addRain rfl mlX5_132 (by first | decide | omega) (by decide) (by simp [Value.category]) rfl dX5_readRain_65 (SX2_addRain (isA (gb M9 2)) (isA_dom _) M11 v12) (fun M13 => ?_)
          refine g_iinc (v := x1 + 1) (L' := [(1, .int (x1 + 1)), (0, .ref 17)]) 1 rfl rfl (by decide) rfl dX5_readRain_68 ?_
          refine g_goto (tgt := 35) rfl dX5_readRain_71 ?_
          exact GO.pick [1, 0] rfl <| hrec35 M13 (x1 + 1)
def fX5_readRain (M : Mem)  : RS := if 0 < (gi M (isA (gb M 2)) 11) then bV (fX5_refuseAs M 5) (fun M7 => some (M7, .inr none)) else bV (fX5_advance M) (fun M1 => bI (fX5_readNumber M1 9) (fun M3 v4 => bV (fX2_addRain (isA (gb M1 2)) M3 v4) (fun M5 => fX5_readRain_b35  FU M5 1)))
theorem SX5_readRain (M : Mem)  : CTO (3) miX5_readRain 0 0 [.ref 17] M (fX5_readRain  M ) := by
  refine CTO.of (by decide) (by simp [lg_sl, Value.category]) ?_
  show GO miX5_readRain (3) 0 0 0 0 0 [(0, .ref 17)] [] M (if 0 < (gi M (isA (gb M 2)) 11) then bV (fX5_refuseAs M 5) (fun M7 => some (M7, .inr none)) else bV (fX5_advance M) (fun M1 => bI (fX5_readNumber M1 9) (fun M3 v4 => bV (fX2_addRain (isA (gb M1 2)) M3 v4) (fun M5 => fX5_readRain_b35  FU M5 1))))
  refine g_aload_n 0 rfl rfl dX5_readRain_0 ?_
  refine g_getR (k := 1) (b := (isA (gb M 2))) clX5 kd_17 (by decide) rfl rfl flX5_24 dX5_readRain_1 ?_
  refine g_getI (k := 11) clX2 (kv_d3_24_0 _ (isA_dom _)) (by decide) rfl flX5_129 dX5_readRain_4 ?_
  refine g_if_le (tgt := 16) rfl dX5_readRain_7 (fun c => ?_) (fun c => ?_)
  · refine g_aload_n 0 rfl rfl dX5_readRain_16 ?_
    refine g_callVV (y := miX5_advance) (As := []) (rest := []) clX5 kd_17 rfl moX5_advance rfl mlX5_96 (by first | decide | omega) (by decide) (by simp [Value.category]) rfl dX5_readRain_17 (SX5_advance  M) (fun M1 => ?_)
    refine g_aload_n 0 rfl rfl dX5_readRain_20 ?_
    refine g_getR (k := 1) (b := (isA (gb M1 2))) clX5 kd_17 (by decide) rfl rfl flX5_24 dX5_readRain_21 ?_
    refine g_aload_n 0 rfl rfl dX5_readRain_24 ?_
    refine g_bipush (v := 9) (by decide) dX5_readRain_25 ?_
    refine g_callVI (y := miX5_readNumber) (As := [.int 9]) (rest := [.ref (isA (gb M1 2))]) clX5 kd_17 rfl moX5_readNumber rfl mlX5_99 (by first | decide | omega) (by decide) (by simp [Value.category]) rfl dX5_readRain_27 (SX5_readNumber  M1 9) (fun M3 v4 => ?_)
    refine g_callVV (y := miX2_addRain) (As := [.int v4]) (rest := []) clX2 (kv_d3_24_0 _ (isA_dom _)) rfl moX2_addRain rfl mlX5_132 (by first | decide | omega) (by decide) (by simp [Value.category]) rfl dX5_readRain_30 (SX2_addRain (isA (gb M1 2)) (isA_dom _) M3 v4) (fun M5 => ?_)
    refine g_iconst (v := 1) (by decide) dX5_readRain_33 ?_
    refine g_istore_n (L' := [(1, .int 1), (0, .ref 17)]) (by decide) rfl rfl dX5_readRain_34 ?_
    exact GO.pick [1, 0] rfl <| SX5_readRain_b35  FU M5 1
  · refine g_aload_n 0 rfl rfl dX5_readRain_10 ?_
    refine g_iconst (v := 5) (by decide) dX5_readRain_11 ?_
    refine g_callVV (y := miX5_refuseAs) (As := [.int 5]) (rest := []) clX5 kd_17 rfl moX5_refuseAs rfl mlX5_87 (by first | decide | omega) (by decide) (by simp [Value.category]) rfl dX5_readRain_12 (SX5_refuseAs  M 5) (fun M7 => ?_)
    exact g_vreturn rfl (by decide) (by decide) dX5_readRain_15
def fX5_mayBeginExpr_b26 (M : Mem)  : RS := some (M, .inr (some (.int 1)))
theorem SX5_mayBeginExpr_b26 (M : Mem)  : GO miX5_mayBeginExpr (1) 0 0 0 0 26 [] [] M (fX5_mayBeginExpr_b26 M ) := by
  show GO miX5_mayBeginExpr (1) 0 0 0 0 26 [] [] M (some (M, .inr (some (.int 1))))
  refine g_iconst (v := 1) (by decide) dX5_mayBeginExpr_26 ?_
  refine g_goto (tgt := 31) rfl dX5_mayBeginExpr_27 ?_
  exact g_zreturn rfl (by decide) (by decide) dX5_mayBeginExpr_31 (by decide)
def fX5_mayBeginExpr (M : Mem)  : RS := bI (fX5_isNumber M) (fun M1 v2 => if v2 = 0 then if (gi M1 17 5) < 128 then if (gi M1 17 5) = 40 then fX5_mayBeginExpr_b26  M1 else some (M1, .inr (some (.int 0))) else fX5_mayBeginExpr_b26  M1 else fX5_mayBeginExpr_b26  M1)
theorem SX5_mayBeginExpr (M : Mem)  : CTO (1) miX5_mayBeginExpr 0 0 [.ref 17] M (fX5_mayBeginExpr  M ) := by
  refine CTO.of (by decide) (by simp [lg_sl, Value.category]) ?_
  show GO miX5_mayBeginExpr (1) 0 0 0 0 0 [(0, .ref 17)] [] M (bI (fX5_isNumber M) (fun M1 v2 => if v2 = 0 then if (gi M1 17 5) < 128 then if (gi M1 17 5) = 40 then fX5_mayBeginExpr_b26  M1 else some (M1, .inr (some (.int 0))) else fX5_mayBeginExpr_b26  M1 else fX5_mayBeginExpr_b26  M1))
  refine g_aload_n 0 rfl rfl dX5_mayBeginExpr_0 ?_
  refine g_callVI (y := miX5_isNumber) (As := []) (rest := []) clX5 kd_17 rfl moX5_isNumber rfl mlX5_135 (by first | decide | omega) (by decide) (by simp [Value.category]) rfl dX5_mayBeginExpr_1 (SX5_isNumber  M) (fun M1 v2 => ?_)
  refine g_if_ne (tgt := 26) rfl dX5_mayBeginExpr_4 (fun c => ?_) (fun c => ?_)
  · exact GO.pick [] rfl <| SX5_mayBeginExpr_b26  M1
  · refine g_aload_n 0 rfl rfl dX5_mayBeginExpr_7 ?_
    refine g_getI (k := 5) clX5 kd_17 (by decide) rfl flX5_54 dX5_mayBeginExpr_8 ?_
    refine g_sipush (v := 128) (by decide) dX5_mayBeginExpr_11 ?_
    refine g_icmp_ge (tgt := 26) rfl dX5_mayBeginExpr_14 (fun c => ?_) (fun c => ?_)
    · exact GO.pick [] rfl <| SX5_mayBeginExpr_b26  M1
    · refine g_aload_n 0 rfl rfl dX5_mayBeginExpr_17 ?_
      refine g_getI (k := 5) clX5 kd_17 (by decide) rfl flX5_54 dX5_mayBeginExpr_18 ?_
      refine g_bipush (v := 40) (by decide) dX5_mayBeginExpr_21 ?_
      refine g_icmp_ne (tgt := 30) rfl dX5_mayBeginExpr_23 (fun c => ?_) (fun c => ?_)
      · refine g_iconst (v := 0) (by decide) dX5_mayBeginExpr_30 ?_
        exact g_zreturn rfl (by decide) (by decide) dX5_mayBeginExpr_31 (by decide)
      · exact GO.pick [] rfl <| SX5_mayBeginExpr_b26  M1
def fX5_readSign_b13 (M : Mem)  : RS := if (gi M 17 6) = 0 then bV (fX5_advance M) (fun M3 => some (M3, .inr none)) else some (M, .inr none)
theorem SX5_readSign_b13 (M : Mem)  : GO miX5_readSign (2) 0 0 0 0 13 [(0, .ref 17)] [] M (fX5_readSign_b13 M ) := by
  show GO miX5_readSign (2) 0 0 0 0 13 [(0, .ref 17)] [] M (if (gi M 17 6) = 0 then bV (fX5_advance M) (fun M3 => some (M3, .inr none)) else some (M, .inr none))
  refine g_aload_n 0 rfl rfl dX5_readSign_13 ?_
  refine g_getI (k := 6) clX5 kd_17 (by decide) rfl flX5_40 dX5_readSign_14 ?_
  refine g_if_ne (tgt := 24) rfl dX5_readSign_17 (fun c => ?_) (fun c => ?_)
  · exact g_vreturn rfl (by decide) (by decide) dX5_readSign_24
  · refine g_aload_n 0 rfl rfl dX5_readSign_20 ?_
    refine g_callVV (y := miX5_advance) (As := []) (rest := []) clX5 kd_17 rfl moX5_advance rfl mlX5_96 (by first | decide | omega) (by decide) (by simp [Value.category]) rfl dX5_readSign_21 (SX5_advance  M) (fun M3 => ?_)
    exact g_vreturn rfl (by decide) (by decide) dX5_readSign_24
def fX5_readSign (M : Mem) (x1 : Int32) : RS := if (gi M 17 5) = x1 then fX5_readSign_b13  M else bV (fX5_refuseAs M 1) (fun M1 => fX5_readSign_b13  M1)
theorem SX5_readSign (M : Mem) (x1 : Int32) : CTO (2) miX5_readSign 0 0 [.ref 17, .int x1] M (fX5_readSign  M x1) := by
  refine CTO.of (by decide) (by simp [lg_sl, Value.category]) ?_
  show GO miX5_readSign (2) 0 0 0 0 0 [(0, .ref 17), (1, .int x1)] [] M (if (gi M 17 5) = x1 then fX5_readSign_b13  M else bV (fX5_refuseAs M 1) (fun M1 => fX5_readSign_b13  M1))
  refine g_aload_n 0 rfl rfl dX5_readSign_0 ?_
  refine g_getI (k := 5) clX5 kd_17 (by decide) rfl flX5_54 dX5_readSign_1 ?_
  refine g_iload_n 1 rfl rfl dX5_readSign_4 ?_
  refine g_icmp_eq (tgt := 13) rfl dX5_readSign_5 (fun c => ?_) (fun c => ?_)
  · exact GO.pick [0] rfl <| SX5_readSign_b13  M
  · refine g_aload_n 0 rfl rfl dX5_readSign_8 ?_
    refine g_iconst (v := 1) (by decide) dX5_readSign_9 ?_
    refine g_callVV (y := miX5_refuseAs) (As := [.int 1]) (rest := []) clX5 kd_17 rfl moX5_refuseAs rfl mlX5_87 (by first | decide | omega) (by decide) (by simp [Value.category]) rfl dX5_readSign_10 (SX5_refuseAs  M 1) (fun M1 => ?_)
    exact GO.pick [0] rfl <| SX5_readSign_b13  M1
def fX6_add (a0 : Nat) (M : Mem) (x1 : Int32) : RS := if (gi M a0 2) < 700 then chk (inb (gi M a0 2) 700) (wr (si M (a0 + 1) (ix (gi M a0 2)) x1) (fun M2 => wr (si M2 a0 2 ((gi M2 a0 2) + 1)) (fun M3 => some (M3, .inr none)))) else some (M, .inr none)
theorem SX6_add (a0 : Nat) (h0 : a0 ∈ [11, 14, 32, 35]) (M : Mem) (x1 : Int32) : CTO (0) miX6_add 0 0 [.ref a0, .int x1] M (fX6_add a0 M x1) := by
  refine CTO.of (by decide) (by simp [lg_sl, Value.category]) ?_
  show GO miX6_add (0) 0 0 0 0 0 [(0, .ref a0), (1, .int x1)] [] M (if (gi M a0 2) < 700 then chk (inb (gi M a0 2) 700) (wr (si M (a0 + 1) (ix (gi M a0 2)) x1) (fun M2 => wr (si M2 a0 2 ((gi M2 a0 2) + 1)) (fun M3 => some (M3, .inr none)))) else some (M, .inr none))
  refine g_aload_n 0 rfl rfl dX6_add_0 ?_
  refine g_getI (k := 2) clX6 (kv_d11_14_32_35_0 _ h0) (by decide) rfl flX6_18 dX6_add_1 ?_
  refine g_aload_n 0 rfl rfl dX6_add_4 ?_
  refine g_getR (k := 0) (b := (a0 + 1)) clX6 (kv_d11_14_32_35_0 _ h0) (by decide) rfl rfl flX6_9 dX6_add_5 ?_
  refine g_alen (v := 700) (kv_d11_14_32_35_1 _ h0) (by decide) (by decide) dX6_add_8 ?_
  refine g_icmp_ge (tgt := 32) rfl dX6_add_9 (fun c => ?_) (fun c => ?_)
  · exact g_vreturn rfl (by decide) (by decide) dX6_add_32
  · refine g_aload_n 0 rfl rfl dX6_add_12 ?_
    refine g_getR (k := 0) (b := (a0 + 1)) clX6 (kv_d11_14_32_35_0 _ h0) (by decide) rfl rfl flX6_9 dX6_add_13 ?_
    refine g_aload_n 0 rfl rfl dX6_add_16 ?_
    refine g_getI (k := 2) clX6 (kv_d11_14_32_35_0 _ h0) (by decide) rfl flX6_18 dX6_add_17 ?_
    refine g_iload_n 1 rfl rfl dX6_add_20 ?_
    refine g_ast (kv_d11_14_32_35_1 _ h0) dX6_add_21 (fun hi1 => ?_)
    refine GO.wr (fun M2 => ?_)
    refine g_aload_n 0 rfl rfl dX6_add_22 ?_
    refine g_dup_ref dX6_add_23 ?_
    refine g_getI (k := 2) clX6 (kv_d11_14_32_35_0 _ h0) (by decide) rfl flX6_18 dX6_add_24 ?_
    refine g_iconst (v := 1) (by decide) dX6_add_27 ?_
    refine g_iadd dX6_add_28 ?_
    refine g_putI (k := 2) clX6 (kv_d11_14_32_35_0 _ h0) (by decide) rfl (by decide) rfl flX6_18 dX6_add_29 ?_
    refine GO.wr (fun M3 => ?_)
    exact g_vreturn rfl (by decide) (by decide) dX6_add_32
def fX5_readValue_b12 (M : Mem)  : RS := bV (fX5_refuseAs M 3) (fun M5 => some (M5, .inr none))
theorem SX5_readValue_b12 (M : Mem)  : GO miX5_readValue (2) 0 0 0 0 12 [(0, .ref 17)] [] M (fX5_readValue_b12 M ) := by
  show GO miX5_readValue (2) 0 0 0 0 12 [(0, .ref 17)] [] M (bV (fX5_refuseAs M 3) (fun M5 => some (M5, .inr none)))
  refine g_aload_n 0 rfl rfl dX5_readValue_12 ?_
  refine g_iconst (v := 3) (by decide) dX5_readValue_13 ?_
  refine g_callVV (y := miX5_refuseAs) (As := [.int 3]) (rest := []) clX5 kd_17 rfl moX5_refuseAs rfl mlX5_87 (by first | decide | omega) (by decide) (by simp [Value.category]) rfl dX5_readValue_14 (SX5_refuseAs  M 3) (fun M5 => ?_)
  exact g_vreturn rfl (by decide) (by decide) dX5_readValue_17
def fX5_readValue (M : Mem) (x1 : Int32) : RS := if x1 < 0 then fX5_readValue_b12  M else if x1 < (gi M 17 3) then bV (fX6_add (ruA (gb M 3) (gb M 4)) M ((-10) - x1)) (fun M1 => bV (fX5_advance M1) (fun M3 => some (M3, .inr none))) else fX5_readValue_b12  M
theorem SX5_readValue (M : Mem) (x1 : Int32) : CTO (2) miX5_readValue 0 0 [.ref 17, .int x1] M (fX5_readValue  M x1) := by
  refine CTO.of (by decide) (by simp [lg_sl, Value.category]) ?_
  show GO miX5_readValue (2) 0 0 0 0 0 [(0, .ref 17), (1, .int x1)] [] M (if x1 < 0 then fX5_readValue_b12  M else if x1 < (gi M 17 3) then bV (fX6_add (ruA (gb M 3) (gb M 4)) M ((-10) - x1)) (fun M1 => bV (fX5_advance M1) (fun M3 => some (M3, .inr none))) else fX5_readValue_b12  M)
  refine g_iload_n 1 rfl rfl dX5_readValue_0 ?_
  refine g_if_lt (tgt := 12) rfl dX5_readValue_1 (fun c => ?_) (fun c => ?_)
  · exact GO.pick [0] rfl <| SX5_readValue_b12  M
  · refine g_iload_n 1 rfl rfl dX5_readValue_4 ?_
    refine g_aload_n 0 rfl rfl dX5_readValue_5 ?_
    refine g_getI (k := 3) clX5 kd_17 (by decide) rfl flX5_150 dX5_readValue_6 ?_
    refine g_icmp_lt (tgt := 18) rfl dX5_readValue_9 (fun c => ?_) (fun c => ?_)
    · refine g_aload_n 0 rfl rfl dX5_readValue_18 ?_
      refine g_getR (k := 2) (b := (ruA (gb M 3) (gb M 4))) clX5 kd_17 (by decide) rfl rfl flX5_34 dX5_readValue_19 ?_
      refine g_bipush (v := (-10)) (by decide) dX5_readValue_22 ?_
      refine g_iload_n 1 rfl rfl dX5_readValue_24 ?_
      refine g_isub dX5_readValue_25 ?_
      refine g_callVV (y := miX6_add) (As := [.int ((-10) - x1)]) (rest := []) clX6 (kv_d11_14_32_35_0 _ (ruA_dom _ _)) rfl moX6_add rfl mlX5_165 (by first | decide | omega) (by decide) (by simp [Value.category]) rfl dX5_readValue_26 (SX6_add (ruA (gb M 3) (gb M 4)) (ruA_dom _ _) M ((-10) - x1)) (fun M1 => ?_)
      refine g_aload_n 0 rfl rfl dX5_readValue_29 ?_
      refine g_callVV (y := miX5_advance) (As := []) (rest := []) clX5 kd_17 rfl moX5_advance rfl mlX5_96 (by first | decide | omega) (by decide) (by simp [Value.category]) rfl dX5_readValue_30 (SX5_advance  M1) (fun M3 => ?_)
      exact g_vreturn rfl (by decide) (by decide) dX5_readValue_33
    · exact GO.pick [0] rfl <| SX5_readValue_b12  M
def fX5_readPart (rE : Mem → Int32 → RS) (M : Mem) (x1 : Int32) : RS := if (gi M 17 6) = 0 then if (gi M 17 5) = 1 then bI (fX10_numberAt M (gi M 17 4)) (fun M13 v14 => bV (fX6_add (ruA (gb M 3) (gb M 4)) M13 v14) (fun M15 => bV (fX5_advance M15) (fun M17 => some (M17, .inr none)))) else if (gi M 17 5) = 2 then bV (fX5_refuseAs M 2) (fun M11 => some (M11, .inr none)) else if (gi M 17 5) < 128 then if (gi M 17 5) = 40 then bV (fX5_advance M) (fun M3 => bV (rE M3 (x1 + 1)) (fun M5 => bV (fX5_readSign M5 41) (fun M7 => some (M7, .inr none)))) else bV (fX5_refuseAs M 1) (fun M1 => some (M1, .inr none)) else bV (fX5_readValue M ((gi M 17 5) - 140)) (fun M9 => some (M9, .inr none)) else some (M, .inr none)
theorem SX5_readPart (dE : Nat) (hD : 3 ≤ dE) (rE : Mem → Int32 → RS) (hE : ∀ (M : Mem) (x1 : Int32), CTO dE miX5_readExpr 0 0 [.ref 17, .int x1] M (rE M x1)) (M : Mem) (x1 : Int32) : CTO (dE + 1) miX5_readPart 0 0 [.ref 17, .int x1] M (fX5_readPart rE  M x1) := by
  refine CTO.of (by decide) (by simp [lg_sl, Value.category]) ?_
  show GO miX5_readPart (dE + 1) 0 0 0 0 0 [(0, .ref 17), (1, .int x1)] [] M (if (gi M 17 6) = 0 then if (gi M 17 5) = 1 then bI (fX10_numberAt M (gi M 17 4)) (fun M13 v14 => bV (fX6_add (ruA (gb M 3) (gb M 4)) M13 v14) (fun M15 => bV (fX5_advance M15) (fun M17 => some (M17, .inr none)))) else if (gi M 17 5) = 2 then bV (fX5_refuseAs M 2) (fun M11 => some (M11, .inr none)) else if (gi M 17 5) < 128 then if (gi M 17 5) = 40 then bV (fX5_advance M) (fun M3 => bV (rE M3 (x1 + 1)) (fun M5 => bV (fX5_readSign M5 41) (fun M7 => some (M7, .inr none)))) else bV (fX5_refuseAs M 1) (fun M1 => some (M1, .inr none)) else bV (fX5_readValue M ((gi M 17 5) - 140)) (fun M9 => some (M9, .inr none)) else some (M, .inr none))
  refine g_aload_n 0 rfl rfl dX5_readPart_0 ?_
  refine g_getI (k := 6) clX5 kd_17 (by decide) rfl flX5_40 dX5_readPart_1 ?_
  refine g_if_eq (tgt := 8) rfl dX5_readPart_4 (fun c => ?_) (fun c => ?_)
  · refine g_aload_n 0 rfl rfl dX5_readPart_8 ?_
    refine g_getI (k := 5) clX5 kd_17 (by decide) rfl flX5_54 dX5_readPart_9 ?_
    refine g_iconst (v := 1) (by decide) dX5_readPart_12 ?_
    refine g_icmp_ne (tgt := 41) rfl dX5_readPart_13 (fun c => ?_) (fun c => ?_)
    · refine g_aload_n 0 rfl rfl dX5_readPart_41 ?_
      refine g_getI (k := 5) clX5 kd_17 (by decide) rfl flX5_54 dX5_readPart_42 ?_
      refine g_iconst (v := 2) (by decide) dX5_readPart_45 ?_
      refine g_icmp_ne (tgt := 57) rfl dX5_readPart_46 (fun c => ?_) (fun c => ?_)
      · refine g_aload_n 0 rfl rfl dX5_readPart_57 ?_
        refine g_getI (k := 5) clX5 kd_17 (by decide) rfl flX5_54 dX5_readPart_58 ?_
        refine g_sipush (v := 128) (by decide) dX5_readPart_61 ?_
        refine g_icmp_lt (tgt := 82) rfl dX5_readPart_64 (fun c => ?_) (fun c => ?_)
        · refine g_aload_n 0 rfl rfl dX5_readPart_82 ?_
          refine g_getI (k := 5) clX5 kd_17 (by decide) rfl flX5_54 dX5_readPart_83 ?_
          refine g_bipush (v := 40) (by decide) dX5_readPart_86 ?_
          refine g_icmp_ne (tgt := 111) rfl dX5_readPart_88 (fun c => ?_) (fun c => ?_)
          · refine g_aload_n 0 rfl rfl dX5_readPart_111 ?_
            refine g_iconst (v := 1) (by decide) dX5_readPart_112 ?_
            refine g_callVV (y := miX5_refuseAs) (As := [.int 1]) (rest := []) clX5 kd_17 rfl moX5_refuseAs rfl mlX5_87 (by first | decide | omega) (by decide) (by simp [Value.category]) rfl dX5_readPart_113 (SX5_refuseAs  M 1) (fun M1 => ?_)
            exact g_vreturn rfl (by decide) (by decide) dX5_readPart_116
          · refine g_aload_n 0 rfl rfl dX5_readPart_91 ?_
            refine g_callVV (y := miX5_advance) (As := []) (rest := []) clX5 kd_17 rfl moX5_advance rfl mlX5_96 (by first | decide | omega) (by decide) (by simp [Value.category]) rfl dX5_readPart_92 (SX5_advance  M) (fun M3 => ?_)
            refine g_aload_n 0 rfl rfl dX5_readPart_95 ?_
            refine g_iload_n 1 rfl rfl dX5_readPart_96 ?_
            refine g_iconst (v := 1) (by decide) dX5_readPart_97 ?_
            refine g_iadd dX5_readPart_98 ?_
            refine g_callVV (y := miX5_readExpr) (As := [.int (x1 + 1)]) (rest := []) clX5 kd_17 rfl moX5_readExpr rfl mlX5_153 (by first | decide | omega) (by decide) (by simp [Value.category]) rfl dX5_readPart_99 (hE  M3 (x1 + 1)) (fun M5 => ?_)
            refine g_aload_n 0 rfl rfl dX5_readPart_102 ?_
            refine g_bipush (v := 41) (by decide) dX5_readPart_103 ?_
            refine g_callVV (y := miX5_readSign) (As := [.int 41]) (rest := []) clX5 kd_17 rfl moX5_readSign rfl mlX5_90 (by first | decide | omega) (by decide) (by simp [Value.category]) rfl dX5_readPart_105 (SX5_readSign  M5 41) (fun M7 => ?_)
            refine g_goto (tgt := 116) rfl dX5_readPart_108 ?_
            exact g_vreturn rfl (by decide) (by decide) dX5_readPart_116
        · refine g_aload_n 0 rfl rfl dX5_readPart_67 ?_
          refine g_aload_n 0 rfl rfl dX5_readPart_68 ?_
          refine g_getI (k := 5) clX5 kd_17 (by decide) rfl flX5_54 dX5_readPart_69 ?_
          refine g_sipush (v := 140) (by decide) dX5_readPart_72 ?_
          refine g_isub dX5_readPart_75 ?_
          refine g_callVV (y := miX5_readValue) (As := [.int ((gi M 17 5) - 140)]) (rest := []) clX5 kd_17 rfl moX5_readValue rfl mlX5_183 (by first | decide | omega) (by decide) (by simp [Value.category]) rfl dX5_readPart_76 (SX5_readValue  M ((gi M 17 5) - 140)) (fun M9 => ?_)
          refine g_goto (tgt := 116) rfl dX5_readPart_79 ?_
          exact g_vreturn rfl (by decide) (by decide) dX5_readPart_116
      · refine g_aload_n 0 rfl rfl dX5_readPart_49 ?_
        refine g_iconst (v := 2) (by decide) dX5_readPart_50 ?_
        refine g_callVV (y := miX5_refuseAs) (As := [.int 2]) (rest := []) clX5 kd_17 rfl moX5_refuseAs rfl mlX5_87 (by first | decide | omega) (by decide) (by simp [Value.category]) rfl dX5_readPart_51 (SX5_refuseAs  M 2) (fun M11 => ?_)
        refine g_goto (tgt := 116) rfl dX5_readPart_54 ?_
        exact g_vreturn rfl (by decide) (by decide) dX5_readPart_116
    · refine g_aload_n 0 rfl rfl dX5_readPart_16 ?_
      refine g_getR (k := 2) (b := (ruA (gb M 3) (gb M 4))) clX5 kd_17 (by decide) rfl rfl flX5_34 dX5_readPart_17 ?_
      refine g_aload_n 0 rfl rfl dX5_readPart_20 ?_
      refine g_getR (k := 0) (b := 18) clX5 kd_17 (by decide) rfl rfl flX5_20 dX5_readPart_21 ?_
      refine g_aload_n 0 rfl rfl dX5_readPart_24 ?_
      refine g_getI (k := 4) clX5 kd_17 (by decide) rfl flX5_47 dX5_readPart_25 ?_
      refine g_callVI (y := miX10_numberAt) (As := [.int (gi M 17 4)]) (rest := [.ref (ruA (gb M 3) (gb M 4))]) clX10 kd_18 rfl moX10_numberAt rfl mlX5_156 (by first | decide | omega) (by decide) (by simp [Value.category]) rfl dX5_readPart_28 (SX10_numberAt  M (gi M 17 4)) (fun M13 v14 => ?_)
      refine g_callVV (y := miX6_add) (As := [.int v14]) (rest := []) clX6 (kv_d11_14_32_35_0 _ (ruA_dom _ _)) rfl moX6_add rfl mlX5_165 (by first | decide | omega) (by decide) (by simp [Value.category]) rfl dX5_readPart_31 (SX6_add (ruA (gb M 3) (gb M 4)) (ruA_dom _ _) M13 v14) (fun M15 => ?_)
      refine g_aload_n 0 rfl rfl dX5_readPart_34 ?_
      refine g_callVV (y := miX5_advance) (As := []) (rest := []) clX5 kd_17 rfl moX5_advance rfl mlX5_96 (by first | decide | omega) (by decide) (by simp [Value.category]) rfl dX5_readPart_35 (SX5_advance  M15) (fun M17 => ?_)
      refine g_goto (tgt := 116) rfl dX5_readPart_38 ?_
      exact g_vreturn rfl (by decide) (by decide) dX5_readPart_116
  · exact g_vreturn rfl (by decide) (by decide) dX5_readPart_7
def fX5_readProduct_b55 (rE : Mem → Int32 → RS) (rec7 : Mem → Int32 → Int32 → RS) (M : Mem) (x1 : Int32) (x2 : Int32) (s0 : Int32) : RS := bV (fX5_advance M) (fun M3 => bV (fX5_readPart rE M3 x1) (fun M5 => bV (fX6_add (ruA (gb M5 3) (gb M5 4)) M5 s0) (fun M7 => rec7 M7 x1 (x2 + 1))))
theorem SX5_readProduct_b55 (dE : Nat) (hD : 3 ≤ dE) (rE : Mem → Int32 → RS) (hE : ∀ (M : Mem) (x1 : Int32), CTO dE miX5_readExpr 0 0 [.ref 17, .int x1] M (rE M x1)) (rec7 : Mem → Int32 → Int32 → RS) (hrec7 : ∀ (M : Mem) (x1 : Int32) (x2 : Int32), GO miX5_readProduct (dE + 2) 0 0 0 0 7 [(0, .ref 17), (1, .int x1), (2, .int x2)] [] M (rec7 M x1 x2)) (M : Mem) (x1 : Int32) (x2 : Int32) (s0 : Int32) : GO miX5_readProduct (dE + 2) 0 0 0 0 55 [(0, .ref 17), (1, .int x1), (2, .int x2)] [.int s0] M (fX5_readProduct_b55 rE rec7 M x1 x2 s0) := by
  show GO miX5_readProduct (dE + 2) 0 0 0 0 55 [(0, .ref 17), (1, .int x1), (2, .int x2)] [.int s0] M (bV (fX5_advance M) (fun M3 => bV (fX5_readPart rE M3 x1) (fun M5 => bV (fX6_add (ruA (gb M5 3) (gb M5 4)) M5 s0) (fun M7 => rec7 M7 x1 (x2 + 1)))))
  refine g_istore_n (L' := [(3, .int s0), (0, .ref 17), (1, .int x1), (2, .int x2)]) (by decide) rfl rfl dX5_readProduct_55 ?_
  refine g_aload_n 1 rfl rfl dX5_readProduct_56 ?_
  refine g_callVV (y := miX5_advance) (As := []) (rest := []) clX5 kd_17 rfl moX5_advance rfl mlX5_96 (by first | decide | omega) (by decide) (by simp [Value.category]) rfl dX5_readProduct_57 (SX5_advance  M) (fun M3 => ?_)
  refine g_aload_n 1 rfl rfl dX5_readProduct_60 ?_
  refine g_iload_n 2 rfl rfl dX5_readProduct_61 ?_
  refine g_callVV (y := miX5_readPart) (As := [.int x1]) (rest := []) clX5 kd_17 rfl moX5_readPart rfl mlX5_180 (by first | decide | omega) (by decide) (by simp [Value.category]) rfl dX5_readProduct_62 (SX5_readPart dE hD rE hE  M3 x1) (fun M5 => ?_)
  refine g_aload_n 1 rfl rfl dX5_readProduct_65 ?_
  refine g_getR (k := 2) (b := (ruA (gb M5 3) (gb M5 4))) clX5 kd_17 (by decide) rfl rfl flX5_34 dX5_readProduct_66 ?_
  refine g_iload_n 0 rfl rfl dX5_readProduct_69 ?_
  refine g_callVV (y := miX6_add) (As := [.int s0]) (rest := []) clX6 (kv_d11_14_32_35_0 _ (ruA_dom _ _)) rfl moX6_add rfl mlX5_165 (by first | decide | omega) (by decide) (by simp [Value.category]) rfl dX5_readProduct_70 (SX6_add (ruA (gb M5 3) (gb M5 4)) (ruA_dom _ _) M5 s0) (fun M7 => ?_)
  refine g_iinc (v := x2 + 1) (L' := [(2, .int (x2 + 1)), (3, .int s0), (0, .ref 17), (1, .int x1)]) 3 rfl rfl (by decide) rfl dX5_readProduct_73 ?_
  refine g_goto (tgt := 7) rfl dX5_readProduct_76 ?_
  exact GO.pick [2, 3, 0] rfl <| hrec7 M7 x1 (x2 + 1)
def fX5_readProduct_b39 (rE : Mem → Int32 → RS) (rec7 : Mem → Int32 → Int32 → RS) (M : Mem) (x1 : Int32) (x2 : Int32) : RS := if (gi M 17 5) = 42 then fX5_readProduct_b55 rE rec7 M x1 x2 (-8) else fX5_readProduct_b55 rE rec7 M x1 x2 (-9)
theorem SX5_readProduct_b39 (dE : Nat) (hD : 3 ≤ dE) (rE : Mem → Int32 → RS) (hE : ∀ (M : Mem) (x1 : Int32), CTO dE miX5_readExpr 0 0 [.ref 17, .int x1] M (rE M x1)) (rec7 : Mem → Int32 → Int32 → RS) (hrec7 : ∀ (M : Mem) (x1 : Int32) (x2 : Int32), GO miX5_readProduct (dE + 2) 0 0 0 0 7 [(0, .ref 17), (1, .int x1), (2, .int x2)] [] M (rec7 M x1 x2)) (M : Mem) (x1 : Int32) (x2 : Int32) : GO miX5_readProduct (dE + 2) 0 0 0 0 39 [(0, .ref 17), (1, .int x1), (2, .int x2)] [] M (fX5_readProduct_b39 rE rec7 M x1 x2) := by
  show GO miX5_readProduct (dE + 2) 0 0 0 0 39 [(0, .ref 17), (1, .int x1), (2, .int x2)] [] M (if (gi M 17 5) = 42 then fX5_readProduct_b55 rE rec7 M x1 x2 (-8) else fX5_readProduct_b55 rE rec7 M x1 x2 (-9))
  refine g_aload_n 0 rfl rfl dX5_readProduct_39 ?_
  refine g_getI (k := 5) clX5 kd_17 (by decide) rfl flX5_54 dX5_readProduct_40 ?_
  refine g_bipush (v := 42) (by decide) dX5_readProduct_43 ?_
  refine g_icmp_ne (tgt := 53) rfl dX5_readProduct_45 (fun c => ?_) (fun c => ?_)
  · refine g_bipush (v := (-9)) (by decide) dX5_readProduct_53 ?_
    exact GO.pick [0, 1, 2] rfl <| SX5_readProduct_b55 dE hD rE hE  rec7 hrec7 M x1 x2 (-9)
  · refine g_bipush (v := (-8)) (by decide) dX5_readProduct_48 ?_
    refine g_goto (tgt := 55) rfl dX5_readProduct_50 ?_
    exact GO.pick [0, 1, 2] rfl <| SX5_readProduct_b55 dE hD rE hE  rec7 hrec7 M x1 x2 (-8)
def fX5_readProduct_b7 (rE : Mem → Int32 → RS) : Nat → Mem → Int32 → Int32 → RS
  | 0 => fun _ _ _ => none
  | n + 1 => fun M x1 x2 => if x2 < 700 then if (gi M 17 6) = 0 then if (gi M 17 5) = 42 then fX5_readProduct_b39 rE (fX5_readProduct_b7 rE n) M x1 x2 else if (gi M 17 5) = 47 then fX5_readProduct_b39 rE (fX5_readProduct_b7 rE n) M x1 x2 else some (M, .inr none) else some (M, .inr none) else some (M, .inr none)
theorem SX5_readProduct_b7 (dE : Nat) (hD : 3 ≤ dE) (rE : Mem → Int32 → RS) (hE : ∀ (M : Mem) (x1 : Int32), CTO dE miX5_readExpr 0 0 [.ref 17, .int x1] M (rE M x1)) (n : Nat) : ∀ (M : Mem) (x1 : Int32) (x2 : Int32), GO miX5_readProduct (dE + 2) 0 0 0 0 7 [(0, .ref 17), (1, .int x1), (2, .int x2)] [] M (fX5_readProduct_b7 rE n M x1 x2) := by
  induction n with
  | zero => intro M x1 x2 ; exact GO.none
  | succ n hrec7 =>
    intro M x1 x2 
    show GO miX5_readProduct (dE + 2) 0 0 0 0 7 [(0, .ref 17), (1, .int x1), (2, .int x2)] [] M (if x2 < 700 then if (gi M 17 6) = 0 then if (gi M 17 5) = 42 then fX5_readProduct_b39 rE (fX5_readProduct_b7 rE n) M x1 x2 else if (gi M 17 5) = 47 then fX5_readProduct_b39 rE (fX5_readProduct_b7 rE n) M x1 x2 else some (M, .inr none) else some (M, .inr none) else some (M, .inr none))
    refine g_iload_n 2 rfl rfl dX5_readProduct_7 ?_
    refine g_sipush (v := 700) (by decide) dX5_readProduct_8 ?_
    refine g_icmp_ge (tgt := 79) rfl dX5_readProduct_11 (fun c => ?_) (fun c => ?_)
    · exact g_vreturn rfl (by decide) (by decide) dX5_readProduct_79
    · refine g_aload_n 0 rfl rfl dX5_readProduct_14 ?_
      refine g_getI (k := 6) clX5 kd_17 (by decide) rfl flX5_40 dX5_readProduct_15 ?_
      refine g_if_ne (tgt := 79) rfl dX5_readProduct_18 (fun c => ?_) (fun c => ?_)
      · exact g_vreturn rfl (by decide) (by decide) dX5_readProduct_79
      · refine g_aload_n 0 rfl rfl dX5_readProduct_21 ?_
        refine g_getI (k := 5) clX5 kd_17 (by decide) rfl flX5_54 dX5_readProduct_22 ?_
        refine g_bipush (v := 42) (by decide) dX5_readProduct_25 ?_
        refine g_icmp_eq (tgt := 39) rfl dX5_readProduct_27 (fun c => ?_) (fun c => ?_)
        · exact GO.pick [0, 1, 2] rfl <| SX5_readProduct_b39 dE hD rE hE  (fX5_readProduct_b7 rE n) hrec7 M x1 x2
        · refine g_aload_n 0 rfl rfl dX5_readProduct_30 ?_
          refine g_getI (k := 5) clX5 kd_17 (by decide) rfl flX5_54 dX5_readProduct_31 ?_
          refine g_bipush (v := 47) (by decide) dX5_readProduct_34 ?_
          refine g_icmp_ne (tgt := 79) rfl dX5_readProduct_36 (fun c => ?_) (fun c => ?_)
          · exact g_vreturn rfl (by decide) (by decide) dX5_readProduct_79
          · exact GO.pick [0, 1, 2] rfl <| SX5_readProduct_b39 dE hD rE hE  (fX5_readProduct_b7 rE n) hrec7 M x1 x2
def fX5_readProduct (rE : Mem → Int32 → RS) (M : Mem) (x1 : Int32) : RS := bV (fX5_readPart rE M x1) (fun M1 => fX5_readProduct_b7 rE  FU M1 x1 0)
theorem SX5_readProduct (dE : Nat) (hD : 3 ≤ dE) (rE : Mem → Int32 → RS) (hE : ∀ (M : Mem) (x1 : Int32), CTO dE miX5_readExpr 0 0 [.ref 17, .int x1] M (rE M x1)) (M : Mem) (x1 : Int32) : CTO (dE + 2) miX5_readProduct 0 0 [.ref 17, .int x1] M (fX5_readProduct rE  M x1) := by
  refine CTO.of (by decide) (by simp [lg_sl, Value.category]) ?_
  show GO miX5_readProduct (dE + 2) 0 0 0 0 0 [(0, .ref 17), (1, .int x1)] [] M (bV (fX5_readPart rE M x1) (fun M1 => fX5_readProduct_b7 rE  FU M1 x1 0))
  refine g_aload_n 0 rfl rfl dX5_readProduct_0 ?_
  refine g_iload_n 1 rfl rfl dX5_readProduct_1 ?_
  refine g_callVV (y := miX5_readPart) (As := [.int x1]) (rest := []) clX5 kd_17 rfl moX5_readPart rfl mlX5_180 (by first | decide | omega) (by decide) (by simp [Value.category]) rfl dX5_readProduct_2 (SX5_readPart dE hD rE hE  M x1) (fun M1 => ?_)
  refine g_iconst (v := 0) (by decide) dX5_readProduct_5 ?_
  refine g_istore_n (L' := [(2, .int 0), (0, .ref 17), (1, .int x1)]) (by decide) rfl rfl dX5_readProduct_6 ?_
  exact GO.pick [1, 2, 0] rfl <| SX5_readProduct_b7 dE hD rE hE  FU M1 x1 0
def fX5_readSum_b55 (rE : Mem → Int32 → RS) (rec7 : Mem → Int32 → Int32 → RS) (M : Mem) (x1 : Int32) (x2 : Int32) (s0 : Int32) : RS := bV (fX5_advance M) (fun M3 => bV (fX5_readProduct rE M3 x1) (fun M5 => bV (fX6_add (ruA (gb M5 3) (gb M5 4)) M5 s0) (fun M7 => rec7 M7 x1 (x2 + 1))))
theorem SX5_readSum_b55 (dE : Nat) (hD : 3 ≤ dE) (rE : Mem → Int32 → RS) (hE : ∀ (M : Mem) (x1 : Int32), CTO dE miX5_readExpr 0 0 [.ref 17, .int x1] M (rE M x1)) (rec7 : Mem → Int32 → Int32 → RS) (hrec7 : ∀ (M : Mem) (x1 : Int32) (x2 : Int32), GO miX5_readSum (dE + 3) 0 0 0 0 7 [(0, .ref 17), (1, .int x1), (2, .int x2)] [] M (rec7 M x1 x2)) (M : Mem) (x1 : Int32) (x2 : Int32) (s0 : Int32) : GO miX5_readSum (dE + 3) 0 0 0 0 55 [(0, .ref 17), (1, .int x1), (2, .int x2)] [.int s0] M (fX5_readSum_b55 rE rec7 M x1 x2 s0) := by
  show GO miX5_readSum (dE + 3) 0 0 0 0 55 [(0, .ref 17), (1, .int x1), (2, .int x2)] [.int s0] M (bV (fX5_advance M) (fun M3 => bV (fX5_readProduct rE M3 x1) (fun M5 => bV (fX6_add (ruA (gb M5 3) (gb M5 4)) M5 s0) (fun M7 => rec7 M7 x1 (x2 + 1)))))
  refine g_istore_n (L' := [(3, .int s0), (0, .ref 17), (1, .int x1), (2, .int x2)]) (by decide) rfl rfl dX5_readSum_55 ?_
  refine g_aload_n 1 rfl rfl dX5_readSum_56 ?_
  refine g_callVV (y := miX5_advance) (As := []) (rest := []) clX5 kd_17 rfl moX5_advance rfl mlX5_96 (by first | decide | omega) (by decide) (by simp [Value.category]) rfl dX5_readSum_57 (SX5_advance  M) (fun M3 => ?_)
  refine g_aload_n 1 rfl rfl dX5_readSum_60 ?_
  refine g_iload_n 2 rfl rfl dX5_readSum_61 ?_
  refine g_callVV (y := miX5_readProduct) (As := [.int x1]) (rest := []) clX5 kd_17 rfl moX5_readProduct rfl mlX5_177 (by first | decide | omega) (by decide) (by simp [Value.category]) rfl dX5_readSum_62 (SX5_readProduct dE hD rE hE  M3 x1) (fun M5 => ?_)
  refine g_aload_n 1 rfl rfl dX5_readSum_65 ?_
  refine g_getR (k := 2) (b := (ruA (gb M5 3) (gb M5 4))) clX5 kd_17 (by decide) rfl rfl flX5_34 dX5_readSum_66 ?_
  refine g_iload_n 0 rfl rfl dX5_readSum_69 ?_
  refine g_callVV (y := miX6_add) (As := [.int s0]) (rest := []) clX6 (kv_d11_14_32_35_0 _ (ruA_dom _ _)) rfl moX6_add rfl mlX5_165 (by first | decide | omega) (by decide) (by simp [Value.category]) rfl dX5_readSum_70 (SX6_add (ruA (gb M5 3) (gb M5 4)) (ruA_dom _ _) M5 s0) (fun M7 => ?_)
  refine g_iinc (v := x2 + 1) (L' := [(2, .int (x2 + 1)), (3, .int s0), (0, .ref 17), (1, .int x1)]) 3 rfl rfl (by decide) rfl dX5_readSum_73 ?_
  refine g_goto (tgt := 7) rfl dX5_readSum_76 ?_
  exact GO.pick [2, 3, 0] rfl <| hrec7 M7 x1 (x2 + 1)
def fX5_readSum_b39 (rE : Mem → Int32 → RS) (rec7 : Mem → Int32 → Int32 → RS) (M : Mem) (x1 : Int32) (x2 : Int32) : RS := if (gi M 17 5) = 43 then fX5_readSum_b55 rE rec7 M x1 x2 (-6) else fX5_readSum_b55 rE rec7 M x1 x2 (-7)
theorem SX5_readSum_b39 (dE : Nat) (hD : 3 ≤ dE) (rE : Mem → Int32 → RS) (hE : ∀ (M : Mem) (x1 : Int32), CTO dE miX5_readExpr 0 0 [.ref 17, .int x1] M (rE M x1)) (rec7 : Mem → Int32 → Int32 → RS) (hrec7 : ∀ (M : Mem) (x1 : Int32) (x2 : Int32), GO miX5_readSum (dE + 3) 0 0 0 0 7 [(0, .ref 17), (1, .int x1), (2, .int x2)] [] M (rec7 M x1 x2)) (M : Mem) (x1 : Int32) (x2 : Int32) : GO miX5_readSum (dE + 3) 0 0 0 0 39 [(0, .ref 17), (1, .int x1), (2, .int x2)] [] M (fX5_readSum_b39 rE rec7 M x1 x2) := by
  show GO miX5_readSum (dE + 3) 0 0 0 0 39 [(0, .ref 17), (1, .int x1), (2, .int x2)] [] M (if (gi M 17 5) = 43 then fX5_readSum_b55 rE rec7 M x1 x2 (-6) else fX5_readSum_b55 rE rec7 M x1 x2 (-7))
  refine g_aload_n 0 rfl rfl dX5_readSum_39 ?_
  refine g_getI (k := 5) clX5 kd_17 (by decide) rfl flX5_54 dX5_readSum_40 ?_
  refine g_bipush (v := 43) (by decide) dX5_readSum_43 ?_
  refine g_icmp_ne (tgt := 53) rfl dX5_readSum_45 (fun c => ?_) (fun c => ?_)
  · refine g_bipush (v := (-7)) (by decide) dX5_readSum_53 ?_
    exact GO.pick [0, 1, 2] rfl <| SX5_readSum_b55 dE hD rE hE  rec7 hrec7 M x1 x2 (-7)
  · refine g_bipush (v := (-6)) (by decide) dX5_readSum_48 ?_
    refine g_goto (tgt := 55) rfl dX5_readSum_50 ?_
    exact GO.pick [0, 1, 2] rfl <| SX5_readSum_b55 dE hD rE hE  rec7 hrec7 M x1 x2 (-6)
def fX5_readSum_b7 (rE : Mem → Int32 → RS) : Nat → Mem → Int32 → Int32 → RS
  | 0 => fun _ _ _ => none
  | n + 1 => fun M x1 x2 => if x2 < 700 then if (gi M 17 6) = 0 then if (gi M 17 5) = 43 then fX5_readSum_b39 rE (fX5_readSum_b7 rE n) M x1 x2 else if (gi M 17 5) = 45 then fX5_readSum_b39 rE (fX5_readSum_b7 rE n) M x1 x2 else some (M, .inr none) else some (M, .inr none) else some (M, .inr none)
theorem SX5_readSum_b7 (dE : Nat) (hD : 3 ≤ dE) (rE : Mem → Int32 → RS) (hE : ∀ (M : Mem) (x1 : Int32), CTO dE miX5_readExpr 0 0 [.ref 17, .int x1] M (rE M x1)) (n : Nat) : ∀ (M : Mem) (x1 : Int32) (x2 : Int32), GO miX5_readSum (dE + 3) 0 0 0 0 7 [(0, .ref 17), (1, .int x1), (2, .int x2)] [] M (fX5_readSum_b7 rE n M x1 x2) := by
  induction n with
  | zero => intro M x1 x2 ; exact GO.none
  | succ n hrec7 =>
    intro M x1 x2 
    show GO miX5_readSum (dE + 3) 0 0 0 0 7 [(0, .ref 17), (1, .int x1), (2, .int x2)] [] M (if x2 < 700 then if (gi M 17 6) = 0 then if (gi M 17 5) = 43 then fX5_readSum_b39 rE (fX5_readSum_b7 rE n) M x1 x2 else if (gi M 17 5) = 45 then fX5_readSum_b39 rE (fX5_readSum_b7 rE n) M x1 x2 else some (M, .inr none) else some (M, .inr none) else some (M, .inr none))
    refine g_iload_n 2 rfl rfl dX5_readSum_7 ?_
    refine g_sipush (v := 700) (by decide) dX5_readSum_8 ?_
    refine g_icmp_ge (tgt := 79) rfl dX5_readSum_11 (fun c => ?_) (fun c => ?_)
    · exact g_vreturn rfl (by decide) (by decide) dX5_readSum_79
    · refine g_aload_n 0 rfl rfl dX5_readSum_14 ?_
      refine g_getI (k := 6) clX5 kd_17 (by decide) rfl flX5_40 dX5_readSum_15 ?_
      refine g_if_ne (tgt := 79) rfl dX5_readSum_18 (fun c => ?_) (fun c => ?_)
      · exact g_vreturn rfl (by decide) (by decide) dX5_readSum_79
      · refine g_aload_n 0 rfl rfl dX5_readSum_21 ?_
        refine g_getI (k := 5) clX5 kd_17 (by decide) rfl flX5_54 dX5_readSum_22 ?_
        refine g_bipush (v := 43) (by decide) dX5_readSum_25 ?_
        refine g_icmp_eq (tgt := 39) rfl dX5_readSum_27 (fun c => ?_) (fun c => ?_)
        · exact GO.pick [0, 1, 2] rfl <| SX5_readSum_b39 dE hD rE hE  (fX5_readSum_b7 rE n) hrec7 M x1 x2
        · refine g_aload_n 0 rfl rfl dX5_readSum_30 ?_
          refine g_getI (k := 5) clX5 kd_17 (by decide) rfl flX5_54 dX5_readSum_31 ?_
          refine g_bipush (v := 45) (by decide) dX5_readSum_34 ?_
          refine g_icmp_ne (tgt := 79) rfl dX5_readSum_36 (fun c => ?_) (fun c => ?_)
          · exact g_vreturn rfl (by decide) (by decide) dX5_readSum_79
          · exact GO.pick [0, 1, 2] rfl <| SX5_readSum_b39 dE hD rE hE  (fX5_readSum_b7 rE n) hrec7 M x1 x2
def fX5_readSum (rE : Mem → Int32 → RS) (M : Mem) (x1 : Int32) : RS := bV (fX5_readProduct rE M x1) (fun M1 => fX5_readSum_b7 rE  FU M1 x1 0)
theorem SX5_readSum (dE : Nat) (hD : 3 ≤ dE) (rE : Mem → Int32 → RS) (hE : ∀ (M : Mem) (x1 : Int32), CTO dE miX5_readExpr 0 0 [.ref 17, .int x1] M (rE M x1)) (M : Mem) (x1 : Int32) : CTO (dE + 3) miX5_readSum 0 0 [.ref 17, .int x1] M (fX5_readSum rE  M x1) := by
  refine CTO.of (by decide) (by simp [lg_sl, Value.category]) ?_
  show GO miX5_readSum (dE + 3) 0 0 0 0 0 [(0, .ref 17), (1, .int x1)] [] M (bV (fX5_readProduct rE M x1) (fun M1 => fX5_readSum_b7 rE  FU M1 x1 0))
  refine g_aload_n 0 rfl rfl dX5_readSum_0 ?_
  refine g_iload_n 1 rfl rfl dX5_readSum_1 ?_
  refine g_callVV (y := miX5_readProduct) (As := [.int x1]) (rest := []) clX5 kd_17 rfl moX5_readProduct rfl mlX5_177 (by first | decide | omega) (by decide) (by simp [Value.category]) rfl dX5_readSum_2 (SX5_readProduct dE hD rE hE  M x1) (fun M1 => ?_)
  refine g_iconst (v := 0) (by decide) dX5_readSum_5 ?_
  refine g_istore_n (L' := [(2, .int 0), (0, .ref 17), (1, .int x1)]) (by decide) rfl rfl dX5_readSum_6 ?_
  exact GO.pick [1, 2, 0] rfl <| SX5_readSum_b7 dE hD rE hE  FU M1 x1 0
def fX5_readTest_b46 (rE : Mem → Int32 → RS) (M : Mem) (x1 : Int32) (s0 : Int32) : RS := bV (fX5_advance M) (fun M3 => bV (fX5_readSum rE M3 x1) (fun M5 => bV (fX6_add (ruA (gb M5 3) (gb M5 4)) M5 s0) (fun M7 => some (M7, .inr none))))
theorem SX5_readTest_b46 (dE : Nat) (hD : 3 ≤ dE) (rE : Mem → Int32 → RS) (hE : ∀ (M : Mem) (x1 : Int32), CTO dE miX5_readExpr 0 0 [.ref 17, .int x1] M (rE M x1)) (M : Mem) (x1 : Int32) (s0 : Int32) : GO miX5_readTest (dE + 4) 0 0 0 0 46 [(0, .ref 17), (1, .int x1)] [.int s0] M (fX5_readTest_b46 rE M x1 s0) := by
  show GO miX5_readTest (dE + 4) 0 0 0 0 46 [(0, .ref 17), (1, .int x1)] [.int s0] M (bV (fX5_advance M) (fun M3 => bV (fX5_readSum rE M3 x1) (fun M5 => bV (fX6_add (ruA (gb M5 3) (gb M5 4)) M5 s0) (fun M7 => some (M7, .inr none)))))
  refine g_istore_n (L' := [(2, .int s0), (0, .ref 17), (1, .int x1)]) (by decide) rfl rfl dX5_readTest_46 ?_
  refine g_aload_n 1 rfl rfl dX5_readTest_47 ?_
  refine g_callVV (y := miX5_advance) (As := []) (rest := []) clX5 kd_17 rfl moX5_advance rfl mlX5_96 (by first | decide | omega) (by decide) (by simp [Value.category]) rfl dX5_readTest_48 (SX5_advance  M) (fun M3 => ?_)
  refine g_aload_n 1 rfl rfl dX5_readTest_51 ?_
  refine g_iload_n 2 rfl rfl dX5_readTest_52 ?_
  refine g_callVV (y := miX5_readSum) (As := [.int x1]) (rest := []) clX5 kd_17 rfl moX5_readSum rfl mlX5_174 (by first | decide | omega) (by decide) (by simp [Value.category]) rfl dX5_readTest_53 (SX5_readSum dE hD rE hE  M3 x1) (fun M5 => ?_)
  refine g_aload_n 1 rfl rfl dX5_readTest_56 ?_
  refine g_getR (k := 2) (b := (ruA (gb M5 3) (gb M5 4))) clX5 kd_17 (by decide) rfl rfl flX5_34 dX5_readTest_57 ?_
  refine g_iload_n 0 rfl rfl dX5_readTest_60 ?_
  refine g_callVV (y := miX6_add) (As := [.int s0]) (rest := []) clX6 (kv_d11_14_32_35_0 _ (ruA_dom _ _)) rfl moX6_add rfl mlX5_165 (by first | decide | omega) (by decide) (by simp [Value.category]) rfl dX5_readTest_61 (SX6_add (ruA (gb M5 3) (gb M5 4)) (ruA_dom _ _) M5 s0) (fun M7 => ?_)
  exact g_vreturn rfl (by decide) (by decide) dX5_readTest_64
def fX5_readTest_b30 (rE : Mem → Int32 → RS) (M : Mem) (x1 : Int32) : RS := if (gi M 17 5) = 60 then fX5_readTest_b46 rE  M x1 (-4) else fX5_readTest_b46 rE  M x1 (-5)
theorem SX5_readTest_b30 (dE : Nat) (hD : 3 ≤ dE) (rE : Mem → Int32 → RS) (hE : ∀ (M : Mem) (x1 : Int32), CTO dE miX5_readExpr 0 0 [.ref 17, .int x1] M (rE M x1)) (M : Mem) (x1 : Int32) : GO miX5_readTest (dE + 4) 0 0 0 0 30 [(0, .ref 17), (1, .int x1)] [] M (fX5_readTest_b30 rE M x1) := by
  show GO miX5_readTest (dE + 4) 0 0 0 0 30 [(0, .ref 17), (1, .int x1)] [] M (if (gi M 17 5) = 60 then fX5_readTest_b46 rE  M x1 (-4) else fX5_readTest_b46 rE  M x1 (-5))
  refine g_aload_n 0 rfl rfl dX5_readTest_30 ?_
  refine g_getI (k := 5) clX5 kd_17 (by decide) rfl flX5_54 dX5_readTest_31 ?_
  refine g_bipush (v := 60) (by decide) dX5_readTest_34 ?_
  refine g_icmp_ne (tgt := 44) rfl dX5_readTest_36 (fun c => ?_) (fun c => ?_)
  · refine g_bipush (v := (-5)) (by decide) dX5_readTest_44 ?_
    exact GO.pick [0, 1] rfl <| SX5_readTest_b46 dE hD rE hE  M x1 (-5)
  · refine g_bipush (v := (-4)) (by decide) dX5_readTest_39 ?_
    refine g_goto (tgt := 46) rfl dX5_readTest_41 ?_
    exact GO.pick [0, 1] rfl <| SX5_readTest_b46 dE hD rE hE  M x1 (-4)
def fX5_readTest (rE : Mem → Int32 → RS) (M : Mem) (x1 : Int32) : RS := bV (fX5_readSum rE M x1) (fun M1 => if (gi M1 17 6) = 0 then if (gi M1 17 5) = 60 then fX5_readTest_b30 rE  M1 x1 else if (gi M1 17 5) = 61 then fX5_readTest_b30 rE  M1 x1 else some (M1, .inr none) else some (M1, .inr none))
theorem SX5_readTest (dE : Nat) (hD : 3 ≤ dE) (rE : Mem → Int32 → RS) (hE : ∀ (M : Mem) (x1 : Int32), CTO dE miX5_readExpr 0 0 [.ref 17, .int x1] M (rE M x1)) (M : Mem) (x1 : Int32) : CTO (dE + 4) miX5_readTest 0 0 [.ref 17, .int x1] M (fX5_readTest rE  M x1) := by
  refine CTO.of (by decide) (by simp [lg_sl, Value.category]) ?_
  show GO miX5_readTest (dE + 4) 0 0 0 0 0 [(0, .ref 17), (1, .int x1)] [] M (bV (fX5_readSum rE M x1) (fun M1 => if (gi M1 17 6) = 0 then if (gi M1 17 5) = 60 then fX5_readTest_b30 rE  M1 x1 else if (gi M1 17 5) = 61 then fX5_readTest_b30 rE  M1 x1 else some (M1, .inr none) else some (M1, .inr none)))
  refine g_aload_n 0 rfl rfl dX5_readTest_0 ?_
  refine g_iload_n 1 rfl rfl dX5_readTest_1 ?_
  refine g_callVV (y := miX5_readSum) (As := [.int x1]) (rest := []) clX5 kd_17 rfl moX5_readSum rfl mlX5_174 (by first | decide | omega) (by decide) (by simp [Value.category]) rfl dX5_readTest_2 (SX5_readSum dE hD rE hE  M x1) (fun M1 => ?_)
  refine g_aload_n 0 rfl rfl dX5_readTest_5 ?_
  refine g_getI (k := 6) clX5 kd_17 (by decide) rfl flX5_40 dX5_readTest_6 ?_
  refine g_if_ne (tgt := 64) rfl dX5_readTest_9 (fun c => ?_) (fun c => ?_)
  · exact g_vreturn rfl (by decide) (by decide) dX5_readTest_64
  · refine g_aload_n 0 rfl rfl dX5_readTest_12 ?_
    refine g_getI (k := 5) clX5 kd_17 (by decide) rfl flX5_54 dX5_readTest_13 ?_
    refine g_bipush (v := 60) (by decide) dX5_readTest_16 ?_
    refine g_icmp_eq (tgt := 30) rfl dX5_readTest_18 (fun c => ?_) (fun c => ?_)
    · exact GO.pick [0, 1] rfl <| SX5_readTest_b30 dE hD rE hE  M1 x1
    · refine g_aload_n 0 rfl rfl dX5_readTest_21 ?_
      refine g_getI (k := 5) clX5 kd_17 (by decide) rfl flX5_54 dX5_readTest_22 ?_
      refine g_bipush (v := 61) (by decide) dX5_readTest_25 ?_
      refine g_icmp_ne (tgt := 64) rfl dX5_readTest_27 (fun c => ?_) (fun c => ?_)
      · exact g_vreturn rfl (by decide) (by decide) dX5_readTest_64
      · exact GO.pick [0, 1] rfl <| SX5_readTest_b30 dE hD rE hE  M1 x1
def fX5_readNot_b50 (rE : Mem → Int32 → RS) : Nat → Mem → Int32 → Int32 → RS
  | 0 => fun _ _ _ => none
  | n + 1 => fun M x2 x3 => if x3 < x2 then bV (fX6_add (ruA (gb M 3) (gb M 4)) M (-3)) (fun M7 => (fX5_readNot_b50 rE n) M7 x2 (x3 + 1)) else some (M, .inr none)
theorem SX5_readNot_b50 (dE : Nat) (hD : 3 ≤ dE) (rE : Mem → Int32 → RS) (hE : ∀ (M : Mem) (x1 : Int32), CTO dE miX5_readExpr 0 0 [.ref 17, .int x1] M (rE M x1)) (n : Nat) : ∀ (M : Mem) (x2 : Int32) (x3 : Int32), GO miX5_readNot (dE + 5) 0 0 0 0 50 [(0, .ref 17), (2, .int x2), (3, .int x3)] [] M (fX5_readNot_b50 rE n M x2 x3) := by
  induction n with
  | zero => intro M x2 x3 ; exact GO.none
  | succ n hrec50 =>
    intro M x2 x3 
    show GO miX5_readNot (dE + 5) 0 0 0 0 50 [(0, .ref 17), (2, .int x2), (3, .int x3)] [] M (if x3 < x2 then bV (fX6_add (ruA (gb M 3) (gb M 4)) M (-3)) (fun M7 => (fX5_readNot_b50 rE n) M7 x2 (x3 + 1)) else some (M, .inr none))
    refine g_iload_n 2 rfl rfl dX5_readNot_50 ?_
    refine g_iload_n 1 rfl rfl dX5_readNot_51 ?_
    refine g_icmp_ge (tgt := 70) rfl dX5_readNot_52 (fun c => ?_) (fun c => ?_)
    · exact g_vreturn rfl (by decide) (by decide) dX5_readNot_70
    · refine g_aload_n 0 rfl rfl dX5_readNot_55 ?_
      refine g_getR (k := 2) (b := (ruA (gb M 3) (gb M 4))) clX5 kd_17 (by decide) rfl rfl flX5_34 dX5_readNot_56 ?_
      refine g_bipush (v := (-3)) (by decide) dX5_readNot_59 ?_
      refine g_callVV (y := miX6_add) (As := [.int (-3)]) (rest := []) clX6 (kv_d11_14_32_35_0 _ (ruA_dom _ _)) rfl moX6_add rfl mlX5_165 (by first | decide | omega) (by decide) (by simp [Value.category]) rfl dX5_readNot_61 (SX6_add (ruA (gb M 3) (gb M 4)) (ruA_dom _ _) M (-3)) (fun M7 => ?_)
      refine g_iinc (v := x3 + 1) (L' := [(3, .int (x3 + 1)), (0, .ref 17), (2, .int x2)]) 2 rfl rfl (by decide) rfl dX5_readNot_64 ?_
      refine g_goto (tgt := 50) rfl dX5_readNot_67 ?_
      exact GO.pick [1, 2, 0] rfl <| hrec50 M7 x2 (x3 + 1)
def fX5_readNot_b43 (rE : Mem → Int32 → RS) (M : Mem) (x1 : Int32) (x2 : Int32) : RS := bV (fX5_readTest rE M x1) (fun M5 => fX5_readNot_b50 rE  FU M5 x2 0)
theorem SX5_readNot_b43 (dE : Nat) (hD : 3 ≤ dE) (rE : Mem → Int32 → RS) (hE : ∀ (M : Mem) (x1 : Int32), CTO dE miX5_readExpr 0 0 [.ref 17, .int x1] M (rE M x1)) (M : Mem) (x1 : Int32) (x2 : Int32) : GO miX5_readNot (dE + 5) 0 0 0 0 43 [(0, .ref 17), (1, .int x1), (2, .int x2)] [] M (fX5_readNot_b43 rE M x1 x2) := by
  show GO miX5_readNot (dE + 5) 0 0 0 0 43 [(0, .ref 17), (1, .int x1), (2, .int x2)] [] M (bV (fX5_readTest rE M x1) (fun M5 => fX5_readNot_b50 rE  FU M5 x2 0))
  refine g_aload_n 0 rfl rfl dX5_readNot_43 ?_
  refine g_iload_n 1 rfl rfl dX5_readNot_44 ?_
  refine g_callVV (y := miX5_readTest) (As := [.int x1]) (rest := []) clX5 kd_17 rfl moX5_readTest rfl mlX5_171 (by first | decide | omega) (by decide) (by simp [Value.category]) rfl dX5_readNot_45 (SX5_readTest dE hD rE hE  M x1) (fun M5 => ?_)
  refine g_iconst (v := 0) (by decide) dX5_readNot_48 ?_
  refine g_istore_n (L' := [(3, .int 0), (0, .ref 17), (1, .int x1), (2, .int x2)]) (by decide) rfl rfl dX5_readNot_49 ?_
  exact GO.pick [1, 3, 0] rfl <| SX5_readNot_b50 dE hD rE hE  FU M5 x2 0
def fX5_readNot_b28 (rE : Mem → Int32 → RS) (M : Mem) (x1 : Int32) (x2 : Int32) : RS := if (gi M 17 5) = 136 then bV (fX5_refuseAs M 2) (fun M3 => fX5_readNot_b43 rE  M3 x1 x2) else fX5_readNot_b43 rE  M x1 x2
theorem SX5_readNot_b28 (dE : Nat) (hD : 3 ≤ dE) (rE : Mem → Int32 → RS) (hE : ∀ (M : Mem) (x1 : Int32), CTO dE miX5_readExpr 0 0 [.ref 17, .int x1] M (rE M x1)) (M : Mem) (x1 : Int32) (x2 : Int32) : GO miX5_readNot (dE + 5) 0 0 0 0 28 [(0, .ref 17), (1, .int x1), (2, .int x2)] [] M (fX5_readNot_b28 rE M x1 x2) := by
  show GO miX5_readNot (dE + 5) 0 0 0 0 28 [(0, .ref 17), (1, .int x1), (2, .int x2)] [] M (if (gi M 17 5) = 136 then bV (fX5_refuseAs M 2) (fun M3 => fX5_readNot_b43 rE  M3 x1 x2) else fX5_readNot_b43 rE  M x1 x2)
  refine g_aload_n 0 rfl rfl dX5_readNot_28 ?_
  refine g_getI (k := 5) clX5 kd_17 (by decide) rfl flX5_54 dX5_readNot_29 ?_
  refine g_sipush (v := 136) (by decide) dX5_readNot_32 ?_
  refine g_icmp_ne (tgt := 43) rfl dX5_readNot_35 (fun c => ?_) (fun c => ?_)
  · exact GO.pick [0, 1, 2] rfl <| SX5_readNot_b43 dE hD rE hE  M x1 x2
  · refine g_aload_n 0 rfl rfl dX5_readNot_38 ?_
    refine g_iconst (v := 2) (by decide) dX5_readNot_39 ?_
    refine g_callVV (y := miX5_refuseAs) (As := [.int 2]) (rest := []) clX5 kd_17 rfl moX5_refuseAs rfl mlX5_87 (by first | decide | omega) (by decide) (by simp [Value.category]) rfl dX5_readNot_40 (SX5_refuseAs  M 2) (fun M3 => ?_)
    exact GO.pick [0, 1, 2] rfl <| SX5_readNot_b43 dE hD rE hE  M3 x1 x2
def fX5_readNot_b2 (rE : Mem → Int32 → RS) : Nat → Mem → Int32 → Int32 → RS
  | 0 => fun _ _ _ => none
  | n + 1 => fun M x1 x2 => if x2 < 6 then if (gi M 17 5) = 136 then bV (fX5_advance M) (fun M1 => (fX5_readNot_b2 rE n) M1 x1 (x2 + 1)) else fX5_readNot_b28 rE  M x1 x2 else fX5_readNot_b28 rE  M x1 x2
theorem SX5_readNot_b2 (dE : Nat) (hD : 3 ≤ dE) (rE : Mem → Int32 → RS) (hE : ∀ (M : Mem) (x1 : Int32), CTO dE miX5_readExpr 0 0 [.ref 17, .int x1] M (rE M x1)) (n : Nat) : ∀ (M : Mem) (x1 : Int32) (x2 : Int32), GO miX5_readNot (dE + 5) 0 0 0 0 2 [(0, .ref 17), (1, .int x1), (2, .int x2)] [] M (fX5_readNot_b2 rE n M x1 x2) := by
  induction n with
  | zero => intro M x1 x2 ; exact GO.none
  | succ n hrec2 =>
    intro M x1 x2 
    show GO miX5_readNot (dE + 5) 0 0 0 0 2 [(0, .ref 17), (1, .int x1), (2, .int x2)] [] M (if x2 < 6 then if (gi M 17 5) = 136 then bV (fX5_advance M) (fun M1 => (fX5_readNot_b2 rE n) M1 x1 (x2 + 1)) else fX5_readNot_b28 rE  M x1 x2 else fX5_readNot_b28 rE  M x1 x2)
    refine g_iload_n 2 rfl rfl dX5_readNot_2 ?_
    refine g_bipush (v := 6) (by decide) dX5_readNot_3 ?_
    refine g_icmp_ge (tgt := 28) rfl dX5_readNot_5 (fun c => ?_) (fun c => ?_)
    · exact GO.pick [0, 1, 2] rfl <| SX5_readNot_b28 dE hD rE hE  M x1 x2
    · refine g_aload_n 0 rfl rfl dX5_readNot_8 ?_
      refine g_getI (k := 5) clX5 kd_17 (by decide) rfl flX5_54 dX5_readNot_9 ?_
      refine g_sipush (v := 136) (by decide) dX5_readNot_12 ?_
      refine g_icmp_ne (tgt := 28) rfl dX5_readNot_15 (fun c => ?_) (fun c => ?_)
      · exact GO.pick [0, 1, 2] rfl <| SX5_readNot_b28 dE hD rE hE  M x1 x2
      · refine g_aload_n 0 rfl rfl dX5_readNot_18 ?_
        refine g_callVV (y := miX5_advance) (As := []) (rest := []) clX5 kd_17 rfl moX5_advance rfl mlX5_96 (by first | decide | omega) (by decide) (by simp [Value.category]) rfl dX5_readNot_19 (SX5_advance  M) (fun M1 => ?_)
        refine g_iinc (v := x2 + 1) (L' := [(2, .int (x2 + 1)), (0, .ref 17), (1, .int x1)]) 2 rfl rfl (by decide) rfl dX5_readNot_22 ?_
        refine g_goto (tgt := 2) rfl dX5_readNot_25 ?_
        exact GO.pick [1, 2, 0] rfl <| hrec2 M1 x1 (x2 + 1)
def fX5_readNot (rE : Mem → Int32 → RS) (M : Mem) (x1 : Int32) : RS := fX5_readNot_b2 rE  FU M x1 0
theorem SX5_readNot (dE : Nat) (hD : 3 ≤ dE) (rE : Mem → Int32 → RS) (hE : ∀ (M : Mem) (x1 : Int32), CTO dE miX5_readExpr 0 0 [.ref 17, .int x1] M (rE M x1)) (M : Mem) (x1 : Int32) : CTO (dE + 5) miX5_readNot 0 0 [.ref 17, .int x1] M (fX5_readNot rE  M x1) := by
  refine CTO.of (by decide) (by simp [lg_sl, Value.category]) ?_
  show GO miX5_readNot (dE + 5) 0 0 0 0 0 [(0, .ref 17), (1, .int x1)] [] M (fX5_readNot_b2 rE  FU M x1 0)
  refine g_iconst (v := 0) (by decide) dX5_readNot_0 ?_
  refine g_istore_n (L' := [(2, .int 0), (0, .ref 17), (1, .int x1)]) (by decide) rfl rfl dX5_readNot_1 ?_
  exact GO.pick [1, 2, 0] rfl <| SX5_readNot_b2 dE hD rE hE  FU M x1 0
def fX5_readAnd_b7 (rE : Mem → Int32 → RS) : Nat → Mem → Int32 → Int32 → RS
  | 0 => fun _ _ _ => none
  | n + 1 => fun M x1 x2 => if x2 < 700 then if (gi M 17 6) = 0 then if (gi M 17 5) = 135 then bV (fX5_advance M) (fun M3 => bV (fX5_readNot rE M3 x1) (fun M5 => bV (fX6_add (ruA (gb M5 3) (gb M5 4)) M5 (-2)) (fun M7 => (fX5_readAnd_b7 rE n) M7 x1 (x2 + 1)))) else some (M, .inr none) else some (M, .inr none) else some (M, .inr none)
theorem SX5_readAnd_b7 (dE : Nat) (hD : 3 ≤ dE) (rE : Mem → Int32 → RS) (hE : ∀ (M : Mem) (x1 : Int32), CTO dE miX5_readExpr 0 0 [.ref 17, .int x1] M (rE M x1)) (n : Nat) : ∀ (M : Mem) (x1 : Int32) (x2 : Int32), GO miX5_readAnd (dE + 6) 0 0 0 0 7 [(0, .ref 17), (1, .int x1), (2, .int x2)] [] M (fX5_readAnd_b7 rE n M x1 x2) := by
  induction n with
  | zero => intro M x1 x2 ; exact GO.none
  | succ n hrec7 =>
    intro M x1 x2 
    show GO miX5_readAnd (dE + 6) 0 0 0 0 7 [(0, .ref 17), (1, .int x1), (2, .int x2)] [] M (if x2 < 700 then if (gi M 17 6) = 0 then if (gi M 17 5) = 135 then bV (fX5_advance M) (fun M3 => bV (fX5_readNot rE M3 x1) (fun M5 => bV (fX6_add (ruA (gb M5 3) (gb M5 4)) M5 (-2)) (fun M7 => (fX5_readAnd_b7 rE n) M7 x1 (x2 + 1)))) else some (M, .inr none) else some (M, .inr none) else some (M, .inr none))
    refine g_iload_n 2 rfl rfl dX5_readAnd_7 ?_
    refine g_sipush (v := 700) (by decide) dX5_readAnd_8 ?_
    refine g_icmp_ge (tgt := 55) rfl dX5_readAnd_11 (fun c => ?_) (fun c => ?_)
    · exact g_vreturn rfl (by decide) (by decide) dX5_readAnd_55
    · refine g_aload_n 0 rfl rfl dX5_readAnd_14 ?_
      refine g_getI (k := 6) clX5 kd_17 (by decide) rfl flX5_40 dX5_readAnd_15 ?_
      refine g_if_ne (tgt := 55) rfl dX5_readAnd_18 (fun c => ?_) (fun c => ?_)
      · exact g_vreturn rfl (by decide) (by decide) dX5_readAnd_55
      · refine g_aload_n 0 rfl rfl dX5_readAnd_21 ?_
        refine g_getI (k := 5) clX5 kd_17 (by decide) rfl flX5_54 dX5_readAnd_22 ?_
        refine g_sipush (v := 135) (by decide) dX5_readAnd_25 ?_
        refine g_icmp_ne (tgt := 55) rfl dX5_readAnd_28 (fun c => ?_) (fun c => ?_)
        · exact g_vreturn rfl (by decide) (by decide) dX5_readAnd_55
        · refine g_aload_n 0 rfl rfl dX5_readAnd_31 ?_
          refine g_callVV (y := miX5_advance) (As := []) (rest := []) clX5 kd_17 rfl moX5_advance rfl mlX5_96 (by first | decide | omega) (by decide) (by simp [Value.category]) rfl dX5_readAnd_32 (SX5_advance  M) (fun M3 => ?_)
          refine g_aload_n 0 rfl rfl dX5_readAnd_35 ?_
          refine g_iload_n 1 rfl rfl dX5_readAnd_36 ?_
          refine g_callVV (y := miX5_readNot) (As := [.int x1]) (rest := []) clX5 kd_17 rfl moX5_readNot rfl mlX5_168 (by first | decide | omega) (by decide) (by simp [Value.category]) rfl dX5_readAnd_37 (SX5_readNot dE hD rE hE  M3 x1) (fun M5 => ?_)
          refine g_aload_n 0 rfl rfl dX5_readAnd_40 ?_
          refine g_getR (k := 2) (b := (ruA (gb M5 3) (gb M5 4))) clX5 kd_17 (by decide) rfl rfl flX5_34 dX5_readAnd_41 ?_
          refine g_bipush (v := (-2)) (by decide) dX5_readAnd_44 ?_
          refine g_callVV (y := miX6_add) (As := [.int (-2)]) (rest := []) clX6 (kv_d11_14_32_35_0 _ (ruA_dom _ _)) rfl moX6_add rfl mlX5_165 (by first | decide | omega) (by decide) (by simp [Value.category]) rfl dX5_readAnd_46 (SX6_add (ruA (gb M5 3) (gb M5 4)) (ruA_dom _ _) M5 (-2)) (fun M7 => ?_)
          refine g_iinc (v := x2 + 1) (L' := [(2, .int (x2 + 1)), (0, .ref 17), (1, .int x1)]) 2 rfl rfl (by decide) rfl dX5_readAnd_49 ?_
          refine g_goto (tgt := 7) rfl dX5_readAnd_52 ?_
          exact GO.pick [1, 2, 0] rfl <| hrec7 M7 x1 (x2 + 1)
def fX5_readAnd (rE : Mem → Int32 → RS) (M : Mem) (x1 : Int32) : RS := bV (fX5_readNot rE M x1) (fun M1 => fX5_readAnd_b7 rE  FU M1 x1 0)
theorem SX5_readAnd (dE : Nat) (hD : 3 ≤ dE) (rE : Mem → Int32 → RS) (hE : ∀ (M : Mem) (x1 : Int32), CTO dE miX5_readExpr 0 0 [.ref 17, .int x1] M (rE M x1)) (M : Mem) (x1 : Int32) : CTO (dE + 6) miX5_readAnd 0 0 [.ref 17, .int x1] M (fX5_readAnd rE  M x1) := by
  refine CTO.of (by decide) (by simp [lg_sl, Value.category]) ?_
  show GO miX5_readAnd (dE + 6) 0 0 0 0 0 [(0, .ref 17), (1, .int x1)] [] M (bV (fX5_readNot rE M x1) (fun M1 => fX5_readAnd_b7 rE  FU M1 x1 0))
  refine g_aload_n 0 rfl rfl dX5_readAnd_0 ?_
  refine g_iload_n 1 rfl rfl dX5_readAnd_1 ?_
  refine g_callVV (y := miX5_readNot) (As := [.int x1]) (rest := []) clX5 kd_17 rfl moX5_readNot rfl mlX5_168 (by first | decide | omega) (by decide) (by simp [Value.category]) rfl dX5_readAnd_2 (SX5_readNot dE hD rE hE  M x1) (fun M1 => ?_)
  refine g_iconst (v := 0) (by decide) dX5_readAnd_5 ?_
  refine g_istore_n (L' := [(2, .int 0), (0, .ref 17), (1, .int x1)]) (by decide) rfl rfl dX5_readAnd_6 ?_
  exact GO.pick [1, 2, 0] rfl <| SX5_readAnd_b7 dE hD rE hE  FU M1 x1 0
def fX5_readExpr_b19 (rE : Mem → Int32 → RS) (M : Mem) (s0 : Int32) : RS := bV (fX5_refuseAs M s0) (fun M11 => some (M11, .inr none))
theorem SX5_readExpr_b19 (dE : Nat) (hD : 3 ≤ dE) (rE : Mem → Int32 → RS) (hE : ∀ (M : Mem) (x1 : Int32), CTO dE miX5_readExpr 0 0 [.ref 17, .int x1] M (rE M x1)) (M : Mem) (s0 : Int32) : GO miX5_readExpr (dE + 7) 0 0 0 0 19 [] [.int s0, .ref 17] M (fX5_readExpr_b19 rE M s0) := by
  show GO miX5_readExpr (dE + 7) 0 0 0 0 19 [] [.int s0, .ref 17] M (bV (fX5_refuseAs M s0) (fun M11 => some (M11, .inr none)))
  refine g_callVV (y := miX5_refuseAs) (As := [.int s0]) (rest := []) clX5 kd_17 rfl moX5_refuseAs rfl mlX5_87 (by first | decide | omega) (by decide) (by simp [Value.category]) rfl dX5_readExpr_19 (SX5_refuseAs  M s0) (fun M11 => ?_)
  exact g_vreturn rfl (by decide) (by decide) dX5_readExpr_22
def fX5_readExpr_b30 (rE : Mem → Int32 → RS) : Nat → Mem → Int32 → Int32 → RS
  | 0 => fun _ _ _ => none
  | n + 1 => fun M x1 x2 => if x2 < 700 then if (gi M 17 6) = 0 then if (gi M 17 5) = 134 then bV (fX5_advance M) (fun M5 => bV (fX5_readAnd rE M5 x1) (fun M7 => bV (fX6_add (ruA (gb M7 3) (gb M7 4)) M7 (-1)) (fun M9 => (fX5_readExpr_b30 rE n) M9 x1 (x2 + 1)))) else some (M, .inr none) else some (M, .inr none) else some (M, .inr none)
theorem SX5_readExpr_b30 (dE : Nat) (hD : 3 ≤ dE) (rE : Mem → Int32 → RS) (hE : ∀ (M : Mem) (x1 : Int32), CTO dE miX5_readExpr 0 0 [.ref 17, .int x1] M (rE M x1)) (n : Nat) : ∀ (M : Mem) (x1 : Int32) (x2 : Int32), GO miX5_readExpr (dE + 7) 0 0 0 0 30 [(0, .ref 17), (1, .int x1), (2, .int x2)] [] M (fX5_readExpr_b30 rE n M x1 x2) := by
  induction n with
  | zero => intro M x1 x2 ; exact GO.none
  | succ n hrec30 =>
    intro M x1 x2 
    show GO miX5_readExpr (dE + 7) 0 0 0 0 30 [(0, .ref 17), (1, .int x1), (2, .int x2)] [] M (if x2 < 700 then if (gi M 17 6) = 0 then if (gi M 17 5) = 134 then bV (fX5_advance M) (fun M5 => bV (fX5_readAnd rE M5 x1) (fun M7 => bV (fX6_add (ruA (gb M7 3) (gb M7 4)) M7 (-1)) (fun M9 => (fX5_readExpr_b30 rE n) M9 x1 (x2 + 1)))) else some (M, .inr none) else some (M, .inr none) else some (M, .inr none))
    refine g_iload_n 2 rfl rfl dX5_readExpr_30 ?_
    refine g_sipush (v := 700) (by decide) dX5_readExpr_31 ?_
    refine g_icmp_ge (tgt := 77) rfl dX5_readExpr_34 (fun c => ?_) (fun c => ?_)
    · exact g_vreturn rfl (by decide) (by decide) dX5_readExpr_77
    · refine g_aload_n 0 rfl rfl dX5_readExpr_37 ?_
      refine g_getI (k := 6) clX5 kd_17 (by decide) rfl flX5_40 dX5_readExpr_38 ?_
      refine g_if_ne (tgt := 77) rfl dX5_readExpr_41 (fun c => ?_) (fun c => ?_)
      · exact g_vreturn rfl (by decide) (by decide) dX5_readExpr_77
      · refine g_aload_n 0 rfl rfl dX5_readExpr_44 ?_
        refine g_getI (k := 5) clX5 kd_17 (by decide) rfl flX5_54 dX5_readExpr_45 ?_
        refine g_sipush (v := 134) (by decide) dX5_readExpr_48 ?_
        refine g_icmp_ne (tgt := 77) rfl dX5_readExpr_51 (fun c => ?_) (fun c => ?_)
        · exact g_vreturn rfl (by decide) (by decide) dX5_readExpr_77
        · refine g_aload_n 0 rfl rfl dX5_readExpr_54 ?_
          refine g_callVV (y := miX5_advance) (As := []) (rest := []) clX5 kd_17 rfl moX5_advance rfl mlX5_96 (by first | decide | omega) (by decide) (by simp [Value.category]) rfl dX5_readExpr_55 (SX5_advance  M) (fun M5 => ?_)
          refine g_aload_n 0 rfl rfl dX5_readExpr_58 ?_
          refine g_iload_n 1 rfl rfl dX5_readExpr_59 ?_
          refine g_callVV (y := miX5_readAnd) (As := [.int x1]) (rest := []) clX5 kd_17 rfl moX5_readAnd rfl mlX5_162 (by first | decide | omega) (by decide) (by simp [Value.category]) rfl dX5_readExpr_60 (SX5_readAnd dE hD rE hE  M5 x1) (fun M7 => ?_)
          refine g_aload_n 0 rfl rfl dX5_readExpr_63 ?_
          refine g_getR (k := 2) (b := (ruA (gb M7 3) (gb M7 4))) clX5 kd_17 (by decide) rfl rfl flX5_34 dX5_readExpr_64 ?_
          refine g_iconst (v := (-1)) (by decide) dX5_readExpr_67 ?_
          refine g_callVV (y := miX6_add) (As := [.int (-1)]) (rest := []) clX6 (kv_d11_14_32_35_0 _ (ruA_dom _ _)) rfl moX6_add rfl mlX5_165 (by first | decide | omega) (by decide) (by simp [Value.category]) rfl dX5_readExpr_68 (SX6_add (ruA (gb M7 3) (gb M7 4)) (ruA_dom _ _) M7 (-1)) (fun M9 => ?_)
          refine g_iinc (v := x2 + 1) (L' := [(2, .int (x2 + 1)), (0, .ref 17), (1, .int x1)]) 2 rfl rfl (by decide) rfl dX5_readExpr_71 ?_
          refine g_goto (tgt := 30) rfl dX5_readExpr_74 ?_
          exact GO.pick [1, 2, 0] rfl <| hrec30 M9 x1 (x2 + 1)
def fX5_readExprF (rE : Mem → Int32 → RS) (M : Mem) (x1 : Int32) : RS := if x1 < 6 then bV (fX5_readAnd rE M x1) (fun M1 => fX5_readExpr_b30 rE  FU M1 x1 0) else bI (fX5_mayBeginExpr M) (fun M3 v4 => if v4 = 0 then fX5_readExpr_b19 rE  M3 1 else fX5_readExpr_b19 rE  M3 2)
theorem SX5_readExprF (dE : Nat) (hD : 3 ≤ dE) (rE : Mem → Int32 → RS) (hE : ∀ (M : Mem) (x1 : Int32), CTO dE miX5_readExpr 0 0 [.ref 17, .int x1] M (rE M x1)) (M : Mem) (x1 : Int32) : CTO (dE + 7) miX5_readExpr 0 0 [.ref 17, .int x1] M (fX5_readExprF rE  M x1) := by
  refine CTO.of (by decide) (by simp [lg_sl, Value.category]) ?_
  show GO miX5_readExpr (dE + 7) 0 0 0 0 0 [(0, .ref 17), (1, .int x1)] [] M (if x1 < 6 then bV (fX5_readAnd rE M x1) (fun M1 => fX5_readExpr_b30 rE  FU M1 x1 0) else bI (fX5_mayBeginExpr M) (fun M3 v4 => if v4 = 0 then fX5_readExpr_b19 rE  M3 1 else fX5_readExpr_b19 rE  M3 2))
  refine g_iload_n 1 rfl rfl dX5_readExpr_0 ?_
  refine g_bipush (v := 6) (by decide) dX5_readExpr_1 ?_
  refine g_icmp_lt (tgt := 23) rfl dX5_readExpr_3 (fun c => ?_) (fun c => ?_)
  · refine g_aload_n 0 rfl rfl dX5_readExpr_23 ?_
    refine g_iload_n 1 rfl rfl dX5_readExpr_24 ?_
    refine g_callVV (y := miX5_readAnd) (As := [.int x1]) (rest := []) clX5 kd_17 rfl moX5_readAnd rfl mlX5_162 (by first | decide | omega) (by decide) (by simp [Value.category]) rfl dX5_readExpr_25 (SX5_readAnd dE hD rE hE  M x1) (fun M1 => ?_)
    refine g_iconst (v := 0) (by decide) dX5_readExpr_28 ?_
    refine g_istore_n (L' := [(2, .int 0), (0, .ref 17), (1, .int x1)]) (by decide) rfl rfl dX5_readExpr_29 ?_
    exact GO.pick [1, 2, 0] rfl <| SX5_readExpr_b30 dE hD rE hE  FU M1 x1 0
  · refine g_aload_n 0 rfl rfl dX5_readExpr_6 ?_
    refine g_aload_n 0 rfl rfl dX5_readExpr_7 ?_
    refine g_callVI (y := miX5_mayBeginExpr) (As := []) (rest := [.ref 17]) clX5 kd_17 rfl moX5_mayBeginExpr rfl mlX5_159 (by first | decide | omega) (by decide) (by simp [Value.category]) rfl dX5_readExpr_8 (SX5_mayBeginExpr  M) (fun M3 v4 => ?_)
    refine g_if_eq (tgt := 18) rfl dX5_readExpr_11 (fun c => ?_) (fun c => ?_)
    · refine g_iconst (v := 1) (by decide) dX5_readExpr_18 ?_
      exact GO.pick [] rfl <| SX5_readExpr_b19 dE hD rE hE  M3 1
    · refine g_iconst (v := 2) (by decide) dX5_readExpr_14 ?_
      refine g_goto (tgt := 19) rfl dX5_readExpr_15 ?_
      exact GO.pick [] rfl <| SX5_readExpr_b19 dE hD rE hE  M3 2
def fX5_readExpr : Nat → Mem → Int32 → RS
  | 0 => fun _ _ => none
  | n + 1 => fun M x1 => fX5_readExprF (fX5_readExpr n) M x1
theorem SX5_readExpr (n : Nat) : ∀ (M : Mem) (x1 : Int32), CTO (3 + 7 * n) miX5_readExpr 0 0 [.ref 17, .int x1] M (fX5_readExpr n M x1) := by
  induction n with
  | zero => intro M x1 M1 r e; cases e
  | succ n ih =>
    intro M x1
    exact SX5_readExprF (3 + 7 * n) (by omega) (fX5_readExpr n) ih M x1
def fX5_readRule (a1 : Nat) (M : Mem) (x2 : Int32) : RS := bI (fX6_isTold a1 M) (fun M1 v2 => if v2 = 0 then bV (fX5_advance M1) (fun M3 => wr (sb (sb M3 3 (ruB1 a1)) 4 (ruB2 a1)) (fun M5 => wr (si M5 17 3 x2) (fun M6 => bV (fX5_readExpr FR M6 0) (fun M7 => some (M7, .inr none))))) else bV (fX5_refuseAs M1 5) (fun M9 => some (M9, .inr none)))
theorem SX5_readRule (a1 : Nat) (h1 : a1 ∈ [11, 14, 32, 35]) (M : Mem) (x2 : Int32) : CTO (74) miX5_readRule 0 0 [.ref 17, .ref a1, .int x2] M (fX5_readRule a1 M x2) := by
  refine CTO.of (by decide) (by simp [lg_sl, Value.category]) ?_
  show GO miX5_readRule (74) 0 0 0 0 0 [(0, .ref 17), (1, .ref a1), (2, .int x2)] [] M (bI (fX6_isTold a1 M) (fun M1 v2 => if v2 = 0 then bV (fX5_advance M1) (fun M3 => wr (sb (sb M3 3 (ruB1 a1)) 4 (ruB2 a1)) (fun M5 => wr (si M5 17 3 x2) (fun M6 => bV (fX5_readExpr FR M6 0) (fun M7 => some (M7, .inr none))))) else bV (fX5_refuseAs M1 5) (fun M9 => some (M9, .inr none))))
  refine g_aload_n 1 rfl rfl dX5_readRule_0 ?_
  refine g_callVI (y := miX6_isTold) (As := []) (rest := []) clX6 (kv_d11_14_32_35_0 _ h1) rfl moX6_isTold rfl mlX5_145 (by first | decide | omega) (by decide) (by simp [Value.category]) rfl dX5_readRule_1 (SX6_isTold a1 h1 M) (fun M1 v2 => ?_)
  refine g_if_eq (tgt := 13) rfl dX5_readRule_4 (fun c => ?_) (fun c => ?_)
  · refine g_aload_n 0 rfl rfl dX5_readRule_13 ?_
    refine g_callVV (y := miX5_advance) (As := []) (rest := []) clX5 kd_17 rfl moX5_advance rfl mlX5_96 (by first | decide | omega) (by decide) (by simp [Value.category]) rfl dX5_readRule_14 (SX5_advance  M1) (fun M3 => ?_)
    refine g_aload_n 0 rfl rfl dX5_readRule_17 ?_
    refine g_aload_n 1 rfl rfl dX5_readRule_18 ?_
    refine g_putR_X5_rule h1 flX5_34 dX5_readRule_19 ?_
    refine GO.wr (fun M5 => ?_)
    refine g_aload_n 0 rfl rfl dX5_readRule_22 ?_
    refine g_iload_n 2 rfl rfl dX5_readRule_23 ?_
    refine g_putI (k := 3) clX5 kd_17 (by decide) rfl (by decide) rfl flX5_150 dX5_readRule_24 ?_
    refine GO.wr (fun M6 => ?_)
    refine g_aload_n 0 rfl rfl dX5_readRule_27 ?_
    refine g_iconst (v := 0) (by decide) dX5_readRule_28 ?_
    refine g_callVV (y := miX5_readExpr) (As := [.int 0]) (rest := []) clX5 kd_17 rfl moX5_readExpr rfl mlX5_153 (by first | decide | omega) (by decide) (by simp [Value.category]) rfl dX5_readRule_29 (SX5_readExpr FR  M6 0) (fun M7 => ?_)
    exact g_vreturn rfl (by decide) (by decide) dX5_readRule_32
  · refine g_aload_n 0 rfl rfl dX5_readRule_7 ?_
    refine g_iconst (v := 5) (by decide) dX5_readRule_8 ?_
    refine g_callVV (y := miX5_refuseAs) (As := [.int 5]) (rest := []) clX5 kd_17 rfl moX5_refuseAs rfl mlX5_87 (by first | decide | omega) (by decide) (by simp [Value.category]) rfl dX5_readRule_9 (SX5_refuseAs  M1 5) (fun M9 => ?_)
    exact g_vreturn rfl (by decide) (by decide) dX5_readRule_12
def fX5_readLine_b163 (M : Mem)  : RS := bV (fX5_readSign M 59) (fun M17 => some (M17, .inr none))
theorem SX5_readLine_b163 (M : Mem)  : GO miX5_readLine (75) 0 0 0 0 163 [(0, .ref 17)] [] M (fX5_readLine_b163 M ) := by
  show GO miX5_readLine (75) 0 0 0 0 163 [(0, .ref 17)] [] M (bV (fX5_readSign M 59) (fun M17 => some (M17, .inr none)))
  refine g_aload_n 0 rfl rfl dX5_readLine_163 ?_
  refine g_bipush (v := 59) (by decide) dX5_readLine_164 ?_
  refine g_callVV (y := miX5_readSign) (As := [.int 59]) (rest := []) clX5 kd_17 rfl moX5_readSign rfl mlX5_90 (by first | decide | omega) (by decide) (by simp [Value.category]) rfl dX5_readLine_166 (SX5_readSign  M 59) (fun M17 => ?_)
  exact g_vreturn rfl (by decide) (by decide) dX5_readLine_169
def fX5_readLine (M : Mem)  : RS := if (gi M 17 5) = 128 then bV (fX5_readHouse M) (fun M1 => fX5_readLine_b163  M1) else if (gi M 17 5) = 129 then bV (fX5_readPlot M) (fun M3 => fX5_readLine_b163  M3) else if (gi M 17 5) = 130 then bV (fX5_readMarket M) (fun M5 => fX5_readLine_b163  M5) else if (gi M 17 5) = 131 then bV (fX5_readEats M) (fun M7 => fX5_readLine_b163  M7) else if (gi M 17 5) = 132 then bV (fX5_readRule ((isA (gb M 2)) + 8) M 5) (fun M9 => fX5_readLine_b163  M9) else if (gi M 17 5) = 133 then bV (fX5_readRule ((isA (gb M 2)) + 11) M 7) (fun M11 => fX5_readLine_b163  M11) else if (gi M 17 5) = 145 then bV (fX5_readRain M) (fun M13 => fX5_readLine_b163  M13) else bV (fX5_refuseAs M 1) (fun M15 => fX5_readLine_b163  M15)
theorem SX5_readLine (M : Mem)  : CTO (75) miX5_readLine 0 0 [.ref 17] M (fX5_readLine  M ) := by
  refine CTO.of (by decide) (by simp [lg_sl, Value.category]) ?_
  show GO miX5_readLine (75) 0 0 0 0 0 [(0, .ref 17)] [] M (if (gi M 17 5) = 128 then bV (fX5_readHouse M) (fun M1 => fX5_readLine_b163  M1) else if (gi M 17 5) = 129 then bV (fX5_readPlot M) (fun M3 => fX5_readLine_b163  M3) else if (gi M 17 5) = 130 then bV (fX5_readMarket M) (fun M5 => fX5_readLine_b163  M5) else if (gi M 17 5) = 131 then bV (fX5_readEats M) (fun M7 => fX5_readLine_b163  M7) else if (gi M 17 5) = 132 then bV (fX5_readRule ((isA (gb M 2)) + 8) M 5) (fun M9 => fX5_readLine_b163  M9) else if (gi M 17 5) = 133 then bV (fX5_readRule ((isA (gb M 2)) + 11) M 7) (fun M11 => fX5_readLine_b163  M11) else if (gi M 17 5) = 145 then bV (fX5_readRain M) (fun M13 => fX5_readLine_b163  M13) else bV (fX5_refuseAs M 1) (fun M15 => fX5_readLine_b163  M15))
  refine g_aload_n 0 rfl rfl dX5_readLine_0 ?_
  refine g_getI (k := 5) clX5 kd_17 (by decide) rfl flX5_54 dX5_readLine_1 ?_
  refine g_tabI (tgt := 92) (off := 88) 128 rfl (by decide) (by decide) (by decide) dX5_readLine_4 ?_ (fun c128 => ?_)
  · refine g_aload_n 0 rfl rfl dX5_readLine_92 ?_
    refine g_callVV (y := miX5_readHouse) (As := []) (rest := []) clX5 kd_17 rfl moX5_readHouse rfl mlX5_63 (by first | decide | omega) (by decide) (by simp [Value.category]) rfl dX5_readLine_93 (SX5_readHouse  M) (fun M1 => ?_)
    refine g_goto (tgt := 163) rfl dX5_readLine_96 ?_
    exact GO.pick [0] rfl <| SX5_readLine_b163  M1
  refine g_tabI (tgt := 99) (off := 95) 129 rfl (by decide) (by decide) (by decide) dX5_readLine_4 ?_ (fun c129 => ?_)
  · refine g_aload_n 0 rfl rfl dX5_readLine_99 ?_
    refine g_callVV (y := miX5_readPlot) (As := []) (rest := []) clX5 kd_17 rfl moX5_readPlot rfl mlX5_66 (by first | decide | omega) (by decide) (by simp [Value.category]) rfl dX5_readLine_100 (SX5_readPlot  M) (fun M3 => ?_)
    refine g_goto (tgt := 163) rfl dX5_readLine_103 ?_
    exact GO.pick [0] rfl <| SX5_readLine_b163  M3
  refine g_tabI (tgt := 106) (off := 102) 130 rfl (by decide) (by decide) (by decide) dX5_readLine_4 ?_ (fun c130 => ?_)
  · refine g_aload_n 0 rfl rfl dX5_readLine_106 ?_
    refine g_callVV (y := miX5_readMarket) (As := []) (rest := []) clX5 kd_17 rfl moX5_readMarket rfl mlX5_69 (by first | decide | omega) (by decide) (by simp [Value.category]) rfl dX5_readLine_107 (SX5_readMarket  M) (fun M5 => ?_)
    refine g_goto (tgt := 163) rfl dX5_readLine_110 ?_
    exact GO.pick [0] rfl <| SX5_readLine_b163  M5
  refine g_tabI (tgt := 120) (off := 116) 131 rfl (by decide) (by decide) (by decide) dX5_readLine_4 ?_ (fun c131 => ?_)
  · refine g_aload_n 0 rfl rfl dX5_readLine_120 ?_
    refine g_callVV (y := miX5_readEats) (As := []) (rest := []) clX5 kd_17 rfl moX5_readEats rfl mlX5_75 (by first | decide | omega) (by decide) (by simp [Value.category]) rfl dX5_readLine_121 (SX5_readEats  M) (fun M7 => ?_)
    refine g_goto (tgt := 163) rfl dX5_readLine_124 ?_
    exact GO.pick [0] rfl <| SX5_readLine_b163  M7
  refine g_tabI (tgt := 127) (off := 123) 132 rfl (by decide) (by decide) (by decide) dX5_readLine_4 ?_ (fun c132 => ?_)
  · refine g_aload_n 0 rfl rfl dX5_readLine_127 ?_
    refine g_aload_n 0 rfl rfl dX5_readLine_128 ?_
    refine g_getR (k := 1) (b := (isA (gb M 2))) clX5 kd_17 (by decide) rfl rfl flX5_24 dX5_readLine_129 ?_
    refine g_getR (k := 7) (b := ((isA (gb M 2)) + 8)) clX2 (kv_d3_24_0 _ (isA_dom _)) (by decide) rfl rfl flX5_28 dX5_readLine_132 ?_
    refine g_iconst (v := 5) (by decide) dX5_readLine_135 ?_
    refine g_callVV (y := miX5_readRule) (As := [.ref ((isA (gb M 2)) + 8), .int 5]) (rest := []) clX5 kd_17 rfl moX5_readRule rfl mlX5_80 (by first | decide | omega) (by decide) (by simp [Value.category]) rfl dX5_readLine_136 (SX5_readRule ((isA (gb M 2)) + 8) (sub_d11_32_d11_14_32_35 _ (ku_d3_24_8 _ (isA_dom _))) M 5) (fun M9 => ?_)
    refine g_goto (tgt := 163) rfl dX5_readLine_139 ?_
    exact GO.pick [0] rfl <| SX5_readLine_b163  M9
  refine g_tabI (tgt := 142) (off := 138) 133 rfl (by decide) (by decide) (by decide) dX5_readLine_4 ?_ (fun c133 => ?_)
  · refine g_aload_n 0 rfl rfl dX5_readLine_142 ?_
    refine g_aload_n 0 rfl rfl dX5_readLine_143 ?_
    refine g_getR (k := 1) (b := (isA (gb M 2))) clX5 kd_17 (by decide) rfl rfl flX5_24 dX5_readLine_144 ?_
    refine g_getR (k := 8) (b := ((isA (gb M 2)) + 11)) clX2 (kv_d3_24_0 _ (isA_dom _)) (by decide) rfl rfl flX5_84 dX5_readLine_147 ?_
    refine g_bipush (v := 7) (by decide) dX5_readLine_150 ?_
    refine g_callVV (y := miX5_readRule) (As := [.ref ((isA (gb M 2)) + 11), .int 7]) (rest := []) clX5 kd_17 rfl moX5_readRule rfl mlX5_80 (by first | decide | omega) (by decide) (by simp [Value.category]) rfl dX5_readLine_152 (SX5_readRule ((isA (gb M 2)) + 11) (sub_d14_35_d11_14_32_35 _ (ku_d3_24_11 _ (isA_dom _))) M 7) (fun M11 => ?_)
    refine g_goto (tgt := 163) rfl dX5_readLine_155 ?_
    exact GO.pick [0] rfl <| SX5_readLine_b163  M11
  refine g_tabI (tgt := 113) (off := 109) 145 rfl (by decide) (by decide) (by decide) dX5_readLine_4 ?_ (fun c145 => ?_)
  · refine g_aload_n 0 rfl rfl dX5_readLine_113 ?_
    refine g_callVV (y := miX5_readRain) (As := []) (rest := []) clX5 kd_17 rfl moX5_readRain rfl mlX5_72 (by first | decide | omega) (by decide) (by simp [Value.category]) rfl dX5_readLine_114 (SX5_readRain  M) (fun M13 => ?_)
    refine g_goto (tgt := 163) rfl dX5_readLine_117 ?_
    exact GO.pick [0] rfl <| SX5_readLine_b163  M13
  refine g_tabZ (tgt := 158) [128, 129, 130, 131, 132, 133, 145] (List.forall_mem_cons.mpr ⟨c128, (List.forall_mem_cons.mpr ⟨c129, (List.forall_mem_cons.mpr ⟨c130, (List.forall_mem_cons.mpr ⟨c131, (List.forall_mem_cons.mpr ⟨c132, (List.forall_mem_cons.mpr ⟨c133, (List.forall_mem_cons.mpr ⟨c145, (fun _ h => absurd h List.not_mem_nil)⟩)⟩)⟩)⟩)⟩)⟩)⟩) rfl dX5_readLine_4 (by decide) (by decide) ?_
  refine g_aload_n 0 rfl rfl dX5_readLine_158 ?_
  refine g_iconst (v := 1) (by decide) dX5_readLine_159 ?_
  refine g_callVV (y := miX5_refuseAs) (As := [.int 1]) (rest := []) clX5 kd_17 rfl moX5_refuseAs rfl mlX5_87 (by first | decide | omega) (by decide) (by simp [Value.category]) rfl dX5_readLine_160 (SX5_refuseAs  M 1) (fun M15 => ?_)
  exact GO.pick [0] rfl <| SX5_readLine_b163  M15
def fX10_isDigit (M : Mem) (x1 : Int32) : RS := if x1 < (gi M 18 4) then chk (inb x1 700) (if (gi M 2 (ix x1)) < 48 then some (M, .inr (some (.int 0))) else chk (inb x1 700) (if 57 < (gi M 2 (ix x1)) then some (M, .inr (some (.int 0))) else some (M, .inr (some (.int 1))))) else some (M, .inr (some (.int 0)))
theorem SX10_isDigit (M : Mem) (x1 : Int32) : CTO (0) miX10_isDigit 0 0 [.ref 18, .int x1] M (fX10_isDigit  M x1) := by
  refine CTO.of (by decide) (by simp [lg_sl, Value.category]) ?_
  show GO miX10_isDigit (0) 0 0 0 0 0 [(0, .ref 18), (1, .int x1)] [] M (if x1 < (gi M 18 4) then chk (inb x1 700) (if (gi M 2 (ix x1)) < 48 then some (M, .inr (some (.int 0))) else chk (inb x1 700) (if 57 < (gi M 2 (ix x1)) then some (M, .inr (some (.int 0))) else some (M, .inr (some (.int 1))))) else some (M, .inr (some (.int 0))))
  refine g_iload_n 1 rfl rfl dX10_isDigit_0 ?_
  refine g_aload_n 0 rfl rfl dX10_isDigit_1 ?_
  refine g_getI (k := 4) clX10 kd_18 (by decide) rfl flX10_36 dX10_isDigit_2 ?_
  refine g_icmp_ge (tgt := 34) rfl dX10_isDigit_5 (fun c => ?_) (fun c => ?_)
  · refine g_iconst (v := 0) (by decide) dX10_isDigit_34 ?_
    exact g_zreturn rfl (by decide) (by decide) dX10_isDigit_35 (by decide)
  · refine g_aload_n 0 rfl rfl dX10_isDigit_8 ?_
    refine g_getR (k := 0) (b := 2) clX10 kd_18 (by decide) rfl rfl flX10_29 dX10_isDigit_9 ?_
    refine g_iload_n 1 rfl rfl dX10_isDigit_12 ?_
    refine g_bald kd_2 dX10_isDigit_13 (fun hi1 => ?_)
    refine g_bipush (v := 48) (by decide) dX10_isDigit_14 ?_
    refine g_icmp_lt (tgt := 34) rfl dX10_isDigit_16 (fun c => ?_) (fun c => ?_)
    · refine g_iconst (v := 0) (by decide) dX10_isDigit_34 ?_
      exact g_zreturn rfl (by decide) (by decide) dX10_isDigit_35 (by decide)
    · refine g_aload_n 0 rfl rfl dX10_isDigit_19 ?_
      refine g_getR (k := 0) (b := 2) clX10 kd_18 (by decide) rfl rfl flX10_29 dX10_isDigit_20 ?_
      refine g_iload_n 1 rfl rfl dX10_isDigit_23 ?_
      refine g_bald kd_2 dX10_isDigit_24 (fun hi2 => ?_)
      refine g_bipush (v := 57) (by decide) dX10_isDigit_25 ?_
      refine g_icmp_gt (tgt := 34) rfl dX10_isDigit_27 (fun c => ?_) (fun c => ?_)
      · refine g_iconst (v := 0) (by decide) dX10_isDigit_34 ?_
        exact g_zreturn rfl (by decide) (by decide) dX10_isDigit_35 (by decide)
      · refine g_iconst (v := 1) (by decide) dX10_isDigit_30 ?_
        refine g_goto (tgt := 35) rfl dX10_isDigit_31 ?_
        exact g_zreturn rfl (by decide) (by decide) dX10_isDigit_35 (by decide)
def fX10_cutNumber_b49 (rec4 : Mem → Int32 → Int32 → RS) (M : Mem) (x1 : Int32) (x2 : Int32) : RS := wr (si M 18 5 ((gi M 18 5) + 1)) (fun M4 => rec4 M4 (x1 + 1) x2)
theorem SX10_cutNumber_b49 (rec4 : Mem → Int32 → Int32 → RS) (hrec4 : ∀ (M : Mem) (x1 : Int32) (x2 : Int32), GO miX10_cutNumber (1) 0 0 0 0 4 [(0, .ref 18), (1, .int x1), (2, .int x2)] [] M (rec4 M x1 x2)) (M : Mem) (x1 : Int32) (x2 : Int32) : GO miX10_cutNumber (1) 0 0 0 0 49 [(0, .ref 18), (1, .int x1), (2, .int x2)] [] M (fX10_cutNumber_b49 rec4 M x1 x2) := by
  show GO miX10_cutNumber (1) 0 0 0 0 49 [(0, .ref 18), (1, .int x1), (2, .int x2)] [] M (wr (si M 18 5 ((gi M 18 5) + 1)) (fun M4 => rec4 M4 (x1 + 1) x2))
  refine g_iinc (v := x1 + 1) (L' := [(1, .int (x1 + 1)), (0, .ref 18), (2, .int x2)]) 1 rfl rfl (by decide) rfl dX10_cutNumber_49 ?_
  refine g_aload_n 1 rfl rfl dX10_cutNumber_52 ?_
  refine g_dup_ref dX10_cutNumber_53 ?_
  refine g_getI (k := 5) clX10 kd_18 (by decide) rfl flX10_40 dX10_cutNumber_54 ?_
  refine g_iconst (v := 1) (by decide) dX10_cutNumber_57 ?_
  refine g_iadd dX10_cutNumber_58 ?_
  refine g_putI (k := 5) clX10 kd_18 (by decide) rfl (by decide) rfl flX10_40 dX10_cutNumber_59 ?_
  refine GO.wr (fun M4 => ?_)
  refine g_goto (tgt := 4) rfl dX10_cutNumber_62 ?_
  exact GO.pick [1, 0, 2] rfl <| hrec4 M4 (x1 + 1) x2
def fX10_cutNumber_b83 (M : Mem) (x2 : Int32) (s0 : Int32) (s1 : Int32) : RS := chk (inb s1 700) (wr (si M 19 (ix s1) s0) (fun M6 => chk (inb (gi M6 18 6) 700) (wr (si M6 21 (ix (gi M6 18 6)) x2) (fun M8 => some (M8, .inr none)))))
theorem SX10_cutNumber_b83 (M : Mem) (x2 : Int32) (s0 : Int32) (s1 : Int32) : GO miX10_cutNumber (1) 0 0 0 0 83 [(0, .ref 18), (2, .int x2)] [.int s0, .int s1, .ref 19] M (fX10_cutNumber_b83 M x2 s0 s1) := by
  show GO miX10_cutNumber (1) 0 0 0 0 83 [(0, .ref 18), (2, .int x2)] [.int s0, .int s1, .ref 19] M (chk (inb s1 700) (wr (si M 19 (ix s1) s0) (fun M6 => chk (inb (gi M6 18 6) 700) (wr (si M6 21 (ix (gi M6 18 6)) x2) (fun M8 => some (M8, .inr none))))))
  refine g_ast kd_19 dX10_cutNumber_83 (fun hi5 => ?_)
  refine GO.wr (fun M6 => ?_)
  refine g_aload_n 0 rfl rfl dX10_cutNumber_84 ?_
  refine g_getR (k := 3) (b := 21) clX10 kd_18 (by decide) rfl rfl flX10_20 dX10_cutNumber_85 ?_
  refine g_aload_n 0 rfl rfl dX10_cutNumber_88 ?_
  refine g_getI (k := 6) clX10 kd_18 (by decide) rfl flX10_43 dX10_cutNumber_89 ?_
  refine g_iload_n 1 rfl rfl dX10_cutNumber_92 ?_
  refine g_ast kd_21 dX10_cutNumber_93 (fun hi7 => ?_)
  refine GO.wr (fun M8 => ?_)
  exact g_vreturn rfl (by decide) (by decide) dX10_cutNumber_94
def fX10_cutNumber_b65 (M : Mem) (x1 : Int32) (x2 : Int32) : RS := if 4 < x1 then fX10_cutNumber_b83  M x2 2 (gi M 18 6) else fX10_cutNumber_b83  M x2 1 (gi M 18 6)
theorem SX10_cutNumber_b65 (M : Mem) (x1 : Int32) (x2 : Int32) : GO miX10_cutNumber (1) 0 0 0 0 65 [(0, .ref 18), (1, .int x1), (2, .int x2)] [] M (fX10_cutNumber_b65 M x1 x2) := by
  show GO miX10_cutNumber (1) 0 0 0 0 65 [(0, .ref 18), (1, .int x1), (2, .int x2)] [] M (if 4 < x1 then fX10_cutNumber_b83  M x2 2 (gi M 18 6) else fX10_cutNumber_b83  M x2 1 (gi M 18 6))
  refine g_aload_n 0 rfl rfl dX10_cutNumber_65 ?_
  refine g_getR (k := 1) (b := 19) clX10 kd_18 (by decide) rfl rfl flX10_13 dX10_cutNumber_66 ?_
  refine g_aload_n 0 rfl rfl dX10_cutNumber_69 ?_
  refine g_getI (k := 6) clX10 kd_18 (by decide) rfl flX10_43 dX10_cutNumber_70 ?_
  refine g_iload_n 1 rfl rfl dX10_cutNumber_73 ?_
  refine g_iconst (v := 4) (by decide) dX10_cutNumber_74 ?_
  refine g_icmp_le (tgt := 82) rfl dX10_cutNumber_75 (fun c => ?_) (fun c => ?_)
  · refine g_iconst (v := 1) (by decide) dX10_cutNumber_82 ?_
    exact GO.pick [0, 2] rfl <| SX10_cutNumber_b83  M x2 1 (gi M 18 6)
  · refine g_iconst (v := 2) (by decide) dX10_cutNumber_78 ?_
    refine g_goto (tgt := 83) rfl dX10_cutNumber_79 ?_
    exact GO.pick [0, 2] rfl <| SX10_cutNumber_b83  M x2 2 (gi M 18 6)
def fX10_cutNumber_b4 : Nat → Mem → Int32 → Int32 → RS
  | 0 => fun _ _ _ => none
  | n + 1 => fun M x1 x2 => if (gi M 18 5) < (gi M 18 4) then bI (fX10_isDigit M (gi M 18 5)) (fun M1 v2 => if v2 = 0 then fX10_cutNumber_b65  M1 x1 x2 else if x1 < 4 then chk (inb (gi M1 18 5) 700) (fX10_cutNumber_b49 (fX10_cutNumber_b4 n) M1 x1 (((10 * x2) + (gi M1 2 (ix (gi M1 18 5)))) - 48)) else fX10_cutNumber_b49 (fX10_cutNumber_b4 n) M1 x1 x2) else fX10_cutNumber_b65  M x1 x2
theorem SX10_cutNumber_b4 (n : Nat) : ∀ (M : Mem) (x1 : Int32) (x2 : Int32), GO miX10_cutNumber (1) 0 0 0 0 4 [(0, .ref 18), (1, .int x1), (2, .int x2)] [] M (fX10_cutNumber_b4 n M x1 x2) := by
  induction n with
  | zero => intro M x1 x2 ; exact GO.none
  | succ n hrec4 =>
    intro M x1 x2 
    show GO miX10_cutNumber (1) 0 0 0 0 4 [(0, .ref 18), (1, .int x1), (2, .int x2)] [] M (if (gi M 18 5) < (gi M 18 4) then bI (fX10_isDigit M (gi M 18 5)) (fun M1 v2 => if v2 = 0 then fX10_cutNumber_b65  M1 x1 x2 else if x1 < 4 then chk (inb (gi M1 18 5) 700) (fX10_cutNumber_b49 (fX10_cutNumber_b4 n) M1 x1 (((10 * x2) + (gi M1 2 (ix (gi M1 18 5)))) - 48)) else fX10_cutNumber_b49 (fX10_cutNumber_b4 n) M1 x1 x2) else fX10_cutNumber_b65  M x1 x2)
    refine g_aload_n 0 rfl rfl dX10_cutNumber_4 ?_
    refine g_getI (k := 5) clX10 kd_18 (by decide) rfl flX10_40 dX10_cutNumber_5 ?_
    refine g_aload_n 0 rfl rfl dX10_cutNumber_8 ?_
    refine g_getI (k := 4) clX10 kd_18 (by decide) rfl flX10_36 dX10_cutNumber_9 ?_
    refine g_icmp_ge (tgt := 65) rfl dX10_cutNumber_12 (fun c => ?_) (fun c => ?_)
    · exact GO.pick [0, 1, 2] rfl <| SX10_cutNumber_b65  M x1 x2
    · refine g_aload_n 0 rfl rfl dX10_cutNumber_15 ?_
      refine g_aload_n 0 rfl rfl dX10_cutNumber_16 ?_
      refine g_getI (k := 5) clX10 kd_18 (by decide) rfl flX10_40 dX10_cutNumber_17 ?_
      refine g_callVI (y := miX10_isDigit) (As := [.int (gi M 18 5)]) (rest := []) clX10 kd_18 rfl moX10_isDigit rfl mlX10_59 (by first | decide | omega) (by decide) (by simp [Value.category]) rfl dX10_cutNumber_20 (SX10_isDigit  M (gi M 18 5)) (fun M1 v2 => ?_)
      refine g_if_eq (tgt := 65) rfl dX10_cutNumber_23 (fun c => ?_) (fun c => ?_)
      · exact GO.pick [0, 1, 2] rfl <| SX10_cutNumber_b65  M1 x1 x2
      · refine g_iload_n 1 rfl rfl dX10_cutNumber_26 ?_
        refine g_iconst (v := 4) (by decide) dX10_cutNumber_27 ?_
        refine g_icmp_ge (tgt := 49) rfl dX10_cutNumber_28 (fun c => ?_) (fun c => ?_)
        · exact GO.pick [0, 1, 2] rfl <| SX10_cutNumber_b49  (fX10_cutNumber_b4 n) hrec4 M1 x1 x2
        · refine g_bipush (v := 10) (by decide) dX10_cutNumber_31 ?_
          refine g_iload_n 2 rfl rfl dX10_cutNumber_33 ?_
          refine g_imul dX10_cutNumber_34 ?_
          refine g_aload_n 0 rfl rfl dX10_cutNumber_35 ?_
          refine g_getR (k := 0) (b := 2) clX10 kd_18 (by decide) rfl rfl flX10_29 dX10_cutNumber_36 ?_
          refine g_aload_n 0 rfl rfl dX10_cutNumber_39 ?_
          refine g_getI (k := 5) clX10 kd_18 (by decide) rfl flX10_40 dX10_cutNumber_40 ?_
          refine g_bald kd_2 dX10_cutNumber_43 (fun hi3 => ?_)
          refine g_iadd dX10_cutNumber_44 ?_
          refine g_bipush (v := 48) (by decide) dX10_cutNumber_45 ?_
          refine g_isub dX10_cutNumber_47 ?_
          refine g_istore_n (L' := [(2, .int (((10 * x2) + (gi M1 2 (ix (gi M1 18 5)))) - 48)), (0, .ref 18), (1, .int x1)]) (by decide) rfl rfl dX10_cutNumber_48 ?_
          exact GO.pick [1, 2, 0] rfl <| SX10_cutNumber_b49  (fX10_cutNumber_b4 n) hrec4 M1 x1 (((10 * x2) + (gi M1 2 (ix (gi M1 18 5)))) - 48)
def fX10_cutNumber (M : Mem)  : RS := fX10_cutNumber_b4  FU M 0 0
theorem SX10_cutNumber (M : Mem)  : CTO (1) miX10_cutNumber 0 0 [.ref 18] M (fX10_cutNumber  M ) := by
  refine CTO.of (by decide) (by simp [lg_sl, Value.category]) ?_
  show GO miX10_cutNumber (1) 0 0 0 0 0 [(0, .ref 18)] [] M (fX10_cutNumber_b4  FU M 0 0)
  refine g_iconst (v := 0) (by decide) dX10_cutNumber_0 ?_
  refine g_istore_n (L' := [(1, .int 0), (0, .ref 18)]) (by decide) rfl rfl dX10_cutNumber_1 ?_
  refine g_iconst (v := 0) (by decide) dX10_cutNumber_2 ?_
  refine g_istore_n (L' := [(2, .int 0), (1, .int 0), (0, .ref 18)]) (by decide) rfl rfl dX10_cutNumber_3 ?_
  exact GO.pick [2, 1, 0] rfl <| SX10_cutNumber_b4  FU M 0 0
def fX10_isLetter (M : Mem) (x1 : Int32) : RS := if x1 < (gi M 18 4) then chk (inb x1 700) (if (gi M 2 (ix x1)) < 97 then some (M, .inr (some (.int 0))) else chk (inb x1 700) (if 122 < (gi M 2 (ix x1)) then some (M, .inr (some (.int 0))) else some (M, .inr (some (.int 1))))) else some (M, .inr (some (.int 0)))
theorem SX10_isLetter (M : Mem) (x1 : Int32) : CTO (0) miX10_isLetter 0 0 [.ref 18, .int x1] M (fX10_isLetter  M x1) := by
  refine CTO.of (by decide) (by simp [lg_sl, Value.category]) ?_
  show GO miX10_isLetter (0) 0 0 0 0 0 [(0, .ref 18), (1, .int x1)] [] M (if x1 < (gi M 18 4) then chk (inb x1 700) (if (gi M 2 (ix x1)) < 97 then some (M, .inr (some (.int 0))) else chk (inb x1 700) (if 122 < (gi M 2 (ix x1)) then some (M, .inr (some (.int 0))) else some (M, .inr (some (.int 1))))) else some (M, .inr (some (.int 0))))
  refine g_iload_n 1 rfl rfl dX10_isLetter_0 ?_
  refine g_aload_n 0 rfl rfl dX10_isLetter_1 ?_
  refine g_getI (k := 4) clX10 kd_18 (by decide) rfl flX10_36 dX10_isLetter_2 ?_
  refine g_icmp_ge (tgt := 34) rfl dX10_isLetter_5 (fun c => ?_) (fun c => ?_)
  · refine g_iconst (v := 0) (by decide) dX10_isLetter_34 ?_
    exact g_zreturn rfl (by decide) (by decide) dX10_isLetter_35 (by decide)
  · refine g_aload_n 0 rfl rfl dX10_isLetter_8 ?_
    refine g_getR (k := 0) (b := 2) clX10 kd_18 (by decide) rfl rfl flX10_29 dX10_isLetter_9 ?_
    refine g_iload_n 1 rfl rfl dX10_isLetter_12 ?_
    refine g_bald kd_2 dX10_isLetter_13 (fun hi1 => ?_)
    refine g_bipush (v := 97) (by decide) dX10_isLetter_14 ?_
    refine g_icmp_lt (tgt := 34) rfl dX10_isLetter_16 (fun c => ?_) (fun c => ?_)
    · refine g_iconst (v := 0) (by decide) dX10_isLetter_34 ?_
      exact g_zreturn rfl (by decide) (by decide) dX10_isLetter_35 (by decide)
    · refine g_aload_n 0 rfl rfl dX10_isLetter_19 ?_
      refine g_getR (k := 0) (b := 2) clX10 kd_18 (by decide) rfl rfl flX10_29 dX10_isLetter_20 ?_
      refine g_iload_n 1 rfl rfl dX10_isLetter_23 ?_
      refine g_bald kd_2 dX10_isLetter_24 (fun hi2 => ?_)
      refine g_bipush (v := 122) (by decide) dX10_isLetter_25 ?_
      refine g_icmp_gt (tgt := 34) rfl dX10_isLetter_27 (fun c => ?_) (fun c => ?_)
      · refine g_iconst (v := 0) (by decide) dX10_isLetter_34 ?_
        exact g_zreturn rfl (by decide) (by decide) dX10_isLetter_35 (by decide)
      · refine g_iconst (v := 1) (by decide) dX10_isLetter_30 ?_
        refine g_goto (tgt := 35) rfl dX10_isLetter_31 ?_
        exact g_zreturn rfl (by decide) (by decide) dX10_isLetter_35 (by decide)
def fX10_spells_b28 (j3 : Nat) : Nat → Mem → Int32 → Int32 → RS
  | 0 => fun _ _ _ => none
  | n + 1 => fun M x1 x4 => if x4 < (nI (sLen.getD j3 0)) then chk (inb (x1 + x4) 700) (chk (inb x4 (sLen.getD j3 0)) (if (gi M 2 (ix (x1 + x4))) = (sch j3 (ix x4)) then (fX10_spells_b28 j3 n) M x1 (x4 + 1) else some (M, .inr (some (.int 0))))) else some (M, .inr (some (.int 1)))
theorem SX10_spells_b28 (j3 : Nat) (h3 : j3 < 16) (n : Nat) : ∀ (M : Mem) (x1 : Int32) (x4 : Int32), GO miX10_spells (8) 0 0 0 0 28 [(0, .ref 18), (1, .int x1), (3, .ref (1000 + j3)), (4, .int x4)] [] M (fX10_spells_b28 j3 n M x1 x4) := by
  induction n with
  | zero => intro M x1 x4 ; exact GO.none
  | succ n hrec28 =>
    intro M x1 x4 
    show GO miX10_spells (8) 0 0 0 0 28 [(0, .ref 18), (1, .int x1), (3, .ref (1000 + j3)), (4, .int x4)] [] M (if x4 < (nI (sLen.getD j3 0)) then chk (inb (x1 + x4) 700) (chk (inb x4 (sLen.getD j3 0)) (if (gi M 2 (ix (x1 + x4))) = (sch j3 (ix x4)) then (fX10_spells_b28 j3 n) M x1 (x4 + 1) else some (M, .inr (some (.int 0))))) else some (M, .inr (some (.int 1))))
    refine g_iload 3 rfl dX10_spells_28 ?_
    refine g_aload_n 2 rfl rfl dX10_spells_30 ?_
    refine g_slen h3 mlX10_111 (by first | decide | omega) (by decide) (by simp [Value.category]) dX10_spells_31 ?_
    refine g_icmp_ge (tgt := 63) rfl dX10_spells_34 (fun c => ?_) (fun c => ?_)
    · refine g_iconst (v := 1) (by decide) dX10_spells_63 ?_
      exact g_zreturn rfl (by decide) (by decide) dX10_spells_64 (by decide)
    · refine g_aload_n 0 rfl rfl dX10_spells_37 ?_
      refine g_getR (k := 0) (b := 2) clX10 kd_18 (by decide) rfl rfl flX10_29 dX10_spells_38 ?_
      refine g_iload_n 1 rfl rfl dX10_spells_41 ?_
      refine g_iload 3 rfl dX10_spells_42 ?_
      refine g_iadd dX10_spells_44 ?_
      refine g_bald kd_2 dX10_spells_45 (fun hi1 => ?_)
      refine g_aload_n 2 rfl rfl dX10_spells_46 ?_
      refine g_iload 3 rfl dX10_spells_47 ?_
      refine GO.chk fun hc => ?_
      refine g_schar h3 hc mlX10_116 (by first | decide | omega) (by decide) (by simp [Value.category]) dX10_spells_49 ?_
      refine g_icmp_eq (tgt := 57) rfl dX10_spells_52 (fun c => ?_) (fun c => ?_)
      · refine g_iinc (v := x4 + 1) (L' := [(4, .int (x4 + 1)), (0, .ref 18), (1, .int x1), (3, .ref (1000 + j3))]) 3 rfl rfl (by decide) rfl dX10_spells_57 ?_
        refine g_goto (tgt := 28) rfl dX10_spells_60 ?_
        exact GO.pick [1, 2, 3, 0] rfl <| hrec28 M x1 (x4 + 1)
      · refine g_iconst (v := 0) (by decide) dX10_spells_55 ?_
        exact g_zreturn rfl (by decide) (by decide) dX10_spells_56 (by decide)
def fX10_spells (j3 : Nat) (M : Mem) (x1 : Int32) (x2 : Int32) : RS := if x1 < 0 then some (M, .inr (some (.int 0))) else if 700 < x2 then some (M, .inr (some (.int 0))) else if (x2 - x1) = (nI (sLen.getD j3 0)) then fX10_spells_b28 j3 FU M x1 0 else some (M, .inr (some (.int 0)))
theorem SX10_spells (j3 : Nat) (h3 : j3 < 16) (M : Mem) (x1 : Int32) (x2 : Int32) : CTO (8) miX10_spells 0 0 [.ref 18, .int x1, .int x2, .ref (1000 + j3)] M (fX10_spells j3 M x1 x2) := by
  refine CTO.of (by decide) (by simp [lg_sl, Value.category]) ?_
  show GO miX10_spells (8) 0 0 0 0 0 [(0, .ref 18), (1, .int x1), (2, .int x2), (3, .ref (1000 + j3))] [] M (if x1 < 0 then some (M, .inr (some (.int 0))) else if 700 < x2 then some (M, .inr (some (.int 0))) else if (x2 - x1) = (nI (sLen.getD j3 0)) then fX10_spells_b28 j3 FU M x1 0 else some (M, .inr (some (.int 0))))
  refine g_iload_n 1 rfl rfl dX10_spells_0 ?_
  refine g_if_lt (tgt := 23) rfl dX10_spells_1 (fun c => ?_) (fun c => ?_)
  · refine g_iconst (v := 0) (by decide) dX10_spells_23 ?_
    exact g_zreturn rfl (by decide) (by decide) dX10_spells_24 (by decide)
  · refine g_iload_n 2 rfl rfl dX10_spells_4 ?_
    refine g_aload_n 0 rfl rfl dX10_spells_5 ?_
    refine g_getR (k := 0) (b := 2) clX10 kd_18 (by decide) rfl rfl flX10_29 dX10_spells_6 ?_
    refine g_alen (v := 700) kd_2 (by decide) (by decide) dX10_spells_9 ?_
    refine g_icmp_gt (tgt := 23) rfl dX10_spells_10 (fun c => ?_) (fun c => ?_)
    · refine g_iconst (v := 0) (by decide) dX10_spells_23 ?_
      exact g_zreturn rfl (by decide) (by decide) dX10_spells_24 (by decide)
    · refine g_iload_n 2 rfl rfl dX10_spells_13 ?_
      refine g_iload_n 1 rfl rfl dX10_spells_14 ?_
      refine g_isub dX10_spells_15 ?_
      refine g_aload_n 3 rfl rfl dX10_spells_16 ?_
      refine g_slen h3 mlX10_111 (by first | decide | omega) (by decide) (by simp [Value.category]) dX10_spells_17 ?_
      refine g_icmp_eq (tgt := 25) rfl dX10_spells_20 (fun c => ?_) (fun c => ?_)
      · refine g_iconst (v := 0) (by decide) dX10_spells_25 ?_
        refine g_istore (L' := [(4, .int 0), (0, .ref 18), (1, .int x1), (2, .int x2), (3, .ref (1000 + j3))]) (by decide) rfl dX10_spells_26 ?_
        exact GO.pick [1, 2, 4, 0] rfl <| SX10_spells_b28 j3 h3 FU M x1 0
      · refine g_iconst (v := 0) (by decide) dX10_spells_23 ?_
        exact g_zreturn rfl (by decide) (by decide) dX10_spells_24 (by decide)
def fX10_keywordOf (M : Mem) (x1 : Int32) (x2 : Int32) : RS := bI (fX10_spells 7 M x1 x2) (fun M1 v2 => if v2 = 0 then bI (fX10_spells 8 M1 x1 x2) (fun M3 v4 => if v4 = 0 then bI (fX10_spells 9 M3 x1 x2) (fun M5 v6 => if v6 = 0 then bI (fX10_spells 10 M5 x1 x2) (fun M7 v8 => if v8 = 0 then bI (fX10_spells 11 M7 x1 x2) (fun M9 v10 => if v10 = 0 then bI (fX10_spells 12 M9 x1 x2) (fun M11 v12 => if v12 = 0 then bI (fX10_spells 13 M11 x1 x2) (fun M13 v14 => if v14 = 0 then bI (fX10_spells 14 M13 x1 x2) (fun M15 v16 => if v16 = 0 then bI (fX10_spells 15 M15 x1 x2) (fun M17 v18 => if v18 = 0 then some (M17, .inr (some (.int 137))) else some (M17, .inr (some (.int 136)))) else some (M15, .inr (some (.int 135)))) else some (M13, .inr (some (.int 134)))) else some (M11, .inr (some (.int 133)))) else some (M9, .inr (some (.int 132)))) else some (M7, .inr (some (.int 131)))) else some (M5, .inr (some (.int 130)))) else some (M3, .inr (some (.int 129)))) else some (M1, .inr (some (.int 128))))
theorem SX10_keywordOf (M : Mem) (x1 : Int32) (x2 : Int32) : CTO (9) miX10_keywordOf 0 0 [.ref 18, .int x1, .int x2] M (fX10_keywordOf  M x1 x2) := by
  refine CTO.of (by decide) (by simp [lg_sl, Value.category]) ?_
  show GO miX10_keywordOf (9) 0 0 0 0 0 [(0, .ref 18), (1, .int x1), (2, .int x2)] [] M (bI (fX10_spells 7 M x1 x2) (fun M1 v2 => if v2 = 0 then bI (fX10_spells 8 M1 x1 x2) (fun M3 v4 => if v4 = 0 then bI (fX10_spells 9 M3 x1 x2) (fun M5 v6 => if v6 = 0 then bI (fX10_spells 10 M5 x1 x2) (fun M7 v8 => if v8 = 0 then bI (fX10_spells 11 M7 x1 x2) (fun M9 v10 => if v10 = 0 then bI (fX10_spells 12 M9 x1 x2) (fun M11 v12 => if v12 = 0 then bI (fX10_spells 13 M11 x1 x2) (fun M13 v14 => if v14 = 0 then bI (fX10_spells 14 M13 x1 x2) (fun M15 v16 => if v16 = 0 then bI (fX10_spells 15 M15 x1 x2) (fun M17 v18 => if v18 = 0 then some (M17, .inr (some (.int 137))) else some (M17, .inr (some (.int 136)))) else some (M15, .inr (some (.int 135)))) else some (M13, .inr (some (.int 134)))) else some (M11, .inr (some (.int 133)))) else some (M9, .inr (some (.int 132)))) else some (M7, .inr (some (.int 131)))) else some (M5, .inr (some (.int 130)))) else some (M3, .inr (some (.int 129)))) else some (M1, .inr (some (.int 128)))))
  refine g_aload_n 0 rfl rfl dX10_keywordOf_0 ?_
  refine g_iload_n 1 rfl rfl dX10_keywordOf_1 ?_
  refine g_iload_n 2 rfl rfl dX10_keywordOf_2 ?_
  refine g_ldcS (j := 7) (by decide) dX10_keywordOf_3 ?_
  refine g_callVI (y := miX10_spells) (As := [.int x1, .int x2, .ref (1000 + 7)]) (rest := []) clX10 kd_18 rfl moX10_spells rfl mlX10_77 (by first | decide | omega) (by decide) (by simp [Value.category]) rfl dX10_keywordOf_5 (SX10_spells 7 (by decide) M x1 x2) (fun M1 v2 => ?_)
  refine g_if_eq (tgt := 15) rfl dX10_keywordOf_8 (fun c => ?_) (fun c => ?_)
  · refine g_aload_n 0 rfl rfl dX10_keywordOf_15 ?_
    refine g_iload_n 1 rfl rfl dX10_keywordOf_16 ?_
    refine g_iload_n 2 rfl rfl dX10_keywordOf_17 ?_
    refine g_ldcS (j := 8) (by decide) dX10_keywordOf_18 ?_
    refine g_callVI (y := miX10_spells) (As := [.int x1, .int x2, .ref (1000 + 8)]) (rest := []) clX10 kd_18 rfl moX10_spells rfl mlX10_77 (by first | decide | omega) (by decide) (by simp [Value.category]) rfl dX10_keywordOf_20 (SX10_spells 8 (by decide) M1 x1 x2) (fun M3 v4 => ?_)
    refine g_if_eq (tgt := 30) rfl dX10_keywordOf_23 (fun c => ?_) (fun c => ?_)
    · refine g_aload_n 0 rfl rfl dX10_keywordOf_30 ?_
      refine g_iload_n 1 rfl rfl dX10_keywordOf_31 ?_
      refine g_iload_n 2 rfl rfl dX10_keywordOf_32 ?_
      refine g_ldcS (j := 9) (by decide) dX10_keywordOf_33 ?_
      refine g_callVI (y := miX10_spells) (As := [.int x1, .int x2, .ref (1000 + 9)]) (rest := []) clX10 kd_18 rfl moX10_spells rfl mlX10_77 (by first | decide | omega) (by decide) (by simp [Value.category]) rfl dX10_keywordOf_35 (SX10_spells 9 (by decide) M3 x1 x2) (fun M5 v6 => ?_)
      refine g_if_eq (tgt := 45) rfl dX10_keywordOf_38 (fun c => ?_) (fun c => ?_)
      · refine g_aload_n 0 rfl rfl dX10_keywordOf_45 ?_
        refine g_iload_n 1 rfl rfl dX10_keywordOf_46 ?_
        refine g_iload_n 2 rfl rfl dX10_keywordOf_47 ?_
        refine g_ldcS (j := 10) (by decide) dX10_keywordOf_48 ?_
        refine g_callVI (y := miX10_spells) (As := [.int x1, .int x2, .ref (1000 + 10)]) (rest := []) clX10 kd_18 rfl moX10_spells rfl mlX10_77 (by first | decide | omega) (by decide) (by simp [Value.category]) rfl dX10_keywordOf_50 (SX10_spells 10 (by decide) M5 x1 x2) (fun M7 v8 => ?_)
        refine g_if_eq (tgt := 60) rfl dX10_keywordOf_53 (fun c => ?_) (fun c => ?_)
        · refine g_aload_n 0 rfl rfl dX10_keywordOf_60 ?_
          refine g_iload_n 1 rfl rfl dX10_keywordOf_61 ?_
          refine g_iload_n 2 rfl rfl dX10_keywordOf_62 ?_
          refine g_ldcS (j := 11) (by decide) dX10_keywordOf_63 ?_
          refine g_callVI (y := miX10_spells) (As := [.int x1, .int x2, .ref (1000 + 11)]) (rest := []) clX10 kd_18 rfl moX10_spells rfl mlX10_77 (by first | decide | omega) (by decide) (by simp [Value.category]) rfl dX10_keywordOf_65 (SX10_spells 11 (by decide) M7 x1 x2) (fun M9 v10 => ?_)
          refine g_if_eq (tgt := 75) rfl dX10_keywordOf_68 (fun c => ?_) (fun c => ?_)
          · refine g_aload_n 0 rfl rfl dX10_keywordOf_75 ?_
            refine g_iload_n 1 rfl rfl dX10_keywordOf_76 ?_
            refine g_iload_n 2 rfl rfl dX10_keywordOf_77 ?_
            refine g_ldcS (j := 12) (by decide) dX10_keywordOf_78 ?_
            refine g_callVI (y := miX10_spells) (As := [.int x1, .int x2, .ref (1000 + 12)]) (rest := []) clX10 kd_18 rfl moX10_spells rfl mlX10_77 (by first | decide | omega) (by decide) (by simp [Value.category]) rfl dX10_keywordOf_80 (SX10_spells 12 (by decide) M9 x1 x2) (fun M11 v12 => ?_)
            refine g_if_eq (tgt := 90) rfl dX10_keywordOf_83 (fun c => ?_) (fun c => ?_)
            · refine g_aload_n 0 rfl rfl dX10_keywordOf_90 ?_
              refine g_iload_n 1 rfl rfl dX10_keywordOf_91 ?_
              refine g_iload_n 2 rfl rfl dX10_keywordOf_92 ?_
              refine g_ldcS (j := 13) (by decide) dX10_keywordOf_93 ?_
              refine g_callVI (y := miX10_spells) (As := [.int x1, .int x2, .ref (1000 + 13)]) (rest := []) clX10 kd_18 rfl moX10_spells rfl mlX10_77 (by first | decide | omega) (by decide) (by simp [Value.category]) rfl dX10_keywordOf_95 (SX10_spells 13 (by decide) M11 x1 x2) (fun M13 v14 => ?_)
              refine g_if_eq (tgt := 105) rfl dX10_keywordOf_98 (fun c => ?_) (fun c => ?_)
              · refine g_aload_n 0 rfl rfl dX10_keywordOf_105 ?_
                refine g_iload_n 1 rfl rfl dX10_keywordOf_106 ?_
                refine g_iload_n 2 rfl rfl dX10_keywordOf_107 ?_
                refine g_ldcS (j := 14) (by decide) dX10_keywordOf_108 ?_
                refine g_callVI (y := miX10_spells) (As := [.int x1, .int x2, .ref (1000 + 14)]) (rest := []) clX10 kd_18 rfl moX10_spells rfl mlX10_77 (by first | decide | omega) (by decide) (by simp [Value.category]) rfl dX10_keywordOf_110 (SX10_spells 14 (by decide) M13 x1 x2) (fun M15 v16 => ?_)
                refine g_if_eq (tgt := 120) rfl dX10_keywordOf_113 (fun c => ?_) (fun c => ?_)
                · refine g_aload_n 0 rfl rfl dX10_keywordOf_120 ?_
                  refine g_iload_n 1 rfl rfl dX10_keywordOf_121 ?_
                  refine g_iload_n 2 rfl rfl dX10_keywordOf_122 ?_
                  refine g_ldcS (j := 15) (by decide) dX10_keywordOf_123 ?_
                  refine g_callVI (y := miX10_spells) (As := [.int x1, .int x2, .ref (1000 + 15)]) (rest := []) clX10 kd_18 rfl moX10_spells rfl mlX10_77 (by first | decide | omega) (by decide) (by simp [Value.category]) rfl dX10_keywordOf_125 (SX10_spells 15 (by decide) M15 x1 x2) (fun M17 v18 => ?_)
                  refine g_if_eq (tgt := 135) rfl dX10_keywordOf_128 (fun c => ?_) (fun c => ?_)
                  · refine g_sipush (v := 137) (by decide) dX10_keywordOf_135 ?_
                    exact g_ireturn rfl (by decide) (by decide) dX10_keywordOf_138 rfl rfl
                  · refine g_sipush (v := 136) (by decide) dX10_keywordOf_131 ?_
                    exact g_ireturn rfl (by decide) (by decide) dX10_keywordOf_134 rfl rfl
                · refine g_sipush (v := 135) (by decide) dX10_keywordOf_116 ?_
                  exact g_ireturn rfl (by decide) (by decide) dX10_keywordOf_119 rfl rfl
              · refine g_sipush (v := 134) (by decide) dX10_keywordOf_101 ?_
                exact g_ireturn rfl (by decide) (by decide) dX10_keywordOf_104 rfl rfl
            · refine g_sipush (v := 133) (by decide) dX10_keywordOf_86 ?_
              exact g_ireturn rfl (by decide) (by decide) dX10_keywordOf_89 rfl rfl
          · refine g_sipush (v := 132) (by decide) dX10_keywordOf_71 ?_
            exact g_ireturn rfl (by decide) (by decide) dX10_keywordOf_74 rfl rfl
        · refine g_sipush (v := 131) (by decide) dX10_keywordOf_56 ?_
          exact g_ireturn rfl (by decide) (by decide) dX10_keywordOf_59 rfl rfl
      · refine g_sipush (v := 130) (by decide) dX10_keywordOf_41 ?_
        exact g_ireturn rfl (by decide) (by decide) dX10_keywordOf_44 rfl rfl
    · refine g_sipush (v := 129) (by decide) dX10_keywordOf_26 ?_
      exact g_ireturn rfl (by decide) (by decide) dX10_keywordOf_29 rfl rfl
  · refine g_sipush (v := 128) (by decide) dX10_keywordOf_11 ?_
    exact g_ireturn rfl (by decide) (by decide) dX10_keywordOf_14 rfl rfl

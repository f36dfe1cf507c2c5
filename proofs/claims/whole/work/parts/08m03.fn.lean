def fX12_order (M : Mem) (x1 : Int32) (x2 : Int32) : RS := wr (si M 87 3 0) (fun M1 => bI (fX12_isHouse M1 x1) (fun M2 v3 => if v3 = 0 then bI (fX12_fail M2 1) (fun M12 v13 => some (M12, .inr (some (.int v13)))) else bI (fX12_isIn M2 (Int32.toInt64 x2) 0 (Int32.toInt64 ((gi M2 90 0) - 1))) (fun M4 v5 => if v5 = 0 then bI (fX12_refuse M4 1) (fun M10 v11 => some (M10, .inr (some (.int v11)))) else bV (fX12_keep M4) (fun M6 => bI (fX12_moveTo M6 x1 x2) (fun M8 v9 => some (M8, .inr (some (.int v9))))))))
theorem SX12_order (M : Mem) (x1 : Int32) (x2 : Int32) : CTO (6) miX12_order 0 0 [.ref 87, .int x1, .int x2] M (fX12_order  M x1 x2) := by
  refine CTO.of (by decide) (by simp [lg_sl, Value.category]) ?_
  show GO miX12_order (6) 0 0 0 0 0 [(0, .ref 87), (1, .int x1), (2, .int x2)] [] M (wr (si M 87 3 0) (fun M1 => bI (fX12_isHouse M1 x1) (fun M2 v3 => if v3 = 0 then bI (fX12_fail M2 1) (fun M12 v13 => some (M12, .inr (some (.int v13)))) else bI (fX12_isIn M2 (Int32.toInt64 x2) 0 (Int32.toInt64 ((gi M2 90 0) - 1))) (fun M4 v5 => if v5 = 0 then bI (fX12_refuse M4 1) (fun M10 v11 => some (M10, .inr (some (.int v11)))) else bV (fX12_keep M4) (fun M6 => bI (fX12_moveTo M6 x1 x2) (fun M8 v9 => some (M8, .inr (some (.int v9)))))))))
  refine g_aload_n 0 rfl rfl dX12_order_0 ?_
  refine g_iconst (v := 0) (by decide) dX12_order_1 ?_
  refine g_putI (k := 3) clX12 kd_87 (by decide) rfl (by decide) rfl flX12_140 dX12_order_2 ?_
  refine GO.wr (fun M1 => ?_)
  refine g_aload_n 0 rfl rfl dX12_order_5 ?_
  refine g_iload_n 1 rfl rfl dX12_order_6 ?_
  refine g_callVI (y := miX12_isHouse) (As := [.int x1]) (rest := []) clX12 kd_87 rfl moX12_isHouse rfl mlX12_371 (by first | decide | omega) (by decide) (by simp [Value.category]) rfl dX12_order_7 (SX12_isHouse  M1 x1) (fun M2 v3 => ?_)
  refine g_if_ne (tgt := 19) rfl dX12_order_10 (fun c => ?_) (fun c => ?_)
  · refine g_iload_n 2 rfl rfl dX12_order_19 ?_
    refine g_i2l dX12_order_20 ?_
    refine g_lconst (v := 0) (by decide) dX12_order_21 ?_
    refine g_aload_n 0 rfl rfl dX12_order_22 ?_
    refine g_getR (k := 4) (b := 90) clX12 kd_87 (by decide) rfl rfl flX12_35 dX12_order_23 ?_
    refine g_iconst (v := 0) (by decide) dX12_order_26 ?_
    refine g_aldL (j := 0) kd_90 (by decide) (by decide) dX12_order_27 ?_
    refine g_iconst (v := 1) (by decide) dX12_order_28 ?_
    refine g_isub dX12_order_29 ?_
    refine g_i2l dX12_order_30 ?_
    refine g_callSI (y := miX12_isIn) (As := [.long (Int32.toInt64 x2), .long 0, .long (Int32.toInt64 ((gi M2 90 0) - 1))]) (rest := []) moX12_isIn rfl mlX12_143 (by first | decide | omega) (by decide) (by simp [Value.category]) rfl dX12_order_31 (SX12_isIn  M2 (Int32.toInt64 x2) 0 (Int32.toInt64 ((gi M2 90 0) - 1))) (fun M4 v5 => ?_)
    refine g_if_ne (tgt := 43) rfl dX12_order_34 (fun c => ?_) (fun c => ?_)
    · refine g_aload_n 0 rfl rfl dX12_order_43 ?_
      refine g_callVV (y := miX12_keep) (As := []) (rest := []) clX12 kd_87 rfl moX12_keep rfl mlX12_398 (by first | decide | omega) (by decide) (by simp [Value.category]) rfl dX12_order_44 (SX12_keep  M4) (fun M6 => ?_)
      refine g_aload_n 0 rfl rfl dX12_order_47 ?_
      refine g_iload_n 1 rfl rfl dX12_order_48 ?_
      refine g_iload_n 2 rfl rfl dX12_order_49 ?_
      refine g_callVI (y := miX12_moveTo) (As := [.int x1, .int x2]) (rest := []) clX12 kd_87 rfl moX12_moveTo rfl mlX12_407 (by first | decide | omega) (by decide) (by simp [Value.category]) rfl dX12_order_50 (SX12_moveTo  M6 x1 x2) (fun M8 v9 => ?_)
      exact g_ireturn rfl (by decide) (by decide) dX12_order_53 rfl rfl
    · refine g_aload_n 0 rfl rfl dX12_order_37 ?_
      refine g_iconst (v := 1) (by decide) dX12_order_38 ?_
      refine g_callVI (y := miX12_refuse) (As := [.int 1]) (rest := []) clX12 kd_87 rfl moX12_refuse rfl mlX12_404 (by first | decide | omega) (by decide) (by simp [Value.category]) rfl dX12_order_39 (SX12_refuse  M4 1) (fun M10 v11 => ?_)
      exact g_ireturn rfl (by decide) (by decide) dX12_order_42 rfl rfl
  · refine g_aload_n 0 rfl rfl dX12_order_13 ?_
    refine g_iconst (v := 1) (by decide) dX12_order_14 ?_
    refine g_callVI (y := miX12_fail) (As := [.int 1]) (rest := []) clX12 kd_87 rfl moX12_fail rfl mlX12_290 (by first | decide | omega) (by decide) (by simp [Value.category]) rfl dX12_order_15 (SX12_fail  M2 1) (fun M12 v13 => ?_)
    exact g_ireturn rfl (by decide) (by decide) dX12_order_18 rfl rfl
def fX12_exchange_b21 (M : Mem)  : RS := bI (fX12_failing M 1) (fun M15 v16 => chk (isZ v16) (some (M15, .inr (some (.int v16)))))
theorem SX12_exchange_b21 (M : Mem)  : GO miX12_exchange (2) 0 0 0 0 21 [(0, .ref 87)] [] M (fX12_exchange_b21 M ) := by
  show GO miX12_exchange (2) 0 0 0 0 21 [(0, .ref 87)] [] M (bI (fX12_failing M 1) (fun M15 v16 => chk (isZ v16) (some (M15, .inr (some (.int v16))))))
  refine g_aload_n 0 rfl rfl dX12_exchange_21 ?_
  refine g_iconst (v := 1) (by decide) dX12_exchange_22 ?_
  refine g_callVI (y := miX12_failing) (As := [.int 1]) (rest := []) clX12 kd_87 rfl moX12_failing rfl mlX12_410 (by first | decide | omega) (by decide) (by simp [Value.category]) rfl dX12_exchange_23 (SX12_failing  M 1) (fun M15 v16 => ?_)
  refine GO.chk fun hz => ?_
  exact g_zreturn rfl (by decide) (by decide) dX12_exchange_26 hz
def fX12_exchange (M : Mem) (x1 : Int32) (x2 : Int32) : RS := wr (si M 87 3 0) (fun M1 => bI (fX12_isHouse M1 x1) (fun M2 v3 => if v3 = 0 then fX12_exchange_b21  M2 else bI (fX12_isHouse M2 x2) (fun M4 v5 => if v5 = 0 then fX12_exchange_b21  M4 else if x1 = x2 then wr (si M4 100 1 ((gi M4 100 1) + 1)) (fun M14 => some (M14, .inr (some (.int 0)))) else bV (fX12_keep M4) (fun M6 => chk (inb x1 8) (chk (inb x2 8) (chk (inb x1 8) (wr (si M6 103 (ix x1) (gi M6 103 (ix x2))) (fun M11 => chk (inb x2 8) (wr (si M11 103 (ix x2) (gi M6 103 (ix x1))) (fun M13 => some (M13, .inr (some (.int 1)))))))))))))
theorem SX12_exchange (M : Mem) (x1 : Int32) (x2 : Int32) : CTO (2) miX12_exchange 0 0 [.ref 87, .int x1, .int x2] M (fX12_exchange  M x1 x2) := by
  refine CTO.of (by decide) (by simp [lg_sl, Value.category]) ?_
  show GO miX12_exchange (2) 0 0 0 0 0 [(0, .ref 87), (1, .int x1), (2, .int x2)] [] M (wr (si M 87 3 0) (fun M1 => bI (fX12_isHouse M1 x1) (fun M2 v3 => if v3 = 0 then fX12_exchange_b21  M2 else bI (fX12_isHouse M2 x2) (fun M4 v5 => if v5 = 0 then fX12_exchange_b21  M4 else if x1 = x2 then wr (si M4 100 1 ((gi M4 100 1) + 1)) (fun M14 => some (M14, .inr (some (.int 0)))) else bV (fX12_keep M4) (fun M6 => chk (inb x1 8) (chk (inb x2 8) (chk (inb x1 8) (wr (si M6 103 (ix x1) (gi M6 103 (ix x2))) (fun M11 => chk (inb x2 8) (wr (si M11 103 (ix x2) (gi M6 103 (ix x1))) (fun M13 => some (M13, .inr (some (.int 1))))))))))))))
  refine g_aload_n 0 rfl rfl dX12_exchange_0 ?_
  refine g_iconst (v := 0) (by decide) dX12_exchange_1 ?_
  refine g_putI (k := 3) clX12 kd_87 (by decide) rfl (by decide) rfl flX12_140 dX12_exchange_2 ?_
  refine GO.wr (fun M1 => ?_)
  refine g_aload_n 0 rfl rfl dX12_exchange_5 ?_
  refine g_iload_n 1 rfl rfl dX12_exchange_6 ?_
  refine g_callVI (y := miX12_isHouse) (As := [.int x1]) (rest := []) clX12 kd_87 rfl moX12_isHouse rfl mlX12_371 (by first | decide | omega) (by decide) (by simp [Value.category]) rfl dX12_exchange_7 (SX12_isHouse  M1 x1) (fun M2 v3 => ?_)
  refine g_if_eq (tgt := 21) rfl dX12_exchange_10 (fun c => ?_) (fun c => ?_)
  · exact GO.pick [0] rfl <| SX12_exchange_b21  M2
  · refine g_aload_n 0 rfl rfl dX12_exchange_13 ?_
    refine g_iload_n 2 rfl rfl dX12_exchange_14 ?_
    refine g_callVI (y := miX12_isHouse) (As := [.int x2]) (rest := []) clX12 kd_87 rfl moX12_isHouse rfl mlX12_371 (by first | decide | omega) (by decide) (by simp [Value.category]) rfl dX12_exchange_15 (SX12_isHouse  M2 x2) (fun M4 v5 => ?_)
    refine g_if_ne (tgt := 27) rfl dX12_exchange_18 (fun c => ?_) (fun c => ?_)
    · refine g_iload_n 1 rfl rfl dX12_exchange_27 ?_
      refine g_iload_n 2 rfl rfl dX12_exchange_28 ?_
      refine g_icmp_ne (tgt := 44) rfl dX12_exchange_29 (fun c => ?_) (fun c => ?_)
      · refine g_aload_n 0 rfl rfl dX12_exchange_44 ?_
        refine g_callVV (y := miX12_keep) (As := []) (rest := []) clX12 kd_87 rfl moX12_keep rfl mlX12_398 (by first | decide | omega) (by decide) (by simp [Value.category]) rfl dX12_exchange_45 (SX12_keep  M4) (fun M6 => ?_)
        refine g_aload_n 0 rfl rfl dX12_exchange_48 ?_
        refine g_getR (k := 28) (b := 103) clX12 kd_87 (by decide) rfl rfl flX12_76 dX12_exchange_49 ?_
        refine g_iload_n 1 rfl rfl dX12_exchange_52 ?_
        refine g_ald kd_103 dX12_exchange_53 (fun hi8 => ?_)
        refine g_istore_n (L' := [(3, .int (gi M6 103 (ix x1))), (0, .ref 87), (1, .int x1), (2, .int x2)]) (by decide) rfl rfl dX12_exchange_54 ?_
        refine g_aload_n 1 rfl rfl dX12_exchange_55 ?_
        refine g_getR (k := 28) (b := 103) clX12 kd_87 (by decide) rfl rfl flX12_76 dX12_exchange_56 ?_
        refine g_iload_n 2 rfl rfl dX12_exchange_59 ?_
        refine g_aload_n 1 rfl rfl dX12_exchange_60 ?_
        refine g_getR (k := 28) (b := 103) clX12 kd_87 (by decide) rfl rfl flX12_76 dX12_exchange_61 ?_
        refine g_iload_n 3 rfl rfl dX12_exchange_64 ?_
        refine g_ald kd_103 dX12_exchange_65 (fun hi9 => ?_)
        refine g_ast kd_103 dX12_exchange_66 (fun hi10 => ?_)
        refine GO.wr (fun M11 => ?_)
        refine g_aload_n 1 rfl rfl dX12_exchange_67 ?_
        refine g_getR (k := 28) (b := 103) clX12 kd_87 (by decide) rfl rfl flX12_76 dX12_exchange_68 ?_
        refine g_iload_n 3 rfl rfl dX12_exchange_71 ?_
        refine g_iload_n 0 rfl rfl dX12_exchange_72 ?_
        refine g_ast kd_103 dX12_exchange_73 (fun hi12 => ?_)
        refine GO.wr (fun M13 => ?_)
        refine g_iconst (v := 1) (by decide) dX12_exchange_74 ?_
        exact g_zreturn rfl (by decide) (by decide) dX12_exchange_75 (by decide)
      · refine g_aload_n 0 rfl rfl dX12_exchange_32 ?_
        refine g_getR (k := 14) (b := 100) clX12 kd_87 (by decide) rfl rfl flX12_63 dX12_exchange_33 ?_
        refine g_iconst (v := 1) (by decide) dX12_exchange_36 ?_
        refine g_dup2_ri dX12_exchange_37 ?_
        refine g_aldL (j := 1) kd_100 (by decide) (by decide) dX12_exchange_38 ?_
        refine g_iconst (v := 1) (by decide) dX12_exchange_39 ?_
        refine g_iadd dX12_exchange_40 ?_
        refine g_astL (j := 1) kd_100 (by decide) (by decide) dX12_exchange_41 ?_
        refine GO.wr (fun M14 => ?_)
        refine g_iconst (v := 0) (by decide) dX12_exchange_42 ?_
        exact g_zreturn rfl (by decide) (by decide) dX12_exchange_43 (by decide)
    · exact GO.pick [0] rfl <| SX12_exchange_b21  M4
def fX12_market_b29 (M : Mem)  : RS := bI (fX12_refuse M 1) (fun M12 v13 => some (M12, .inr (some (.int v13))))
theorem SX12_market_b29 (M : Mem)  : GO miX12_market (5) 0 0 0 0 29 [(0, .ref 87)] [] M (fX12_market_b29 M ) := by
  show GO miX12_market (5) 0 0 0 0 29 [(0, .ref 87)] [] M (bI (fX12_refuse M 1) (fun M12 v13 => some (M12, .inr (some (.int v13)))))
  refine g_aload_n 0 rfl rfl dX12_market_29 ?_
  refine g_iconst (v := 1) (by decide) dX12_market_30 ?_
  refine g_callVI (y := miX12_refuse) (As := [.int 1]) (rest := []) clX12 kd_87 rfl moX12_refuse rfl mlX12_404 (by first | decide | omega) (by decide) (by simp [Value.category]) rfl dX12_market_31 (SX12_refuse  M 1) (fun M12 v13 => ?_)
  exact g_ireturn rfl (by decide) (by decide) dX12_market_34 rfl rfl
def fX12_market (M : Mem) (x1 : Int32) (x2 : Int32) : RS := wr (si M 87 3 0) (fun M1 => bI (fX12_isIn M1 (Int32.toInt64 x1) 0 20) (fun M2 v3 => if v3 = 0 then fX12_market_b29  M2 else bI (fX12_isIn M2 (Int32.toInt64 x2) 0 20) (fun M4 v5 => if v5 = 0 then fX12_market_b29  M4 else bV (fX12_keep M4) (fun M6 => wr (si M6 87 36 x1) (fun M8 => wr (si M8 87 37 x2) (fun M9 => bV (fX12_takeShares M9) (fun M10 => some (M10, .inr (some (.int ((100 * (gi M6 87 37)) + (gi M6 87 36))))))))))))
theorem SX12_market (M : Mem) (x1 : Int32) (x2 : Int32) : CTO (5) miX12_market 0 0 [.ref 87, .int x1, .int x2] M (fX12_market  M x1 x2) := by
  refine CTO.of (by decide) (by simp [lg_sl, Value.category]) ?_
  show GO miX12_market (5) 0 0 0 0 0 [(0, .ref 87), (1, .int x1), (2, .int x2)] [] M (wr (si M 87 3 0) (fun M1 => bI (fX12_isIn M1 (Int32.toInt64 x1) 0 20) (fun M2 v3 => if v3 = 0 then fX12_market_b29  M2 else bI (fX12_isIn M2 (Int32.toInt64 x2) 0 20) (fun M4 v5 => if v5 = 0 then fX12_market_b29  M4 else bV (fX12_keep M4) (fun M6 => wr (si M6 87 36 x1) (fun M8 => wr (si M8 87 37 x2) (fun M9 => bV (fX12_takeShares M9) (fun M10 => some (M10, .inr (some (.int ((100 * (gi M6 87 37)) + (gi M6 87 36)))))))))))))
  refine g_aload_n 0 rfl rfl dX12_market_0 ?_
  refine g_iconst (v := 0) (by decide) dX12_market_1 ?_
  refine g_putI (k := 3) clX12 kd_87 (by decide) rfl (by decide) rfl flX12_140 dX12_market_2 ?_
  refine GO.wr (fun M1 => ?_)
  refine g_iload_n 1 rfl rfl dX12_market_5 ?_
  refine g_i2l dX12_market_6 ?_
  refine g_lconst (v := 0) (by decide) dX12_market_7 ?_
  refine g_ldc2 (v := 20) coX12_413 dX12_market_8 ?_
  refine g_callSI (y := miX12_isIn) (As := [.long (Int32.toInt64 x1), .long 0, .long 20]) (rest := []) moX12_isIn rfl mlX12_143 (by first | decide | omega) (by decide) (by simp [Value.category]) rfl dX12_market_11 (SX12_isIn  M1 (Int32.toInt64 x1) 0 20) (fun M2 v3 => ?_)
  refine g_if_eq (tgt := 29) rfl dX12_market_14 (fun c => ?_) (fun c => ?_)
  · exact GO.pick [0] rfl <| SX12_market_b29  M2
  · refine g_iload_n 2 rfl rfl dX12_market_17 ?_
    refine g_i2l dX12_market_18 ?_
    refine g_lconst (v := 0) (by decide) dX12_market_19 ?_
    refine g_ldc2 (v := 20) coX12_413 dX12_market_20 ?_
    refine g_callSI (y := miX12_isIn) (As := [.long (Int32.toInt64 x2), .long 0, .long 20]) (rest := []) moX12_isIn rfl mlX12_143 (by first | decide | omega) (by decide) (by simp [Value.category]) rfl dX12_market_23 (SX12_isIn  M2 (Int32.toInt64 x2) 0 20) (fun M4 v5 => ?_)
    refine g_if_ne (tgt := 35) rfl dX12_market_26 (fun c => ?_) (fun c => ?_)
    · refine g_aload_n 0 rfl rfl dX12_market_35 ?_
      refine g_callVV (y := miX12_keep) (As := []) (rest := []) clX12 kd_87 rfl moX12_keep rfl mlX12_398 (by first | decide | omega) (by decide) (by simp [Value.category]) rfl dX12_market_36 (SX12_keep  M4) (fun M6 => ?_)
      refine g_bipush (v := 100) (by decide) dX12_market_39 ?_
      refine g_aload_n 0 rfl rfl dX12_market_41 ?_
      refine g_getI (k := 37) clX12 kd_87 (by decide) rfl flX12_137 dX12_market_42 ?_
      refine g_imul dX12_market_45 ?_
      refine g_aload_n 0 rfl rfl dX12_market_46 ?_
      refine g_getI (k := 36) clX12 kd_87 (by decide) rfl flX12_134 dX12_market_47 ?_
      refine g_iadd dX12_market_50 ?_
      refine g_istore_n (L' := [(3, .int ((100 * (gi M6 87 37)) + (gi M6 87 36))), (0, .ref 87), (1, .int x1), (2, .int x2)]) (by decide) rfl rfl dX12_market_51 ?_
      refine g_aload_n 1 rfl rfl dX12_market_52 ?_
      refine g_iload_n 2 rfl rfl dX12_market_53 ?_
      refine g_putI (k := 36) clX12 kd_87 (by decide) rfl (by decide) rfl flX12_134 dX12_market_54 ?_
      refine GO.wr (fun M8 => ?_)
      refine g_aload_n 1 rfl rfl dX12_market_57 ?_
      refine g_iload_n 3 rfl rfl dX12_market_58 ?_
      refine g_putI (k := 37) clX12 kd_87 (by decide) rfl (by decide) rfl flX12_137 dX12_market_59 ?_
      refine GO.wr (fun M9 => ?_)
      refine g_aload_n 1 rfl rfl dX12_market_62 ?_
      refine g_callVV (y := miX12_takeShares) (As := []) (rest := []) clX12 kd_87 rfl moX12_takeShares rfl mlX12_317 (by first | decide | omega) (by decide) (by simp [Value.category]) rfl dX12_market_63 (SX12_takeShares  M9) (fun M10 => ?_)
      refine g_iload_n 0 rfl rfl dX12_market_66 ?_
      exact g_ireturn rfl (by decide) (by decide) dX12_market_67 rfl rfl
    · exact GO.pick [0] rfl <| SX12_market_b29  M4
def fX12_years_b29 (M : Mem)  : RS := bI (fX12_refuse M 1) (fun M8 v9 => some (M8, .inr (some (.int v9))))
theorem SX12_years_b29 (M : Mem)  : GO miX12_years (6) 0 0 0 0 29 [(0, .ref 87)] [] M (fX12_years_b29 M ) := by
  show GO miX12_years (6) 0 0 0 0 29 [(0, .ref 87)] [] M (bI (fX12_refuse M 1) (fun M8 v9 => some (M8, .inr (some (.int v9)))))
  refine g_aload_n 0 rfl rfl dX12_years_29 ?_
  refine g_iconst (v := 1) (by decide) dX12_years_30 ?_
  refine g_callVI (y := miX12_refuse) (As := [.int 1]) (rest := []) clX12 kd_87 rfl moX12_refuse rfl mlX12_404 (by first | decide | omega) (by decide) (by simp [Value.category]) rfl dX12_years_31 (SX12_refuse  M 1) (fun M8 v9 => ?_)
  exact g_ireturn rfl (by decide) (by decide) dX12_years_34 rfl rfl
def fX12_years (M : Mem) (x1 : Int32) : RS := wr (si M 87 3 0) (fun M1 => bI (fX12_isIn M1 (Int32.toInt64 x1) 1 30) (fun M2 v3 => if v3 = 0 then fX12_years_b29  M2 else if 999 < ((gi M2 87 31) + x1) then fX12_years_b29  M2 else bV (fX12_keep M2) (fun M4 => bV (fX12_goOn M4 x1) (fun M6 => some (M6, .inr (some (.int (gi M6 87 31))))))))
theorem SX12_years (M : Mem) (x1 : Int32) : CTO (6) miX12_years 0 0 [.ref 87, .int x1] M (fX12_years  M x1) := by
  refine CTO.of (by decide) (by simp [lg_sl, Value.category]) ?_
  show GO miX12_years (6) 0 0 0 0 0 [(0, .ref 87), (1, .int x1)] [] M (wr (si M 87 3 0) (fun M1 => bI (fX12_isIn M1 (Int32.toInt64 x1) 1 30) (fun M2 v3 => if v3 = 0 then fX12_years_b29  M2 else if 999 < ((gi M2 87 31) + x1) then fX12_years_b29  M2 else bV (fX12_keep M2) (fun M4 => bV (fX12_goOn M4 x1) (fun M6 => some (M6, .inr (some (.int (gi M6 87 31)))))))))
  refine g_aload_n 0 rfl rfl dX12_years_0 ?_
  refine g_iconst (v := 0) (by decide) dX12_years_1 ?_
  refine g_putI (k := 3) clX12 kd_87 (by decide) rfl (by decide) rfl flX12_140 dX12_years_2 ?_
  refine GO.wr (fun M1 => ?_)
  refine g_iload_n 1 rfl rfl dX12_years_5 ?_
  refine g_i2l dX12_years_6 ?_
  refine g_lconst (v := 1) (by decide) dX12_years_7 ?_
  refine g_ldc2 (v := 30) coX12_415 dX12_years_8 ?_
  refine g_callSI (y := miX12_isIn) (As := [.long (Int32.toInt64 x1), .long 1, .long 30]) (rest := []) moX12_isIn rfl mlX12_143 (by first | decide | omega) (by decide) (by simp [Value.category]) rfl dX12_years_11 (SX12_isIn  M1 (Int32.toInt64 x1) 1 30) (fun M2 v3 => ?_)
  refine g_if_eq (tgt := 29) rfl dX12_years_14 (fun c => ?_) (fun c => ?_)
  · exact GO.pick [0] rfl <| SX12_years_b29  M2
  · refine g_aload_n 0 rfl rfl dX12_years_17 ?_
    refine g_getI (k := 31) clX12 kd_87 (by decide) rfl flX12_303 dX12_years_18 ?_
    refine g_iload_n 1 rfl rfl dX12_years_21 ?_
    refine g_iadd dX12_years_22 ?_
    refine g_sipush (v := 999) (by decide) dX12_years_23 ?_
    refine g_icmp_le (tgt := 35) rfl dX12_years_26 (fun c => ?_) (fun c => ?_)
    · refine g_aload_n 0 rfl rfl dX12_years_35 ?_
      refine g_callVV (y := miX12_keep) (As := []) (rest := []) clX12 kd_87 rfl moX12_keep rfl mlX12_398 (by first | decide | omega) (by decide) (by simp [Value.category]) rfl dX12_years_36 (SX12_keep  M2) (fun M4 => ?_)
      refine g_aload_n 0 rfl rfl dX12_years_39 ?_
      refine g_iload_n 1 rfl rfl dX12_years_40 ?_
      refine g_callVV (y := miX12_goOn) (As := [.int x1]) (rest := []) clX12 kd_87 rfl moX12_goOn rfl mlX12_417 (by first | decide | omega) (by decide) (by simp [Value.category]) rfl dX12_years_41 (SX12_goOn  M4 x1) (fun M6 => ?_)
      refine g_aload_n 0 rfl rfl dX12_years_44 ?_
      refine g_getI (k := 31) clX12 kd_87 (by decide) rfl flX12_303 dX12_years_45 ?_
      exact g_ireturn rfl (by decide) (by decide) dX12_years_48 rfl rfl
    · exact GO.pick [0] rfl <| SX12_years_b29  M2
def fX12_undo (M : Mem)  : RS := wr (si M 87 3 0) (fun M1 => if (gi M1 87 38) = 0 then some (M1, .inr (some (.int (-1)))) else wr (si M1 87 38 ((gi M1 87 38) - 1)) (fun M2 => bV (fX12_unpack 105 M2 (31 * (gi M2 87 38))) (fun M3 => some (M3, .inr (some (.int (gi M3 87 38)))))))
theorem SX12_undo (M : Mem)  : CTO (1) miX12_undo 0 0 [.ref 87] M (fX12_undo  M ) := by
  refine CTO.of (by decide) (by simp [lg_sl, Value.category]) ?_
  show GO miX12_undo (1) 0 0 0 0 0 [(0, .ref 87)] [] M (wr (si M 87 3 0) (fun M1 => if (gi M1 87 38) = 0 then some (M1, .inr (some (.int (-1)))) else wr (si M1 87 38 ((gi M1 87 38) - 1)) (fun M2 => bV (fX12_unpack 105 M2 (31 * (gi M2 87 38))) (fun M3 => some (M3, .inr (some (.int (gi M3 87 38))))))))
  refine g_aload_n 0 rfl rfl dX12_undo_0 ?_
  refine g_iconst (v := 0) (by decide) dX12_undo_1 ?_
  refine g_putI (k := 3) clX12 kd_87 (by decide) rfl (by decide) rfl flX12_140 dX12_undo_2 ?_
  refine GO.wr (fun M1 => ?_)
  refine g_aload_n 0 rfl rfl dX12_undo_5 ?_
  refine g_getI (k := 38) clX12 kd_87 (by decide) rfl flX12_320 dX12_undo_6 ?_
  refine g_if_ne (tgt := 14) rfl dX12_undo_9 (fun c => ?_) (fun c => ?_)
  · refine g_aload_n 0 rfl rfl dX12_undo_14 ?_
    refine g_dup_ref dX12_undo_15 ?_
    refine g_getI (k := 38) clX12 kd_87 (by decide) rfl flX12_320 dX12_undo_16 ?_
    refine g_iconst (v := 1) (by decide) dX12_undo_19 ?_
    refine g_isub dX12_undo_20 ?_
    refine g_putI (k := 38) clX12 kd_87 (by decide) rfl (by decide) rfl flX12_320 dX12_undo_21 ?_
    refine GO.wr (fun M2 => ?_)
    refine g_aload_n 0 rfl rfl dX12_undo_24 ?_
    refine g_aload_n 0 rfl rfl dX12_undo_25 ?_
    refine g_getR (k := 30) (b := 105) clX12 kd_87 (by decide) rfl rfl flX12_82 dX12_undo_26 ?_
    refine g_bipush (v := 31) (by decide) dX12_undo_29 ?_
    refine g_aload_n 0 rfl rfl dX12_undo_31 ?_
    refine g_getI (k := 38) clX12 kd_87 (by decide) rfl flX12_320 dX12_undo_32 ?_
    refine g_imul dX12_undo_35 ?_
    refine g_callVV (y := miX12_unpack) (As := [.ref 105, .int (31 * (gi M2 87 38))]) (rest := []) clX12 kd_87 rfl moX12_unpack rfl mlX12_420 (by first | decide | omega) (by decide) (by simp [Value.category]) rfl dX12_undo_36 (SX12_unpack 105 (by decide) M2 (31 * (gi M2 87 38))) (fun M3 => ?_)
    refine g_aload_n 0 rfl rfl dX12_undo_39 ?_
    refine g_getI (k := 38) clX12 kd_87 (by decide) rfl flX12_320 dX12_undo_40 ?_
    exact g_ireturn rfl (by decide) (by decide) dX12_undo_43 rfl rfl
  · refine g_iconst (v := (-1)) (by decide) dX12_undo_12 ?_
    exact g_ireturn rfl (by decide) (by decide) dX12_undo_13 rfl rfl
def fX12_isRound_b51 (rec7 : Mem → Int32 → Int32 → Int32 → Int32 → RS) (rec19 : Mem → Int32 → Int32 → Int32 → Int32 → Int32 → Int32 → RS) (M : Mem) (x1 : Int32) (x2 : Int32) (x3 : Int32) (x4 : Int32) (x6 : Int32) (s0 : Int32) (s1 : Int32) : RS := rec19 M x1 x2 x3 x4 (s1 ||| s0) (x6 + 1)
theorem SX12_isRound_b51 (rec7 : Mem → Int32 → Int32 → Int32 → Int32 → RS) (hrec7 : ∀ (M : Mem) (x1 : Int32) (x2 : Int32) (x3 : Int32) (x4 : Int32), GO miX12_isRound (5) 0 0 0 0 7 [(0, .ref 87), (1, .int x1), (2, .int x2), (3, .int x3), (4, .int x4)] [] M (rec7 M x1 x2 x3 x4)) (rec19 : Mem → Int32 → Int32 → Int32 → Int32 → Int32 → Int32 → RS) (hrec19 : ∀ (M : Mem) (x1 : Int32) (x2 : Int32) (x3 : Int32) (x4 : Int32) (x5 : Int32) (x6 : Int32), GO miX12_isRound (5) 0 0 0 0 19 [(0, .ref 87), (1, .int x1), (2, .int x2), (3, .int x3), (4, .int x4), (5, .int x5), (6, .int x6)] [] M (rec19 M x1 x2 x3 x4 x5 x6)) (M : Mem) (x1 : Int32) (x2 : Int32) (x3 : Int32) (x4 : Int32) (x6 : Int32) (s0 : Int32) (s1 : Int32) : GO miX12_isRound (5) 0 0 0 0 51 [(0, .ref 87), (1, .int x1), (2, .int x2), (3, .int x3), (4, .int x4), (6, .int x6)] [.int s0, .int s1] M (fX12_isRound_b51 rec7 rec19 M x1 x2 x3 x4 x6 s0 s1) := by
  show GO miX12_isRound (5) 0 0 0 0 51 [(0, .ref 87), (1, .int x1), (2, .int x2), (3, .int x3), (4, .int x4), (6, .int x6)] [.int s0, .int s1] M (rec19 M x1 x2 x3 x4 (s1 ||| s0) (x6 + 1))
  refine g_ior dX12_isRound_51 ?_
  refine g_istore (L' := [(5, .int (s1 ||| s0)), (0, .ref 87), (1, .int x1), (2, .int x2), (3, .int x3), (4, .int x4), (6, .int x6)]) (by decide) rfl dX12_isRound_52 ?_
  refine g_iinc (v := x6 + 1) (L' := [(6, .int (x6 + 1)), (5, .int (s1 ||| s0)), (0, .ref 87), (1, .int x1), (2, .int x2), (3, .int x3), (4, .int x4)]) 6 rfl rfl (by decide) rfl dX12_isRound_54 ?_
  refine g_goto (tgt := 19) rfl dX12_isRound_57 ?_
  exact GO.pick [2, 3, 4, 5, 6, 1, 0] rfl <| hrec19 M x1 x2 x3 x4 (s1 ||| s0) (x6 + 1)
def fX12_isRound_b19 (rec7 : Mem → Int32 → Int32 → Int32 → Int32 → RS) : Nat → Mem → Int32 → Int32 → Int32 → Int32 → Int32 → Int32 → RS
  | 0 => fun _ _ _ _ _ _ _ => none
  | n + 1 => fun M x1 x2 x3 x4 x5 x6 => if x6 < (gi M 90 0) then bI (fX12_isOf M x3 x6) (fun M3 v4 => if v4 = 0 then fX12_isRound_b51 rec7 (fX12_isRound_b19 rec7 n) M3 x1 x2 x3 x4 x6 0 x5 else bI (fX12_envyOf M3 x6) (fun M5 v6 => fX12_isRound_b51 rec7 (fX12_isRound_b19 rec7 n) M5 x1 x2 x3 x4 x6 v6 x5)) else rec7 M x1 x2 x5 (x4 + 1)
theorem SX12_isRound_b19 (rec7 : Mem → Int32 → Int32 → Int32 → Int32 → RS) (hrec7 : ∀ (M : Mem) (x1 : Int32) (x2 : Int32) (x3 : Int32) (x4 : Int32), GO miX12_isRound (5) 0 0 0 0 7 [(0, .ref 87), (1, .int x1), (2, .int x2), (3, .int x3), (4, .int x4)] [] M (rec7 M x1 x2 x3 x4)) (n : Nat) : ∀ (M : Mem) (x1 : Int32) (x2 : Int32) (x3 : Int32) (x4 : Int32) (x5 : Int32) (x6 : Int32), GO miX12_isRound (5) 0 0 0 0 19 [(0, .ref 87), (1, .int x1), (2, .int x2), (3, .int x3), (4, .int x4), (5, .int x5), (6, .int x6)] [] M (fX12_isRound_b19 rec7 n M x1 x2 x3 x4 x5 x6) := by
  induction n with
  | zero => intro M x1 x2 x3 x4 x5 x6 ; exact GO.none
  | succ n hrec19 =>
    intro M x1 x2 x3 x4 x5 x6 
    show GO miX12_isRound (5) 0 0 0 0 19 [(0, .ref 87), (1, .int x1), (2, .int x2), (3, .int x3), (4, .int x4), (5, .int x5), (6, .int x6)] [] M (if x6 < (gi M 90 0) then bI (fX12_isOf M x3 x6) (fun M3 v4 => if v4 = 0 then fX12_isRound_b51 rec7 (fX12_isRound_b19 rec7 n) M3 x1 x2 x3 x4 x6 0 x5 else bI (fX12_envyOf M3 x6) (fun M5 v6 => fX12_isRound_b51 rec7 (fX12_isRound_b19 rec7 n) M5 x1 x2 x3 x4 x6 v6 x5)) else rec7 M x1 x2 x5 (x4 + 1))
    refine g_iload 6 rfl dX12_isRound_19 ?_
    refine g_aload_n 0 rfl rfl dX12_isRound_21 ?_
    refine g_getR (k := 4) (b := 90) clX12 kd_87 (by decide) rfl rfl flX12_35 dX12_isRound_22 ?_
    refine g_iconst (v := 0) (by decide) dX12_isRound_25 ?_
    refine g_aldL (j := 0) kd_90 (by decide) (by decide) dX12_isRound_26 ?_
    refine g_icmp_ge (tgt := 60) rfl dX12_isRound_27 (fun c => ?_) (fun c => ?_)
    · refine g_iload 5 rfl dX12_isRound_60 ?_
      refine g_istore_n (L' := [(3, .int x5), (0, .ref 87), (1, .int x1), (2, .int x2), (4, .int x4), (5, .int x5), (6, .int x6)]) (by decide) rfl rfl dX12_isRound_62 ?_
      refine g_iinc (v := x4 + 1) (L' := [(4, .int (x4 + 1)), (3, .int x5), (0, .ref 87), (1, .int x1), (2, .int x2), (5, .int x5), (6, .int x6)]) 4 rfl rfl (by decide) rfl dX12_isRound_63 ?_
      refine g_goto (tgt := 7) rfl dX12_isRound_66 ?_
      exact GO.pick [2, 3, 4, 1, 0] rfl <| hrec7 M x1 x2 x5 (x4 + 1)
    · refine g_iload 5 rfl dX12_isRound_30 ?_
      refine g_iload_n 3 rfl rfl dX12_isRound_32 ?_
      refine g_iload 6 rfl dX12_isRound_33 ?_
      refine g_callSI (y := miX12_isOf) (As := [.int x3, .int x6]) (rest := [.int x5]) moX12_isOf rfl mlX12_333 (by first | decide | omega) (by decide) (by simp [Value.category]) rfl dX12_isRound_35 (SX12_isOf  M x3 x6) (fun M3 v4 => ?_)
      refine g_if_eq (tgt := 50) rfl dX12_isRound_38 (fun c => ?_) (fun c => ?_)
      · refine g_iconst (v := 0) (by decide) dX12_isRound_50 ?_
        exact GO.pick [0, 1, 2, 3, 4, 6] rfl <| SX12_isRound_b51  rec7 hrec7 (fX12_isRound_b19 rec7 n) hrec19 M3 x1 x2 x3 x4 x6 0 x5
      · refine g_aload_n 0 rfl rfl dX12_isRound_41 ?_
        refine g_iload 6 rfl dX12_isRound_42 ?_
        refine g_callVI (y := miX12_envyOf) (As := [.int x6]) (rest := [.int x5]) clX12 kd_87 rfl moX12_envyOf rfl mlX12_377 (by first | decide | omega) (by decide) (by simp [Value.category]) rfl dX12_isRound_44 (SX12_envyOf  M3 x6) (fun M5 v6 => ?_)
        refine g_goto (tgt := 51) rfl dX12_isRound_47 ?_
        exact GO.pick [0, 1, 2, 3, 4, 6] rfl <| SX12_isRound_b51  rec7 hrec7 (fX12_isRound_b19 rec7 n) hrec19 M5 x1 x2 x3 x4 x6 v6 x5
def fX12_isRound_b7 : Nat → Mem → Int32 → Int32 → Int32 → Int32 → RS
  | 0 => fun _ _ _ _ _ => none
  | n + 1 => fun M x1 x2 x3 x4 => if x4 < x2 then fX12_isRound_b19 (fX12_isRound_b7 n) FU M x1 x2 x3 x4 0 0 else bI (fX12_isOf M x3 x1) (fun M1 v2 => chk (isZ v2) (some (M1, .inr (some (.int v2)))))
theorem SX12_isRound_b7 (n : Nat) : ∀ (M : Mem) (x1 : Int32) (x2 : Int32) (x3 : Int32) (x4 : Int32), GO miX12_isRound (5) 0 0 0 0 7 [(0, .ref 87), (1, .int x1), (2, .int x2), (3, .int x3), (4, .int x4)] [] M (fX12_isRound_b7 n M x1 x2 x3 x4) := by
  induction n with
  | zero => intro M x1 x2 x3 x4 ; exact GO.none
  | succ n hrec7 =>
    intro M x1 x2 x3 x4 
    show GO miX12_isRound (5) 0 0 0 0 7 [(0, .ref 87), (1, .int x1), (2, .int x2), (3, .int x3), (4, .int x4)] [] M (if x4 < x2 then fX12_isRound_b19 (fX12_isRound_b7 n) FU M x1 x2 x3 x4 0 0 else bI (fX12_isOf M x3 x1) (fun M1 v2 => chk (isZ v2) (some (M1, .inr (some (.int v2))))))
    refine g_iload 4 rfl dX12_isRound_7 ?_
    refine g_iload_n 2 rfl rfl dX12_isRound_9 ?_
    refine g_icmp_ge (tgt := 69) rfl dX12_isRound_10 (fun c => ?_) (fun c => ?_)
    · refine g_iload_n 3 rfl rfl dX12_isRound_69 ?_
      refine g_iload_n 1 rfl rfl dX12_isRound_70 ?_
      refine g_callSI (y := miX12_isOf) (As := [.int x3, .int x1]) (rest := []) moX12_isOf rfl mlX12_333 (by first | decide | omega) (by decide) (by simp [Value.category]) rfl dX12_isRound_71 (SX12_isOf  M x3 x1) (fun M1 v2 => ?_)
      refine GO.chk fun hz => ?_
      exact g_zreturn rfl (by decide) (by decide) dX12_isRound_74 hz
    · refine g_iconst (v := 0) (by decide) dX12_isRound_13 ?_
      refine g_istore (L' := [(5, .int 0), (0, .ref 87), (1, .int x1), (2, .int x2), (3, .int x3), (4, .int x4)]) (by decide) rfl dX12_isRound_14 ?_
      refine g_iconst (v := 0) (by decide) dX12_isRound_16 ?_
      refine g_istore (L' := [(6, .int 0), (5, .int 0), (0, .ref 87), (1, .int x1), (2, .int x2), (3, .int x3), (4, .int x4)]) (by decide) rfl dX12_isRound_17 ?_
      exact GO.pick [2, 3, 4, 5, 6, 1, 0] rfl <| SX12_isRound_b19  (fX12_isRound_b7 n) hrec7 FU M x1 x2 x3 x4 0 0
def fX12_isRound (M : Mem) (x1 : Int32) (x2 : Int32) : RS := fX12_isRound_b7  FU M x1 x2 ((1 : Int32) <<< (x1 &&& 31)) 0
theorem SX12_isRound (M : Mem) (x1 : Int32) (x2 : Int32) : CTO (5) miX12_isRound 0 0 [.ref 87, .int x1, .int x2] M (fX12_isRound  M x1 x2) := by
  refine CTO.of (by decide) (by simp [lg_sl, Value.category]) ?_
  show GO miX12_isRound (5) 0 0 0 0 0 [(0, .ref 87), (1, .int x1), (2, .int x2)] [] M (fX12_isRound_b7  FU M x1 x2 ((1 : Int32) <<< (x1 &&& 31)) 0)
  refine g_iconst (v := 1) (by decide) dX12_isRound_0 ?_
  refine g_iload_n 1 rfl rfl dX12_isRound_1 ?_
  refine g_ishl dX12_isRound_2 ?_
  refine g_istore_n (L' := [(3, .int ((1 : Int32) <<< (x1 &&& 31))), (0, .ref 87), (1, .int x1), (2, .int x2)]) (by decide) rfl rfl dX12_isRound_3 ?_
  refine g_iconst (v := 0) (by decide) dX12_isRound_4 ?_
  refine g_istore (L' := [(4, .int 0), (3, .int ((1 : Int32) <<< (x1 &&& 31))), (0, .ref 87), (1, .int x1), (2, .int x2)]) (by decide) rfl dX12_isRound_5 ?_
  exact GO.pick [2, 3, 4, 1, 0] rfl <| SX12_isRound_b7  FU M x1 x2 ((1 : Int32) <<< (x1 &&& 31)) 0
def fX12_ring_b19 (rec7 : Mem → Int32 → RS) : Nat → Mem → Int32 → Int32 → RS
  | 0 => fun _ _ _ => none
  | n + 1 => fun M x1 x2 => if x2 < (gi M 90 0) then bI (fX12_isRound M x2 x1) (fun M2 v3 => if v3 = 0 then (fX12_ring_b19 rec7 n) M2 x1 (x2 + 1) else some (M2, .inr (some (.int x1)))) else rec7 M (x1 + 1)
theorem SX12_ring_b19 (rec7 : Mem → Int32 → RS) (hrec7 : ∀ (M : Mem) (x1 : Int32), GO miX12_ring (6) 0 0 0 0 7 [(0, .ref 87), (1, .int x1)] [] M (rec7 M x1)) (n : Nat) : ∀ (M : Mem) (x1 : Int32) (x2 : Int32), GO miX12_ring (6) 0 0 0 0 19 [(0, .ref 87), (1, .int x1), (2, .int x2)] [] M (fX12_ring_b19 rec7 n M x1 x2) := by
  induction n with
  | zero => intro M x1 x2 ; exact GO.none
  | succ n hrec19 =>
    intro M x1 x2 
    show GO miX12_ring (6) 0 0 0 0 19 [(0, .ref 87), (1, .int x1), (2, .int x2)] [] M (if x2 < (gi M 90 0) then bI (fX12_isRound M x2 x1) (fun M2 v3 => if v3 = 0 then (fX12_ring_b19 rec7 n) M2 x1 (x2 + 1) else some (M2, .inr (some (.int x1)))) else rec7 M (x1 + 1))
    refine g_iload_n 2 rfl rfl dX12_ring_19 ?_
    refine g_aload_n 0 rfl rfl dX12_ring_20 ?_
    refine g_getR (k := 4) (b := 90) clX12 kd_87 (by decide) rfl rfl flX12_35 dX12_ring_21 ?_
    refine g_iconst (v := 0) (by decide) dX12_ring_24 ?_
    refine g_aldL (j := 0) kd_90 (by decide) (by decide) dX12_ring_25 ?_
    refine g_icmp_ge (tgt := 46) rfl dX12_ring_26 (fun c => ?_) (fun c => ?_)
    · refine g_iinc (v := x1 + 1) (L' := [(1, .int (x1 + 1)), (0, .ref 87), (2, .int x2)]) 1 rfl rfl (by decide) rfl dX12_ring_46 ?_
      refine g_goto (tgt := 7) rfl dX12_ring_49 ?_
      exact GO.pick [1, 0] rfl <| hrec7 M (x1 + 1)
    · refine g_aload_n 0 rfl rfl dX12_ring_29 ?_
      refine g_iload_n 2 rfl rfl dX12_ring_30 ?_
      refine g_iload_n 1 rfl rfl dX12_ring_31 ?_
      refine g_callVI (y := miX12_isRound) (As := [.int x2, .int x1]) (rest := []) clX12 kd_87 rfl moX12_isRound rfl mlX12_423 (by first | decide | omega) (by decide) (by simp [Value.category]) rfl dX12_ring_32 (SX12_isRound  M x2 x1) (fun M2 v3 => ?_)
      refine g_if_eq (tgt := 40) rfl dX12_ring_35 (fun c => ?_) (fun c => ?_)
      · refine g_iinc (v := x2 + 1) (L' := [(2, .int (x2 + 1)), (0, .ref 87), (1, .int x1)]) 2 rfl rfl (by decide) rfl dX12_ring_40 ?_
        refine g_goto (tgt := 19) rfl dX12_ring_43 ?_
        exact GO.pick [1, 2, 0] rfl <| hrec19 M2 x1 (x2 + 1)
      · refine g_iload_n 1 rfl rfl dX12_ring_38 ?_
        exact g_ireturn rfl (by decide) (by decide) dX12_ring_39 rfl rfl
def fX12_ring_b7 : Nat → Mem → Int32 → RS
  | 0 => fun _ _ => none
  | n + 1 => fun M x1 => if (gi M 90 0) < x1 then some (M, .inr (some (.int (-1)))) else fX12_ring_b19 (fX12_ring_b7 n) FU M x1 0
theorem SX12_ring_b7 (n : Nat) : ∀ (M : Mem) (x1 : Int32), GO miX12_ring (6) 0 0 0 0 7 [(0, .ref 87), (1, .int x1)] [] M (fX12_ring_b7 n M x1) := by
  induction n with
  | zero => intro M x1 ; exact GO.none
  | succ n hrec7 =>
    intro M x1 
    show GO miX12_ring (6) 0 0 0 0 7 [(0, .ref 87), (1, .int x1)] [] M (if (gi M 90 0) < x1 then some (M, .inr (some (.int (-1)))) else fX12_ring_b19 (fX12_ring_b7 n) FU M x1 0)
    refine g_iload_n 1 rfl rfl dX12_ring_7 ?_
    refine g_aload_n 0 rfl rfl dX12_ring_8 ?_
    refine g_getR (k := 4) (b := 90) clX12 kd_87 (by decide) rfl rfl flX12_35 dX12_ring_9 ?_
    refine g_iconst (v := 0) (by decide) dX12_ring_12 ?_
    refine g_aldL (j := 0) kd_90 (by decide) (by decide) dX12_ring_13 ?_
    refine g_icmp_gt (tgt := 52) rfl dX12_ring_14 (fun c => ?_) (fun c => ?_)
    · refine g_iconst (v := (-1)) (by decide) dX12_ring_52 ?_
      exact g_ireturn rfl (by decide) (by decide) dX12_ring_53 rfl rfl
    · refine g_iconst (v := 0) (by decide) dX12_ring_17 ?_
      refine g_istore_n (L' := [(2, .int 0), (0, .ref 87), (1, .int x1)]) (by decide) rfl rfl dX12_ring_18 ?_
      exact GO.pick [1, 2, 0] rfl <| SX12_ring_b19  (fX12_ring_b7 n) hrec7 FU M x1 0
def fX12_ring (M : Mem)  : RS := wr (si M 87 3 0) (fun M1 => fX12_ring_b7  FU M1 2)
theorem SX12_ring (M : Mem)  : CTO (6) miX12_ring 0 0 [.ref 87] M (fX12_ring  M ) := by
  refine CTO.of (by decide) (by simp [lg_sl, Value.category]) ?_
  show GO miX12_ring (6) 0 0 0 0 0 [(0, .ref 87)] [] M (wr (si M 87 3 0) (fun M1 => fX12_ring_b7  FU M1 2))
  refine g_aload_n 0 rfl rfl dX12_ring_0 ?_
  refine g_iconst (v := 0) (by decide) dX12_ring_1 ?_
  refine g_putI (k := 3) clX12 kd_87 (by decide) rfl (by decide) rfl flX12_140 dX12_ring_2 ?_
  refine GO.wr (fun M1 => ?_)
  refine g_iconst (v := 2) (by decide) dX12_ring_5 ?_
  refine g_istore_n (L' := [(1, .int 2), (0, .ref 87)]) (by decide) rfl rfl dX12_ring_6 ?_
  exact GO.pick [1, 0] rfl <| SX12_ring_b7  FU M1 2
def fX12_tellWorths_b14 (rec2 : Mem → Int32 → RS) : Nat → Mem → Int32 → Int32 → RS
  | 0 => fun _ _ _ => none
  | n + 1 => fun M x1 x2 => if x2 < (gi M 90 1) then bI (fX12_worthOf M x1 x2) (fun M1 v2 => chk (inb ((9 * x1) + x2) 72) (wr (si M1 109 (ix ((9 * x1) + x2)) v2) (fun M4 => (fX12_tellWorths_b14 rec2 n) M4 x1 (x2 + 1)))) else rec2 M (x1 + 1)
theorem SX12_tellWorths_b14 (rec2 : Mem → Int32 → RS) (hrec2 : ∀ (M : Mem) (x1 : Int32), GO miX12_tellWorths (4) 0 0 0 0 2 [(0, .ref 87), (1, .int x1)] [] M (rec2 M x1)) (n : Nat) : ∀ (M : Mem) (x1 : Int32) (x2 : Int32), GO miX12_tellWorths (4) 0 0 0 0 14 [(0, .ref 87), (1, .int x1), (2, .int x2)] [] M (fX12_tellWorths_b14 rec2 n M x1 x2) := by
  induction n with
  | zero => intro M x1 x2 ; exact GO.none
  | succ n hrec14 =>
    intro M x1 x2 
    show GO miX12_tellWorths (4) 0 0 0 0 14 [(0, .ref 87), (1, .int x1), (2, .int x2)] [] M (if x2 < (gi M 90 1) then bI (fX12_worthOf M x1 x2) (fun M1 v2 => chk (inb ((9 * x1) + x2) 72) (wr (si M1 109 (ix ((9 * x1) + x2)) v2) (fun M4 => (fX12_tellWorths_b14 rec2 n) M4 x1 (x2 + 1)))) else rec2 M (x1 + 1))
    refine g_iload_n 2 rfl rfl dX12_tellWorths_14 ?_
    refine g_aload_n 0 rfl rfl dX12_tellWorths_15 ?_
    refine g_getR (k := 4) (b := 90) clX12 kd_87 (by decide) rfl rfl flX12_35 dX12_tellWorths_16 ?_
    refine g_iconst (v := 1) (by decide) dX12_tellWorths_19 ?_
    refine g_aldL (j := 1) kd_90 (by decide) (by decide) dX12_tellWorths_20 ?_
    refine g_icmp_ge (tgt := 47) rfl dX12_tellWorths_21 (fun c => ?_) (fun c => ?_)
    · refine g_iinc (v := x1 + 1) (L' := [(1, .int (x1 + 1)), (0, .ref 87), (2, .int x2)]) 1 rfl rfl (by decide) rfl dX12_tellWorths_47 ?_
      refine g_goto (tgt := 2) rfl dX12_tellWorths_50 ?_
      exact GO.pick [1, 0] rfl <| hrec2 M (x1 + 1)
    · refine g_aload_n 0 rfl rfl dX12_tellWorths_24 ?_
      refine g_getR (k := 45) (b := 109) clX12 kd_87 (by decide) rfl rfl flX12_98 dX12_tellWorths_25 ?_
      refine g_bipush (v := 9) (by decide) dX12_tellWorths_28 ?_
      refine g_iload_n 1 rfl rfl dX12_tellWorths_30 ?_
      refine g_imul dX12_tellWorths_31 ?_
      refine g_iload_n 2 rfl rfl dX12_tellWorths_32 ?_
      refine g_iadd dX12_tellWorths_33 ?_
      refine g_aload_n 0 rfl rfl dX12_tellWorths_34 ?_
      refine g_iload_n 1 rfl rfl dX12_tellWorths_35 ?_
      refine g_iload_n 2 rfl rfl dX12_tellWorths_36 ?_
      refine g_callVI (y := miX12_worthOf) (As := [.int x1, .int x2]) (rest := [.int ((9 * x1) + x2), .ref 109]) clX12 kd_87 rfl moX12_worthOf rfl mlX12_362 (by first | decide | omega) (by decide) (by simp [Value.category]) rfl dX12_tellWorths_37 (SX12_worthOf  M x1 x2) (fun M1 v2 => ?_)
      refine g_ast kd_109 dX12_tellWorths_40 (fun hi3 => ?_)
      refine GO.wr (fun M4 => ?_)
      refine g_iinc (v := x2 + 1) (L' := [(2, .int (x2 + 1)), (0, .ref 87), (1, .int x1)]) 2 rfl rfl (by decide) rfl dX12_tellWorths_41 ?_
      refine g_goto (tgt := 14) rfl dX12_tellWorths_44 ?_
      exact GO.pick [1, 2, 0] rfl <| hrec14 M4 x1 (x2 + 1)
def fX12_tellWorths_b2 : Nat → Mem → Int32 → RS
  | 0 => fun _ _ => none
  | n + 1 => fun M x1 => if x1 < (gi M 90 0) then fX12_tellWorths_b14 (fX12_tellWorths_b2 n) FU M x1 0 else some (M, .inr none)
theorem SX12_tellWorths_b2 (n : Nat) : ∀ (M : Mem) (x1 : Int32), GO miX12_tellWorths (4) 0 0 0 0 2 [(0, .ref 87), (1, .int x1)] [] M (fX12_tellWorths_b2 n M x1) := by
  induction n with
  | zero => intro M x1 ; exact GO.none
  | succ n hrec2 =>
    intro M x1 
    show GO miX12_tellWorths (4) 0 0 0 0 2 [(0, .ref 87), (1, .int x1)] [] M (if x1 < (gi M 90 0) then fX12_tellWorths_b14 (fX12_tellWorths_b2 n) FU M x1 0 else some (M, .inr none))
    refine g_iload_n 1 rfl rfl dX12_tellWorths_2 ?_
    refine g_aload_n 0 rfl rfl dX12_tellWorths_3 ?_
    refine g_getR (k := 4) (b := 90) clX12 kd_87 (by decide) rfl rfl flX12_35 dX12_tellWorths_4 ?_
    refine g_iconst (v := 0) (by decide) dX12_tellWorths_7 ?_
    refine g_aldL (j := 0) kd_90 (by decide) (by decide) dX12_tellWorths_8 ?_
    refine g_icmp_ge (tgt := 53) rfl dX12_tellWorths_9 (fun c => ?_) (fun c => ?_)
    · exact g_vreturn rfl (by decide) (by decide) dX12_tellWorths_53
    · refine g_iconst (v := 0) (by decide) dX12_tellWorths_12 ?_
      refine g_istore_n (L' := [(2, .int 0), (0, .ref 87), (1, .int x1)]) (by decide) rfl rfl dX12_tellWorths_13 ?_
      exact GO.pick [1, 2, 0] rfl <| SX12_tellWorths_b14  (fX12_tellWorths_b2 n) hrec2 FU M x1 0
def fX12_tellWorths (M : Mem)  : RS := fX12_tellWorths_b2  FU M 0
theorem SX12_tellWorths (M : Mem)  : CTO (4) miX12_tellWorths 0 0 [.ref 87] M (fX12_tellWorths  M ) := by
  refine CTO.of (by decide) (by simp [lg_sl, Value.category]) ?_
  show GO miX12_tellWorths (4) 0 0 0 0 0 [(0, .ref 87)] [] M (fX12_tellWorths_b2  FU M 0)
  refine g_iconst (v := 0) (by decide) dX12_tellWorths_0 ?_
  refine g_istore_n (L' := [(1, .int 0), (0, .ref 87)]) (by decide) rfl rfl dX12_tellWorths_1 ?_
  exact GO.pick [1, 0] rfl <| SX12_tellWorths_b2  FU M 0
def fX12_bestBy (M : Mem) (x1 : Int32) (x2 : Int32) (x3 : Int32) : RS := if x3 = (-1) then chk (inb (((x1 + 1) <<< ((9 : Int32) &&& 31)) + x2) 4608) (some (M, .inr (some (.long (gl M 108 (ix (((x1 + 1) <<< ((9 : Int32) &&& 31)) + x2))))))) else chk (inb (((x1 + 1) <<< ((9 : Int32) &&& 31)) + (x2 ||| ((1 : Int32) <<< (x3 &&& 31)))) 4608) (if 0 < (lg_cmp (gl M 108 (ix (((x1 + 1) <<< ((9 : Int32) &&& 31)) + (x2 ||| ((1 : Int32) <<< (x3 &&& 31)))))) (-1152921504606846976)) then chk (inb ((9 * x1) + x3) 72) (some (M, .inr (some (.long ((gl M 108 (ix (((x1 + 1) <<< ((9 : Int32) &&& 31)) + (x2 ||| ((1 : Int32) <<< (x3 &&& 31)))))) + (Int32.toInt64 (gi M 109 (ix ((9 * x1) + x3))))))))) else some (M, .inr (some (.long (-1152921504606846976)))))
theorem SX12_bestBy (M : Mem) (x1 : Int32) (x2 : Int32) (x3 : Int32) : CTO (0) miX12_bestBy 0 0 [.ref 87, .int x1, .int x2, .int x3] M (fX12_bestBy  M x1 x2 x3) := by
  refine CTO.of (by decide) (by simp [lg_sl, Value.category]) ?_
  show GO miX12_bestBy (0) 0 0 0 0 0 [(0, .ref 87), (1, .int x1), (2, .int x2), (3, .int x3)] [] M (if x3 = (-1) then chk (inb (((x1 + 1) <<< ((9 : Int32) &&& 31)) + x2) 4608) (some (M, .inr (some (.long (gl M 108 (ix (((x1 + 1) <<< ((9 : Int32) &&& 31)) + x2))))))) else chk (inb (((x1 + 1) <<< ((9 : Int32) &&& 31)) + (x2 ||| ((1 : Int32) <<< (x3 &&& 31)))) 4608) (if 0 < (lg_cmp (gl M 108 (ix (((x1 + 1) <<< ((9 : Int32) &&& 31)) + (x2 ||| ((1 : Int32) <<< (x3 &&& 31)))))) (-1152921504606846976)) then chk (inb ((9 * x1) + x3) 72) (some (M, .inr (some (.long ((gl M 108 (ix (((x1 + 1) <<< ((9 : Int32) &&& 31)) + (x2 ||| ((1 : Int32) <<< (x3 &&& 31)))))) + (Int32.toInt64 (gi M 109 (ix ((9 * x1) + x3))))))))) else some (M, .inr (some (.long (-1152921504606846976))))))
  refine g_iload_n 3 rfl rfl dX12_bestBy_0 ?_
  refine g_iconst (v := (-1)) (by decide) dX12_bestBy_1 ?_
  refine g_icmp_ne (tgt := 19) rfl dX12_bestBy_2 (fun c => ?_) (fun c => ?_)
  · refine g_aload_n 0 rfl rfl dX12_bestBy_19 ?_
    refine g_getR (k := 44) (b := 108) clX12 kd_87 (by decide) rfl rfl flX12_94 dX12_bestBy_20 ?_
    refine g_iload_n 1 rfl rfl dX12_bestBy_23 ?_
    refine g_iconst (v := 1) (by decide) dX12_bestBy_24 ?_
    refine g_iadd dX12_bestBy_25 ?_
    refine g_bipush (v := 9) (by decide) dX12_bestBy_26 ?_
    refine g_ishl dX12_bestBy_28 ?_
    refine g_iload_n 2 rfl rfl dX12_bestBy_29 ?_
    refine g_iconst (v := 1) (by decide) dX12_bestBy_30 ?_
    refine g_iload_n 3 rfl rfl dX12_bestBy_31 ?_
    refine g_ishl dX12_bestBy_32 ?_
    refine g_ior dX12_bestBy_33 ?_
    refine g_iadd dX12_bestBy_34 ?_
    refine g_lald kd_108 dX12_bestBy_35 (fun hi1 => ?_)
    refine g_lstore (L' := [(4, .long (gl M 108 (ix (((x1 + 1) <<< ((9 : Int32) &&& 31)) + (x2 ||| ((1 : Int32) <<< (x3 &&& 31))))))), (0, .ref 87), (1, .int x1), (2, .int x2), (3, .int x3)]) (by decide) rfl dX12_bestBy_36 ?_
    refine g_lload 0 rfl dX12_bestBy_38 ?_
    refine g_ldc2 (v := (-1152921504606846976)) coX12_426 dX12_bestBy_40 ?_
    refine g_lcmp dX12_bestBy_43 ?_
    refine g_if_gt (tgt := 53) rfl dX12_bestBy_44 (fun c => ?_) (fun c => ?_)
    · refine g_lload 0 rfl dX12_bestBy_53 ?_
      refine g_aload_n 1 rfl rfl dX12_bestBy_55 ?_
      refine g_getR (k := 45) (b := 109) clX12 kd_87 (by decide) rfl rfl flX12_98 dX12_bestBy_56 ?_
      refine g_bipush (v := 9) (by decide) dX12_bestBy_59 ?_
      refine g_iload_n 2 rfl rfl dX12_bestBy_61 ?_
      refine g_imul dX12_bestBy_62 ?_
      refine g_iload_n 4 rfl rfl dX12_bestBy_63 ?_
      refine g_iadd dX12_bestBy_64 ?_
      refine g_ald kd_109 dX12_bestBy_65 (fun hi2 => ?_)
      refine g_i2l dX12_bestBy_66 ?_
      refine g_ladd dX12_bestBy_67 ?_
      exact g_lreturn rfl (by decide) (by decide) dX12_bestBy_68
    · refine g_ldc2 (v := (-1152921504606846976)) coX12_426 dX12_bestBy_47 ?_
      refine g_goto (tgt := 68) rfl dX12_bestBy_50 ?_
      exact g_lreturn rfl (by decide) (by decide) dX12_bestBy_68
  · refine g_aload_n 0 rfl rfl dX12_bestBy_5 ?_
    refine g_getR (k := 44) (b := 108) clX12 kd_87 (by decide) rfl rfl flX12_94 dX12_bestBy_6 ?_
    refine g_iload_n 1 rfl rfl dX12_bestBy_9 ?_
    refine g_iconst (v := 1) (by decide) dX12_bestBy_10 ?_
    refine g_iadd dX12_bestBy_11 ?_
    refine g_bipush (v := 9) (by decide) dX12_bestBy_12 ?_
    refine g_ishl dX12_bestBy_14 ?_
    refine g_iload_n 2 rfl rfl dX12_bestBy_15 ?_
    refine g_iadd dX12_bestBy_16 ?_
    refine g_lald kd_108 dX12_bestBy_17 (fun hi3 => ?_)
    exact g_lreturn rfl (by decide) (by decide) dX12_bestBy_18
def fX12_tellBest_b64 (rec22 : Mem → Int32 → Int32 → RS) (M : Mem) (x1 : Int32) (x2 : Int32) (s0 : Int64) (s1 : Int32) : RS := chk (inb s1 4608) (wr (sl M 108 (ix s1) s0) (fun M6 => rec22 M6 x1 (x2 + 1)))
theorem SX12_tellBest_b64 (rec22 : Mem → Int32 → Int32 → RS) (hrec22 : ∀ (M : Mem) (x1 : Int32) (x2 : Int32), GO miX12_tellBest (5) 0 0 0 0 22 [(0, .ref 87), (1, .int x1), (2, .int x2)] [] M (rec22 M x1 x2)) (M : Mem) (x1 : Int32) (x2 : Int32) (s0 : Int64) (s1 : Int32) : GO miX12_tellBest (5) 0 0 0 0 64 [(0, .ref 87), (1, .int x1), (2, .int x2)] [.long s0, .int s1, .ref 108] M (fX12_tellBest_b64 rec22 M x1 x2 s0 s1) := by
  show GO miX12_tellBest (5) 0 0 0 0 64 [(0, .ref 87), (1, .int x1), (2, .int x2)] [.long s0, .int s1, .ref 108] M (chk (inb s1 4608) (wr (sl M 108 (ix s1) s0) (fun M6 => rec22 M6 x1 (x2 + 1))))
  refine g_last kd_108 dX12_tellBest_64 (fun hi5 => ?_)
  refine GO.wr (fun M6 => ?_)
  refine g_iinc (v := x2 + 1) (L' := [(2, .int (x2 + 1)), (0, .ref 87), (1, .int x1)]) 2 rfl rfl (by decide) rfl dX12_tellBest_65 ?_
  refine g_goto (tgt := 22) rfl dX12_tellBest_68 ?_
  exact GO.pick [1, 2, 0] rfl <| hrec22 M6 x1 (x2 + 1)
def fX12_tellBest_b145 (rec80 : Mem → Int32 → RS) (rec86 : Mem → Int32 → Int32 → RS) (rec110 : Mem → Int32 → Int32 → Int64 → Int32 → RS) (M : Mem) (x2 : Int32) (x3 : Int32) (x4 : Int64) (x6 : Int32) : RS := rec110 M x2 x3 x4 (x6 + 1)
theorem SX12_tellBest_b145 (rec80 : Mem → Int32 → RS) (hrec80 : ∀ (M : Mem) (x2 : Int32), GO miX12_tellBest (5) 0 0 0 0 80 [(0, .ref 87), (2, .int x2)] [] M (rec80 M x2)) (rec86 : Mem → Int32 → Int32 → RS) (hrec86 : ∀ (M : Mem) (x2 : Int32) (x3 : Int32), GO miX12_tellBest (5) 0 0 0 0 86 [(0, .ref 87), (2, .int x2), (3, .int x3)] [] M (rec86 M x2 x3)) (rec110 : Mem → Int32 → Int32 → Int64 → Int32 → RS) (hrec110 : ∀ (M : Mem) (x2 : Int32) (x3 : Int32) (x4 : Int64) (x6 : Int32), GO miX12_tellBest (5) 0 0 0 0 110 [(0, .ref 87), (2, .int x2), (3, .int x3), (4, .long x4), (6, .int x6)] [] M (rec110 M x2 x3 x4 x6)) (M : Mem) (x2 : Int32) (x3 : Int32) (x4 : Int64) (x6 : Int32) : GO miX12_tellBest (5) 0 0 0 0 145 [(0, .ref 87), (2, .int x2), (3, .int x3), (4, .long x4), (6, .int x6)] [] M (fX12_tellBest_b145 rec80 rec86 rec110 M x2 x3 x4 x6) := by
  show GO miX12_tellBest (5) 0 0 0 0 145 [(0, .ref 87), (2, .int x2), (3, .int x3), (4, .long x4), (6, .int x6)] [] M (rec110 M x2 x3 x4 (x6 + 1))
  refine g_iinc (v := x6 + 1) (L' := [(6, .int (x6 + 1)), (0, .ref 87), (2, .int x2), (3, .int x3), (4, .long x4)]) 4 rfl rfl (by decide) rfl dX12_tellBest_145 ?_
  refine g_goto (tgt := 110) rfl dX12_tellBest_148 ?_
  exact GO.pick [1, 2, 3, 4, 0] rfl <| hrec110 M x2 x3 x4 (x6 + 1)
def fX12_tellBest_b110 (rec80 : Mem → Int32 → RS) (rec86 : Mem → Int32 → Int32 → RS) : Nat → Mem → Int32 → Int32 → Int64 → Int32 → RS
  | 0 => fun _ _ _ _ _ => none
  | n + 1 => fun M x2 x3 x4 x6 => if x6 < (gi M 90 1) then bI (fX12_isOf M x3 x6) (fun M11 v12 => if v12 = 0 then bL (fX12_bestBy M11 x2 x3 x6) (fun M13 v14 => fX12_tellBest_b145 rec80 rec86 (fX12_tellBest_b110 rec80 rec86 n) M13 x2 x3 (if v14 < x4 then x4 else v14) x6) else fX12_tellBest_b145 rec80 rec86 (fX12_tellBest_b110 rec80 rec86 n) M11 x2 x3 x4 x6) else chk (inb ((x2 <<< ((9 : Int32) &&& 31)) + x3) 4608) (wr (sl M 108 (ix ((x2 <<< ((9 : Int32) &&& 31)) + x3)) x4) (fun M10 => rec86 M10 x2 (x3 + 1)))
theorem SX12_tellBest_b110 (rec80 : Mem → Int32 → RS) (hrec80 : ∀ (M : Mem) (x2 : Int32), GO miX12_tellBest (5) 0 0 0 0 80 [(0, .ref 87), (2, .int x2)] [] M (rec80 M x2)) (rec86 : Mem → Int32 → Int32 → RS) (hrec86 : ∀ (M : Mem) (x2 : Int32) (x3 : Int32), GO miX12_tellBest (5) 0 0 0 0 86 [(0, .ref 87), (2, .int x2), (3, .int x3)] [] M (rec86 M x2 x3)) (n : Nat) : ∀ (M : Mem) (x2 : Int32) (x3 : Int32) (x4 : Int64) (x6 : Int32), GO miX12_tellBest (5) 0 0 0 0 110 [(0, .ref 87), (2, .int x2), (3, .int x3), (4, .long x4), (6, .int x6)] [] M (fX12_tellBest_b110 rec80 rec86 n M x2 x3 x4 x6) := by
  induction n with
  | zero => intro M x2 x3 x4 x6 ; exact GO.none
  | succ n hrec110 =>
    intro M x2 x3 x4 x6 
    show GO miX12_tellBest (5) 0 0 0 0 110 [(0, .ref 87), (2, .int x2), (3, .int x3), (4, .long x4), (6, .int x6)] [] M (if x6 < (gi M 90 1) then bI (fX12_isOf M x3 x6) (fun M11 v12 => if v12 = 0 then bL (fX12_bestBy M11 x2 x3 x6) (fun M13 v14 => fX12_tellBest_b145 rec80 rec86 (fX12_tellBest_b110 rec80 rec86 n) M13 x2 x3 (if v14 < x4 then x4 else v14) x6) else fX12_tellBest_b145 rec80 rec86 (fX12_tellBest_b110 rec80 rec86 n) M11 x2 x3 x4 x6) else chk (inb ((x2 <<< ((9 : Int32) &&& 31)) + x3) 4608) (wr (sl M 108 (ix ((x2 <<< ((9 : Int32) &&& 31)) + x3)) x4) (fun M10 => rec86 M10 x2 (x3 + 1))))
    refine g_iload 4 rfl dX12_tellBest_110 ?_
    refine g_aload_n 0 rfl rfl dX12_tellBest_112 ?_
    refine g_getR (k := 4) (b := 90) clX12 kd_87 (by decide) rfl rfl flX12_35 dX12_tellBest_113 ?_
    refine g_iconst (v := 1) (by decide) dX12_tellBest_116 ?_
    refine g_aldL (j := 1) kd_90 (by decide) (by decide) dX12_tellBest_117 ?_
    refine g_icmp_ge (tgt := 151) rfl dX12_tellBest_118 (fun c => ?_) (fun c => ?_)
    · refine g_aload_n 0 rfl rfl dX12_tellBest_151 ?_
      refine g_getR (k := 44) (b := 108) clX12 kd_87 (by decide) rfl rfl flX12_94 dX12_tellBest_152 ?_
      refine g_iload_n 1 rfl rfl dX12_tellBest_155 ?_
      refine g_bipush (v := 9) (by decide) dX12_tellBest_156 ?_
      refine g_ishl dX12_tellBest_158 ?_
      refine g_iload_n 2 rfl rfl dX12_tellBest_159 ?_
      refine g_iadd dX12_tellBest_160 ?_
      refine g_lload 3 rfl dX12_tellBest_161 ?_
      refine g_last kd_108 dX12_tellBest_163 (fun hi9 => ?_)
      refine GO.wr (fun M10 => ?_)
      refine g_iinc (v := x3 + 1) (L' := [(3, .int (x3 + 1)), (0, .ref 87), (2, .int x2), (4, .long x4), (6, .int x6)]) 2 rfl rfl (by decide) rfl dX12_tellBest_164 ?_
      refine g_goto (tgt := 86) rfl dX12_tellBest_167 ?_
      exact GO.pick [1, 2, 0] rfl <| hrec86 M10 x2 (x3 + 1)
    · refine g_iload_n 2 rfl rfl dX12_tellBest_121 ?_
      refine g_iload 4 rfl dX12_tellBest_122 ?_
      refine g_callSI (y := miX12_isOf) (As := [.int x3, .int x6]) (rest := []) moX12_isOf rfl mlX12_333 (by first | decide | omega) (by decide) (by simp [Value.category]) rfl dX12_tellBest_124 (SX12_isOf  M x3 x6) (fun M11 v12 => ?_)
      refine g_if_ne (tgt := 145) rfl dX12_tellBest_127 (fun c => ?_) (fun c => ?_)
      · exact GO.pick [0, 1, 2, 3, 4] rfl <| SX12_tellBest_b145  rec80 hrec80 rec86 hrec86 (fX12_tellBest_b110 rec80 rec86 n) hrec110 M11 x2 x3 x4 x6
      · refine g_lload 3 rfl dX12_tellBest_130 ?_
        refine g_aload_n 0 rfl rfl dX12_tellBest_132 ?_
        refine g_iload_n 1 rfl rfl dX12_tellBest_133 ?_
        refine g_iload_n 2 rfl rfl dX12_tellBest_134 ?_
        refine g_iload 4 rfl dX12_tellBest_135 ?_
        refine g_callVL (y := miX12_bestBy) (As := [.int x2, .int x3, .int x6]) (rest := [.long x4]) clX12 kd_87 rfl moX12_bestBy rfl mlX12_434 (by first | decide | omega) (by decide) (by simp [Value.category]) rfl dX12_tellBest_137 (SX12_bestBy  M11 x2 x3 x6) (fun M13 v14 => ?_)
        refine g_mmaxl mlX12_438 ms_maxl mt_Math mc_maxl (by first | decide | omega) (by decide) (by simp [Value.category]) dX12_tellBest_140 ?_
        refine g_lstore (L' := [(4, .long (if v14 < x4 then x4 else v14)), (0, .ref 87), (2, .int x2), (3, .int x3), (6, .int x6)]) (by decide) rfl dX12_tellBest_143 ?_
        exact GO.pick [1, 2, 3, 0, 4] rfl <| SX12_tellBest_b145  rec80 hrec80 rec86 hrec86 (fX12_tellBest_b110 rec80 rec86 n) hrec110 M13 x2 x3 (if v14 < x4 then x4 else v14) x6
def fX12_tellBest_b86 (rec80 : Mem → Int32 → RS) : Nat → Mem → Int32 → Int32 → RS
  | 0 => fun _ _ _ => none
  | n + 1 => fun M x2 x3 => if x3 < ((1 : Int32) <<< ((gi M 90 1) &&& 31)) then bL (fX12_bestBy M x2 x3 (-1)) (fun M7 v8 => fX12_tellBest_b110 rec80 (fX12_tellBest_b86 rec80 n) FU M7 x2 x3 v8 0) else rec80 M (x2 + (-1))
theorem SX12_tellBest_b86 (rec80 : Mem → Int32 → RS) (hrec80 : ∀ (M : Mem) (x2 : Int32), GO miX12_tellBest (5) 0 0 0 0 80 [(0, .ref 87), (2, .int x2)] [] M (rec80 M x2)) (n : Nat) : ∀ (M : Mem) (x2 : Int32) (x3 : Int32), GO miX12_tellBest (5) 0 0 0 0 86 [(0, .ref 87), (2, .int x2), (3, .int x3)] [] M (fX12_tellBest_b86 rec80 n M x2 x3) := by
  induction n with
  | zero => intro M x2 x3 ; exact GO.none
  | succ n hrec86 =>
    intro M x2 x3 
    show GO miX12_tellBest (5) 0 0 0 0 86 [(0, .ref 87), (2, .int x2), (3, .int x3)] [] M (if x3 < ((1 : Int32) <<< ((gi M 90 1) &&& 31)) then bL (fX12_bestBy M x2 x3 (-1)) (fun M7 v8 => fX12_tellBest_b110 rec80 (fX12_tellBest_b86 rec80 n) FU M7 x2 x3 v8 0) else rec80 M (x2 + (-1)))
    refine g_iload_n 2 rfl rfl dX12_tellBest_86 ?_
    refine g_iconst (v := 1) (by decide) dX12_tellBest_87 ?_
    refine g_aload_n 0 rfl rfl dX12_tellBest_88 ?_
    refine g_getR (k := 4) (b := 90) clX12 kd_87 (by decide) rfl rfl flX12_35 dX12_tellBest_89 ?_
    refine g_iconst (v := 1) (by decide) dX12_tellBest_92 ?_
    refine g_aldL (j := 1) kd_90 (by decide) (by decide) dX12_tellBest_93 ?_
    refine g_ishl dX12_tellBest_94 ?_
    refine g_icmp_ge (tgt := 170) rfl dX12_tellBest_95 (fun c => ?_) (fun c => ?_)
    · refine g_iinc (v := x2 + (-1)) (L' := [(2, .int (x2 + (-1))), (0, .ref 87), (3, .int x3)]) 1 rfl (congrArg _ (by decide)) (by decide) rfl dX12_tellBest_170 ?_
      refine g_goto (tgt := 80) rfl dX12_tellBest_173 ?_
      exact GO.pick [1, 0] rfl <| hrec80 M (x2 + (-1))
    · refine g_aload_n 0 rfl rfl dX12_tellBest_98 ?_
      refine g_iload_n 1 rfl rfl dX12_tellBest_99 ?_
      refine g_iload_n 2 rfl rfl dX12_tellBest_100 ?_
      refine g_iconst (v := (-1)) (by decide) dX12_tellBest_101 ?_
      refine g_callVL (y := miX12_bestBy) (As := [.int x2, .int x3, .int (-1)]) (rest := []) clX12 kd_87 rfl moX12_bestBy rfl mlX12_434 (by first | decide | omega) (by decide) (by simp [Value.category]) rfl dX12_tellBest_102 (SX12_bestBy  M x2 x3 (-1)) (fun M7 v8 => ?_)
      refine g_lstore (L' := [(4, .long v8), (0, .ref 87), (2, .int x2), (3, .int x3)]) (by decide) rfl dX12_tellBest_105 ?_
      refine g_iconst (v := 0) (by decide) dX12_tellBest_107 ?_
      refine g_istore (L' := [(6, .int 0), (4, .long v8), (0, .ref 87), (2, .int x2), (3, .int x3)]) (by decide) rfl dX12_tellBest_108 ?_
      exact GO.pick [2, 3, 4, 1, 0] rfl <| SX12_tellBest_b110  rec80 hrec80 (fX12_tellBest_b86 rec80 n) hrec86 FU M7 x2 x3 v8 0
def fX12_tellBest_b80 : Nat → Mem → Int32 → RS
  | 0 => fun _ _ => none
  | n + 1 => fun M x2 => if x2 < 0 then some (M, .inr none) else fX12_tellBest_b86 (fX12_tellBest_b80 n) FU M x2 0
theorem SX12_tellBest_b80 (n : Nat) : ∀ (M : Mem) (x2 : Int32), GO miX12_tellBest (5) 0 0 0 0 80 [(0, .ref 87), (2, .int x2)] [] M (fX12_tellBest_b80 n M x2) := by
  induction n with
  | zero => intro M x2 ; exact GO.none
  | succ n hrec80 =>
    intro M x2 
    show GO miX12_tellBest (5) 0 0 0 0 80 [(0, .ref 87), (2, .int x2)] [] M (if x2 < 0 then some (M, .inr none) else fX12_tellBest_b86 (fX12_tellBest_b80 n) FU M x2 0)
    refine g_iload_n 1 rfl rfl dX12_tellBest_80 ?_
    refine g_if_lt (tgt := 176) rfl dX12_tellBest_81 (fun c => ?_) (fun c => ?_)
    · exact g_vreturn rfl (by decide) (by decide) dX12_tellBest_176
    · refine g_iconst (v := 0) (by decide) dX12_tellBest_84 ?_
      refine g_istore_n (L' := [(3, .int 0), (0, .ref 87), (2, .int x2)]) (by decide) rfl rfl dX12_tellBest_85 ?_
      exact GO.pick [1, 2, 0] rfl <| SX12_tellBest_b86  (fX12_tellBest_b80 n) hrec80 FU M x2 0
def fX12_tellBest_b22 : Nat → Mem → Int32 → Int32 → RS
  | 0 => fun _ _ _ => none
  | n + 1 => fun M x1 x2 => if x2 < ((1 : Int32) <<< ((gi M 90 1) &&& 31)) then bI (fX12_bitsOf M x2) (fun M3 v4 => if v4 = x1 then fX12_tellBest_b64 (fX12_tellBest_b22 n) M3 x1 x2 0 (((gi M 90 0) <<< ((9 : Int32) &&& 31)) + x2) else fX12_tellBest_b64 (fX12_tellBest_b22 n) M3 x1 x2 (-1152921504606846976) (((gi M 90 0) <<< ((9 : Int32) &&& 31)) + x2)) else fX12_tellBest_b80  FU M ((gi M 90 0) - 1)
theorem SX12_tellBest_b22 (n : Nat) : ∀ (M : Mem) (x1 : Int32) (x2 : Int32), GO miX12_tellBest (5) 0 0 0 0 22 [(0, .ref 87), (1, .int x1), (2, .int x2)] [] M (fX12_tellBest_b22 n M x1 x2) := by
  induction n with
  | zero => intro M x1 x2 ; exact GO.none
  | succ n hrec22 =>
    intro M x1 x2 
    show GO miX12_tellBest (5) 0 0 0 0 22 [(0, .ref 87), (1, .int x1), (2, .int x2)] [] M (if x2 < ((1 : Int32) <<< ((gi M 90 1) &&& 31)) then bI (fX12_bitsOf M x2) (fun M3 v4 => if v4 = x1 then fX12_tellBest_b64 (fX12_tellBest_b22 n) M3 x1 x2 0 (((gi M 90 0) <<< ((9 : Int32) &&& 31)) + x2) else fX12_tellBest_b64 (fX12_tellBest_b22 n) M3 x1 x2 (-1152921504606846976) (((gi M 90 0) <<< ((9 : Int32) &&& 31)) + x2)) else fX12_tellBest_b80  FU M ((gi M 90 0) - 1))
    refine g_iload_n 2 rfl rfl dX12_tellBest_22 ?_
    refine g_iconst (v := 1) (by decide) dX12_tellBest_23 ?_
    refine g_aload_n 0 rfl rfl dX12_tellBest_24 ?_
    refine g_getR (k := 4) (b := 90) clX12 kd_87 (by decide) rfl rfl flX12_35 dX12_tellBest_25 ?_
    refine g_iconst (v := 1) (by decide) dX12_tellBest_28 ?_
    refine g_aldL (j := 1) kd_90 (by decide) (by decide) dX12_tellBest_29 ?_
    refine g_ishl dX12_tellBest_30 ?_
    refine g_icmp_ge (tgt := 71) rfl dX12_tellBest_31 (fun c => ?_) (fun c => ?_)
    · refine g_aload_n 0 rfl rfl dX12_tellBest_71 ?_
      refine g_getR (k := 4) (b := 90) clX12 kd_87 (by decide) rfl rfl flX12_35 dX12_tellBest_72 ?_
      refine g_iconst (v := 0) (by decide) dX12_tellBest_75 ?_
      refine g_aldL (j := 0) kd_90 (by decide) (by decide) dX12_tellBest_76 ?_
      refine g_iconst (v := 1) (by decide) dX12_tellBest_77 ?_
      refine g_isub dX12_tellBest_78 ?_
      refine g_istore_n (L' := [(2, .int ((gi M 90 0) - 1)), (0, .ref 87), (1, .int x1)]) (by decide) rfl rfl dX12_tellBest_79 ?_
      exact GO.pick [1, 0] rfl <| SX12_tellBest_b80  FU M ((gi M 90 0) - 1)
    · refine g_aload_n 0 rfl rfl dX12_tellBest_34 ?_
      refine g_getR (k := 44) (b := 108) clX12 kd_87 (by decide) rfl rfl flX12_94 dX12_tellBest_35 ?_
      refine g_aload_n 0 rfl rfl dX12_tellBest_38 ?_
      refine g_getR (k := 4) (b := 90) clX12 kd_87 (by decide) rfl rfl flX12_35 dX12_tellBest_39 ?_
      refine g_iconst (v := 0) (by decide) dX12_tellBest_42 ?_
      refine g_aldL (j := 0) kd_90 (by decide) (by decide) dX12_tellBest_43 ?_
      refine g_bipush (v := 9) (by decide) dX12_tellBest_44 ?_
      refine g_ishl dX12_tellBest_46 ?_
      refine g_iload_n 2 rfl rfl dX12_tellBest_47 ?_
      refine g_iadd dX12_tellBest_48 ?_
      refine g_iload_n 2 rfl rfl dX12_tellBest_49 ?_
      refine g_callSI (y := miX12_bitsOf) (As := [.int x2]) (rest := [.int (((gi M 90 0) <<< ((9 : Int32) &&& 31)) + x2), .ref 108]) moX12_bitsOf rfl mlX12_431 (by first | decide | omega) (by decide) (by simp [Value.category]) rfl dX12_tellBest_50 (SX12_bitsOf  M x2) (fun M3 v4 => ?_)
      refine g_iload_n 1 rfl rfl dX12_tellBest_53 ?_
      refine g_icmp_ne (tgt := 61) rfl dX12_tellBest_54 (fun c => ?_) (fun c => ?_)
      · refine g_ldc2 (v := (-1152921504606846976)) coX12_426 dX12_tellBest_61 ?_
        exact GO.pick [0, 1, 2] rfl <| SX12_tellBest_b64  (fX12_tellBest_b22 n) hrec22 M3 x1 x2 (-1152921504606846976) (((gi M 90 0) <<< ((9 : Int32) &&& 31)) + x2)
      · refine g_lconst (v := 0) (by decide) dX12_tellBest_57 ?_
        refine g_goto (tgt := 64) rfl dX12_tellBest_58 ?_
        exact GO.pick [0, 1, 2] rfl <| SX12_tellBest_b64  (fX12_tellBest_b22 n) hrec22 M3 x1 x2 0 (((gi M 90 0) <<< ((9 : Int32) &&& 31)) + x2)
def fX12_tellBest (M : Mem)  : RS := bV (fX12_tellWorths M) (fun M1 => fX12_tellBest_b22  FU M1 (if (gi M1 90 1) < (gi M1 90 0) then (gi M1 90 1) else (gi M1 90 0)) 0)
theorem SX12_tellBest (M : Mem)  : CTO (5) miX12_tellBest 0 0 [.ref 87] M (fX12_tellBest  M ) := by
  refine CTO.of (by decide) (by simp [lg_sl, Value.category]) ?_
  show GO miX12_tellBest (5) 0 0 0 0 0 [(0, .ref 87)] [] M (bV (fX12_tellWorths M) (fun M1 => fX12_tellBest_b22  FU M1 (if (gi M1 90 1) < (gi M1 90 0) then (gi M1 90 1) else (gi M1 90 0)) 0))
  refine g_aload_n 0 rfl rfl dX12_tellBest_0 ?_
  refine g_callVV (y := miX12_tellWorths) (As := []) (rest := []) clX12 kd_87 rfl moX12_tellWorths rfl mlX12_428 (by first | decide | omega) (by decide) (by simp [Value.category]) rfl dX12_tellBest_1 (SX12_tellWorths  M) (fun M1 => ?_)
  refine g_aload_n 0 rfl rfl dX12_tellBest_4 ?_
  refine g_getR (k := 4) (b := 90) clX12 kd_87 (by decide) rfl rfl flX12_35 dX12_tellBest_5 ?_
  refine g_iconst (v := 0) (by decide) dX12_tellBest_8 ?_
  refine g_aldL (j := 0) kd_90 (by decide) (by decide) dX12_tellBest_9 ?_
  refine g_aload_n 0 rfl rfl dX12_tellBest_10 ?_
  refine g_getR (k := 4) (b := 90) clX12 kd_87 (by decide) rfl rfl flX12_35 dX12_tellBest_11 ?_
  refine g_iconst (v := 1) (by decide) dX12_tellBest_14 ?_
  refine g_aldL (j := 1) kd_90 (by decide) (by decide) dX12_tellBest_15 ?_
  refine g_mmin mlX12_177 ms_min mt_Math mc_min (by first | decide | omega) (by decide) (by simp [Value.category]) dX12_tellBest_16 ?_
  refine g_istore_n (L' := [(1, .int (if (gi M1 90 1) < (gi M1 90 0) then (gi M1 90 1) else (gi M1 90 0))), (0, .ref 87)]) (by decide) rfl rfl dX12_tellBest_19 ?_
  refine g_iconst (v := 0) (by decide) dX12_tellBest_20 ?_
  refine g_istore_n (L' := [(2, .int 0), (1, .int (if (gi M1 90 1) < (gi M1 90 0) then (gi M1 90 1) else (gi M1 90 0))), (0, .ref 87)]) (by decide) rfl rfl dX12_tellBest_21 ?_
  exact GO.pick [2, 1, 0] rfl <| SX12_tellBest_b22  FU M1 (if (gi M1 90 1) < (gi M1 90 0) then (gi M1 90 1) else (gi M1 90 0)) 0
def fX12_best_b115 (rec55 : Mem → Int32 → Int32 → Int32 → Int32 → RS) (rec73 : Mem → Int32 → Int32 → Int32 → Int32 → Int32 → RS) (M : Mem) (x1 : Int32) (x2 : Int32) (x3 : Int32) (x4 : Int32) (x5 : Int32) : RS := rec73 M x1 x2 x3 x4 (x5 + (-1))
theorem SX12_best_b115 (rec55 : Mem → Int32 → Int32 → Int32 → Int32 → RS) (hrec55 : ∀ (M : Mem) (x1 : Int32) (x2 : Int32) (x3 : Int32) (x4 : Int32), GO miX12_best (6) 0 0 0 0 55 [(0, .ref 87), (1, .int x1), (2, .int x2), (3, .int x3), (4, .int x4)] [] M (rec55 M x1 x2 x3 x4)) (rec73 : Mem → Int32 → Int32 → Int32 → Int32 → Int32 → RS) (hrec73 : ∀ (M : Mem) (x1 : Int32) (x2 : Int32) (x3 : Int32) (x4 : Int32) (x5 : Int32), GO miX12_best (6) 0 0 0 0 73 [(0, .ref 87), (1, .int x1), (2, .int x2), (3, .int x3), (4, .int x4), (5, .int x5)] [] M (rec73 M x1 x2 x3 x4 x5)) (M : Mem) (x1 : Int32) (x2 : Int32) (x3 : Int32) (x4 : Int32) (x5 : Int32) : GO miX12_best (6) 0 0 0 0 115 [(0, .ref 87), (1, .int x1), (2, .int x2), (3, .int x3), (4, .int x4), (5, .int x5)] [] M (fX12_best_b115 rec55 rec73 M x1 x2 x3 x4 x5) := by
  show GO miX12_best (6) 0 0 0 0 115 [(0, .ref 87), (1, .int x1), (2, .int x2), (3, .int x3), (4, .int x4), (5, .int x5)] [] M (rec73 M x1 x2 x3 x4 (x5 + (-1)))
  refine g_iinc (v := x5 + (-1)) (L' := [(5, .int (x5 + (-1))), (0, .ref 87), (1, .int x1), (2, .int x2), (3, .int x3), (4, .int x4)]) 5 rfl (congrArg _ (by decide)) (by decide) rfl dX12_best_115 ?_
  refine g_goto (tgt := 73) rfl dX12_best_118 ?_
  exact GO.pick [1, 2, 3, 4, 5, 0] rfl <| hrec73 M x1 x2 x3 x4 (x5 + (-1))
def fX12_best_b134 (rec55 : Mem → Int32 → Int32 → Int32 → Int32 → RS) (M : Mem) (x1 : Int32) (x3 : Int32) (x4 : Int32) (s0 : Int32) (s1 : Int32) : RS := rec55 M x1 (s1 ||| s0) x3 (x4 + 1)
theorem SX12_best_b134 (rec55 : Mem → Int32 → Int32 → Int32 → Int32 → RS) (hrec55 : ∀ (M : Mem) (x1 : Int32) (x2 : Int32) (x3 : Int32) (x4 : Int32), GO miX12_best (6) 0 0 0 0 55 [(0, .ref 87), (1, .int x1), (2, .int x2), (3, .int x3), (4, .int x4)] [] M (rec55 M x1 x2 x3 x4)) (M : Mem) (x1 : Int32) (x3 : Int32) (x4 : Int32) (s0 : Int32) (s1 : Int32) : GO miX12_best (6) 0 0 0 0 134 [(0, .ref 87), (1, .int x1), (3, .int x3), (4, .int x4)] [.int s0, .int s1] M (fX12_best_b134 rec55 M x1 x3 x4 s0 s1) := by
  show GO miX12_best (6) 0 0 0 0 134 [(0, .ref 87), (1, .int x1), (3, .int x3), (4, .int x4)] [.int s0, .int s1] M (rec55 M x1 (s1 ||| s0) x3 (x4 + 1))
  refine g_ior dX12_best_134 ?_
  refine g_istore_n (L' := [(2, .int (s1 ||| s0)), (0, .ref 87), (1, .int x1), (3, .int x3), (4, .int x4)]) (by decide) rfl rfl dX12_best_135 ?_
  refine g_iinc (v := x4 + 1) (L' := [(4, .int (x4 + 1)), (2, .int (s1 ||| s0)), (0, .ref 87), (1, .int x1), (3, .int x3)]) 4 rfl rfl (by decide) rfl dX12_best_136 ?_
  refine g_goto (tgt := 55) rfl dX12_best_139 ?_
  exact GO.pick [2, 3, 1, 4, 0] rfl <| hrec55 M x1 (s1 ||| s0) x3 (x4 + 1)
def fX12_best_b73 (rec55 : Mem → Int32 → Int32 → Int32 → Int32 → RS) : Nat → Mem → Int32 → Int32 → Int32 → Int32 → Int32 → RS
  | 0 => fun _ _ _ _ _ _ => none
  | n + 1 => fun M x1 x2 x3 x4 x5 => if x5 < 0 then if x3 = (-1) then fX12_best_b134 rec55 M x1 x3 x4 0 x2 else fX12_best_b134 rec55 M x1 x3 x4 ((1 : Int32) <<< (x3 &&& 31)) x2 else bI (fX12_isOf M x2 x5) (fun M8 v9 => if v9 = 0 then bL (fX12_bestBy M8 x4 x2 x5) (fun M10 v11 => chk (inb ((x4 <<< ((9 : Int32) &&& 31)) + x2) 4608) (if (lg_cmp v11 (gl M10 108 (ix ((x4 <<< ((9 : Int32) &&& 31)) + x2)))) = 0 then fX12_best_b115 rec55 (fX12_best_b73 rec55 n) M10 x1 x2 x5 x4 x5 else fX12_best_b115 rec55 (fX12_best_b73 rec55 n) M10 x1 x2 x3 x4 x5)) else fX12_best_b115 rec55 (fX12_best_b73 rec55 n) M8 x1 x2 x3 x4 x5)
theorem SX12_best_b73 (rec55 : Mem → Int32 → Int32 → Int32 → Int32 → RS) (hrec55 : ∀ (M : Mem) (x1 : Int32) (x2 : Int32) (x3 : Int32) (x4 : Int32), GO miX12_best (6) 0 0 0 0 55 [(0, .ref 87), (1, .int x1), (2, .int x2), (3, .int x3), (4, .int x4)] [] M (rec55 M x1 x2 x3 x4)) (n : Nat) : ∀ (M : Mem) (x1 : Int32) (x2 : Int32) (x3 : Int32) (x4 : Int32) (x5 : Int32), GO miX12_best (6) 0 0 0 0 73 [(0, .ref 87), (1, .int x1), (2, .int x2), (3, .int x3), (4, .int x4), (5, .int x5)] [] M (fX12_best_b73 rec55 n M x1 x2 x3 x4 x5) := by
  induction n with
  | zero => intro M x1 x2 x3 x4 x5 ; exact GO.none
  | succ n hrec73 =>
    intro M x1 x2 x3 x4 x5 
    show GO miX12_best (6) 0 0 0 0 73 [(0, .ref 87), (1, .int x1), (2, .int x2), (3, .int x3), (4, .int x4), (5, .int x5)] [] M (if x5 < 0 then if x3 = (-1) then fX12_best_b134 rec55 M x1 x3 x4 0 x2 else fX12_best_b134 rec55 M x1 x3 x4 ((1 : Int32) <<< (x3 &&& 31)) x2 else bI (fX12_isOf M x2 x5) (fun M8 v9 => if v9 = 0 then bL (fX12_bestBy M8 x4 x2 x5) (fun M10 v11 => chk (inb ((x4 <<< ((9 : Int32) &&& 31)) + x2) 4608) (if (lg_cmp v11 (gl M10 108 (ix ((x4 <<< ((9 : Int32) &&& 31)) + x2)))) = 0 then fX12_best_b115 rec55 (fX12_best_b73 rec55 n) M10 x1 x2 x5 x4 x5 else fX12_best_b115 rec55 (fX12_best_b73 rec55 n) M10 x1 x2 x3 x4 x5)) else fX12_best_b115 rec55 (fX12_best_b73 rec55 n) M8 x1 x2 x3 x4 x5))
    refine g_iload 5 rfl dX12_best_73 ?_
    refine g_if_lt (tgt := 121) rfl dX12_best_75 (fun c => ?_) (fun c => ?_)
    · refine g_iload_n 2 rfl rfl dX12_best_121 ?_
      refine g_iload_n 3 rfl rfl dX12_best_122 ?_
      refine g_iconst (v := (-1)) (by decide) dX12_best_123 ?_
      refine g_icmp_ne (tgt := 131) rfl dX12_best_124 (fun c => ?_) (fun c => ?_)
      · refine g_iconst (v := 1) (by decide) dX12_best_131 ?_
        refine g_iload_n 3 rfl rfl dX12_best_132 ?_
        refine g_ishl dX12_best_133 ?_
        exact GO.pick [0, 1, 3, 4] rfl <| SX12_best_b134  rec55 hrec55 M x1 x3 x4 ((1 : Int32) <<< (x3 &&& 31)) x2
      · refine g_iconst (v := 0) (by decide) dX12_best_127 ?_
        refine g_goto (tgt := 134) rfl dX12_best_128 ?_
        exact GO.pick [0, 1, 3, 4] rfl <| SX12_best_b134  rec55 hrec55 M x1 x3 x4 0 x2
    · refine g_iload_n 2 rfl rfl dX12_best_78 ?_
      refine g_iload 5 rfl dX12_best_79 ?_
      refine g_callSI (y := miX12_isOf) (As := [.int x2, .int x5]) (rest := []) moX12_isOf rfl mlX12_333 (by first | decide | omega) (by decide) (by simp [Value.category]) rfl dX12_best_81 (SX12_isOf  M x2 x5) (fun M8 v9 => ?_)
      refine g_if_ne (tgt := 115) rfl dX12_best_84 (fun c => ?_) (fun c => ?_)
      · exact GO.pick [0, 1, 2, 3, 4, 5] rfl <| SX12_best_b115  rec55 hrec55 (fX12_best_b73 rec55 n) hrec73 M8 x1 x2 x3 x4 x5
      · refine g_aload_n 0 rfl rfl dX12_best_87 ?_
        refine g_iload 4 rfl dX12_best_88 ?_
        refine g_iload_n 2 rfl rfl dX12_best_90 ?_
        refine g_iload 5 rfl dX12_best_91 ?_
        refine g_callVL (y := miX12_bestBy) (As := [.int x4, .int x2, .int x5]) (rest := []) clX12 kd_87 rfl moX12_bestBy rfl mlX12_434 (by first | decide | omega) (by decide) (by simp [Value.category]) rfl dX12_best_93 (SX12_bestBy  M8 x4 x2 x5) (fun M10 v11 => ?_)
        refine g_aload_n 0 rfl rfl dX12_best_96 ?_
        refine g_getR (k := 44) (b := 108) clX12 kd_87 (by decide) rfl rfl flX12_94 dX12_best_97 ?_
        refine g_iload 4 rfl dX12_best_100 ?_
        refine g_bipush (v := 9) (by decide) dX12_best_102 ?_
        refine g_ishl dX12_best_104 ?_
        refine g_iload_n 2 rfl rfl dX12_best_105 ?_
        refine g_iadd dX12_best_106 ?_
        refine g_lald kd_108 dX12_best_107 (fun hi12 => ?_)
        refine g_lcmp dX12_best_108 ?_
        refine g_if_ne (tgt := 115) rfl dX12_best_109 (fun c => ?_) (fun c => ?_)
        · exact GO.pick [0, 1, 2, 3, 4, 5] rfl <| SX12_best_b115  rec55 hrec55 (fX12_best_b73 rec55 n) hrec73 M10 x1 x2 x3 x4 x5
        · refine g_iload 5 rfl dX12_best_112 ?_
          refine g_istore_n (L' := [(3, .int x5), (0, .ref 87), (1, .int x1), (2, .int x2), (4, .int x4), (5, .int x5)]) (by decide) rfl rfl dX12_best_114 ?_
          exact GO.pick [1, 2, 3, 0, 4, 5] rfl <| SX12_best_b115  rec55 hrec55 (fX12_best_b73 rec55 n) hrec73 M10 x1 x2 x5 x4 x5
def fX12_best_b55 : Nat → Mem → Int32 → Int32 → Int32 → Int32 → RS
  | 0 => fun _ _ _ _ _ => none
  | n + 1 => fun M x1 x2 x3 x4 => if x1 < x4 then some (M, .inr (some (.long (Int32.toInt64 x3)))) else fX12_best_b73 (fX12_best_b55 n) FU M x1 x2 (-1) x4 ((gi M 90 1) - 1)
theorem SX12_best_b55 (n : Nat) : ∀ (M : Mem) (x1 : Int32) (x2 : Int32) (x3 : Int32) (x4 : Int32), GO miX12_best (6) 0 0 0 0 55 [(0, .ref 87), (1, .int x1), (2, .int x2), (3, .int x3), (4, .int x4)] [] M (fX12_best_b55 n M x1 x2 x3 x4) := by
  induction n with
  | zero => intro M x1 x2 x3 x4 ; exact GO.none
  | succ n hrec55 =>
    intro M x1 x2 x3 x4 
    show GO miX12_best (6) 0 0 0 0 55 [(0, .ref 87), (1, .int x1), (2, .int x2), (3, .int x3), (4, .int x4)] [] M (if x1 < x4 then some (M, .inr (some (.long (Int32.toInt64 x3)))) else fX12_best_b73 (fX12_best_b55 n) FU M x1 x2 (-1) x4 ((gi M 90 1) - 1))
    refine g_iload 4 rfl dX12_best_55 ?_
    refine g_iload_n 1 rfl rfl dX12_best_57 ?_
    refine g_icmp_gt (tgt := 142) rfl dX12_best_58 (fun c => ?_) (fun c => ?_)
    · refine g_iload_n 3 rfl rfl dX12_best_142 ?_
      refine g_i2l dX12_best_143 ?_
      exact g_lreturn rfl (by decide) (by decide) dX12_best_144
    · refine g_iconst (v := (-1)) (by decide) dX12_best_61 ?_
      refine g_istore_n (L' := [(3, .int (-1)), (0, .ref 87), (1, .int x1), (2, .int x2), (4, .int x4)]) (by decide) rfl rfl dX12_best_62 ?_
      refine g_aload_n 1 rfl rfl dX12_best_63 ?_
      refine g_getR (k := 4) (b := 90) clX12 kd_87 (by decide) rfl rfl flX12_35 dX12_best_64 ?_
      refine g_iconst (v := 1) (by decide) dX12_best_67 ?_
      refine g_aldL (j := 1) kd_90 (by decide) (by decide) dX12_best_68 ?_
      refine g_iconst (v := 1) (by decide) dX12_best_69 ?_
      refine g_isub dX12_best_70 ?_
      refine g_istore (L' := [(5, .int ((gi M 90 1) - 1)), (3, .int (-1)), (0, .ref 87), (1, .int x1), (2, .int x2), (4, .int x4)]) (by decide) rfl dX12_best_71 ?_
      exact GO.pick [2, 3, 4, 1, 5, 0] rfl <| SX12_best_b73  (fX12_best_b55 n) hrec55 FU M x1 x2 (-1) x4 ((gi M 90 1) - 1)
def fX12_best (M : Mem) (x1 : Int32) : RS := wr (si M 87 3 0) (fun M1 => bI (fX12_isIn M1 (Int32.toInt64 x1) (-1) (Int32.toInt64 ((gi M1 90 0) - 1))) (fun M2 v3 => if v3 = 0 then bI (fX12_fail M2 1) (fun M6 v7 => some (M6, .inr (some (.long (Int32.toInt64 v7))))) else bV (fX12_tellBest M2) (fun M4 => if x1 = (-1) then some (M4, .inr (some (.long (gl M4 108 0)))) else fX12_best_b55  FU M4 x1 0 (-1) 0)))
theorem SX12_best (M : Mem) (x1 : Int32) : CTO (6) miX12_best 0 0 [.ref 87, .int x1] M (fX12_best  M x1) := by
  refine CTO.of (by decide) (by simp [lg_sl, Value.category]) ?_
  show GO miX12_best (6) 0 0 0 0 0 [(0, .ref 87), (1, .int x1)] [] M (wr (si M 87 3 0) (fun M1 => bI (fX12_isIn M1 (Int32.toInt64 x1) (-1) (Int32.toInt64 ((gi M1 90 0) - 1))) (fun M2 v3 => if v3 = 0 then bI (fX12_fail M2 1) (fun M6 v7 => some (M6, .inr (some (.long (Int32.toInt64 v7))))) else bV (fX12_tellBest M2) (fun M4 => if x1 = (-1) then some (M4, .inr (some (.long (gl M4 108 0)))) else fX12_best_b55  FU M4 x1 0 (-1) 0))))
  refine g_aload_n 0 rfl rfl dX12_best_0 ?_
  refine g_iconst (v := 0) (by decide) dX12_best_1 ?_
  refine g_putI (k := 3) clX12 kd_87 (by decide) rfl (by decide) rfl flX12_140 dX12_best_2 ?_
  refine GO.wr (fun M1 => ?_)
  refine g_iload_n 1 rfl rfl dX12_best_5 ?_
  refine g_i2l dX12_best_6 ?_
  refine g_ldc2 (v := (-1)) coX12_441 dX12_best_7 ?_
  refine g_aload_n 0 rfl rfl dX12_best_10 ?_
  refine g_getR (k := 4) (b := 90) clX12 kd_87 (by decide) rfl rfl flX12_35 dX12_best_11 ?_
  refine g_iconst (v := 0) (by decide) dX12_best_14 ?_
  refine g_aldL (j := 0) kd_90 (by decide) (by decide) dX12_best_15 ?_
  refine g_iconst (v := 1) (by decide) dX12_best_16 ?_
  refine g_isub dX12_best_17 ?_
  refine g_i2l dX12_best_18 ?_
  refine g_callSI (y := miX12_isIn) (As := [.long (Int32.toInt64 x1), .long (-1), .long (Int32.toInt64 ((gi M1 90 0) - 1))]) (rest := []) moX12_isIn rfl mlX12_143 (by first | decide | omega) (by decide) (by simp [Value.category]) rfl dX12_best_19 (SX12_isIn  M1 (Int32.toInt64 x1) (-1) (Int32.toInt64 ((gi M1 90 0) - 1))) (fun M2 v3 => ?_)
  refine g_if_ne (tgt := 32) rfl dX12_best_22 (fun c => ?_) (fun c => ?_)
  · refine g_aload_n 0 rfl rfl dX12_best_32 ?_
    refine g_callVV (y := miX12_tellBest) (As := []) (rest := []) clX12 kd_87 rfl moX12_tellBest rfl mlX12_443 (by first | decide | omega) (by decide) (by simp [Value.category]) rfl dX12_best_33 (SX12_tellBest  M2) (fun M4 => ?_)
    refine g_iload_n 1 rfl rfl dX12_best_36 ?_
    refine g_iconst (v := (-1)) (by decide) dX12_best_37 ?_
    refine g_icmp_ne (tgt := 48) rfl dX12_best_38 (fun c => ?_) (fun c => ?_)
    · refine g_iconst (v := 0) (by decide) dX12_best_48 ?_
      refine g_istore_n (L' := [(2, .int 0), (0, .ref 87), (1, .int x1)]) (by decide) rfl rfl dX12_best_49 ?_
      refine g_iconst (v := (-1)) (by decide) dX12_best_50 ?_
      refine g_istore_n (L' := [(3, .int (-1)), (2, .int 0), (0, .ref 87), (1, .int x1)]) (by decide) rfl rfl dX12_best_51 ?_
      refine g_iconst (v := 0) (by decide) dX12_best_52 ?_
      refine g_istore (L' := [(4, .int 0), (3, .int (-1)), (2, .int 0), (0, .ref 87), (1, .int x1)]) (by decide) rfl dX12_best_53 ?_
      exact GO.pick [3, 4, 2, 1, 0] rfl <| SX12_best_b55  FU M4 x1 0 (-1) 0
    · refine g_aload_n 0 rfl rfl dX12_best_41 ?_
      refine g_getR (k := 44) (b := 108) clX12 kd_87 (by decide) rfl rfl flX12_94 dX12_best_42 ?_
      refine g_iconst (v := 0) (by decide) dX12_best_45 ?_
      refine g_laldL (j := 0) kd_108 (by decide) (by decide) dX12_best_46 ?_
      exact g_lreturn rfl (by decide) (by decide) dX12_best_47
  · refine g_aload_n 0 rfl rfl dX12_best_25 ?_
    refine g_iconst (v := 1) (by decide) dX12_best_26 ?_
    refine g_callVI (y := miX12_fail) (As := [.int 1]) (rest := []) clX12 kd_87 rfl moX12_fail rfl mlX12_290 (by first | decide | omega) (by decide) (by simp [Value.category]) rfl dX12_best_27 (SX12_fail  M2 1) (fun M6 v7 => ?_)
    refine g_i2l dX12_best_30 ?_
    exact g_lreturn rfl (by decide) (by decide) dX12_best_31
def fX12_canAll_b70 (rE : Mem → Int32 → Int32 → Int32 → RS) (rec15 : Mem → Int32 → Int32 → Int32 → Int32 → RS) (M : Mem) (x1 : Int32) (x2 : Int32) (x3 : Int32) (x4 : Int32) : RS := rec15 M x1 x2 x3 (x4 + 1)
theorem SX12_canAll_b70 (dE : Nat) (hD : 1 ≤ dE) (rE : Mem → Int32 → Int32 → Int32 → RS) (hE : ∀ (M : Mem) (x1 : Int32) (x2 : Int32) (x3 : Int32), CTO dE miX12_canAll 0 0 [.ref 87, .int x1, .int x2, .int x3] M (rE M x1 x2 x3)) (rec15 : Mem → Int32 → Int32 → Int32 → Int32 → RS) (hrec15 : ∀ (M : Mem) (x1 : Int32) (x2 : Int32) (x3 : Int32) (x4 : Int32), GO miX12_canAll (dE + 1) 0 0 0 0 15 [(0, .ref 87), (1, .int x1), (2, .int x2), (3, .int x3), (4, .int x4)] [] M (rec15 M x1 x2 x3 x4)) (M : Mem) (x1 : Int32) (x2 : Int32) (x3 : Int32) (x4 : Int32) : GO miX12_canAll (dE + 1) 0 0 0 0 70 [(0, .ref 87), (1, .int x1), (2, .int x2), (3, .int x3), (4, .int x4)] [] M (fX12_canAll_b70 rE rec15 M x1 x2 x3 x4) := by
  show GO miX12_canAll (dE + 1) 0 0 0 0 70 [(0, .ref 87), (1, .int x1), (2, .int x2), (3, .int x3), (4, .int x4)] [] M (rec15 M x1 x2 x3 (x4 + 1))
  refine g_iinc (v := x4 + 1) (L' := [(4, .int (x4 + 1)), (0, .ref 87), (1, .int x1), (2, .int x2), (3, .int x3)]) 4 rfl rfl (by decide) rfl dX12_canAll_70 ?_
  refine g_goto (tgt := 15) rfl dX12_canAll_73 ?_
  exact GO.pick [1, 2, 3, 4, 0] rfl <| hrec15 M x1 x2 x3 (x4 + 1)
def fX12_canAll_b15 (rE : Mem → Int32 → Int32 → Int32 → RS) : Nat → Mem → Int32 → Int32 → Int32 → Int32 → RS
  | 0 => fun _ _ _ _ _ => none
  | n + 1 => fun M x1 x2 x3 x4 => if x4 < (gi M 90 1) then bI (fX12_isOf M x2 x4) (fun M1 v2 => if v2 = 0 then chk (inb ((9 * x1) + x4) 72) (if (gi M1 109 (ix ((9 * x1) + x4))) < x3 then fX12_canAll_b70 rE (fX12_canAll_b15 rE n) M1 x1 x2 x3 x4 else bI (rE M1 (x1 + 1) (x2 ||| ((1 : Int32) <<< (x4 &&& 31))) x3) (fun M4 v5 => if v5 = 0 then fX12_canAll_b70 rE (fX12_canAll_b15 rE n) M4 x1 x2 x3 x4 else some (M4, .inr (some (.int 1))))) else fX12_canAll_b70 rE (fX12_canAll_b15 rE n) M1 x1 x2 x3 x4) else some (M, .inr (some (.int 0)))
theorem SX12_canAll_b15 (dE : Nat) (hD : 1 ≤ dE) (rE : Mem → Int32 → Int32 → Int32 → RS) (hE : ∀ (M : Mem) (x1 : Int32) (x2 : Int32) (x3 : Int32), CTO dE miX12_canAll 0 0 [.ref 87, .int x1, .int x2, .int x3] M (rE M x1 x2 x3)) (n : Nat) : ∀ (M : Mem) (x1 : Int32) (x2 : Int32) (x3 : Int32) (x4 : Int32), GO miX12_canAll (dE + 1) 0 0 0 0 15 [(0, .ref 87), (1, .int x1), (2, .int x2), (3, .int x3), (4, .int x4)] [] M (fX12_canAll_b15 rE n M x1 x2 x3 x4) := by
  induction n with
  | zero => intro M x1 x2 x3 x4 ; exact GO.none
  | succ n hrec15 =>
    intro M x1 x2 x3 x4 
    show GO miX12_canAll (dE + 1) 0 0 0 0 15 [(0, .ref 87), (1, .int x1), (2, .int x2), (3, .int x3), (4, .int x4)] [] M (if x4 < (gi M 90 1) then bI (fX12_isOf M x2 x4) (fun M1 v2 => if v2 = 0 then chk (inb ((9 * x1) + x4) 72) (if (gi M1 109 (ix ((9 * x1) + x4))) < x3 then fX12_canAll_b70 rE (fX12_canAll_b15 rE n) M1 x1 x2 x3 x4 else bI (rE M1 (x1 + 1) (x2 ||| ((1 : Int32) <<< (x4 &&& 31))) x3) (fun M4 v5 => if v5 = 0 then fX12_canAll_b70 rE (fX12_canAll_b15 rE n) M4 x1 x2 x3 x4 else some (M4, .inr (some (.int 1))))) else fX12_canAll_b70 rE (fX12_canAll_b15 rE n) M1 x1 x2 x3 x4) else some (M, .inr (some (.int 0))))
    refine g_iload 4 rfl dX12_canAll_15 ?_
    refine g_aload_n 0 rfl rfl dX12_canAll_17 ?_
    refine g_getR (k := 4) (b := 90) clX12 kd_87 (by decide) rfl rfl flX12_35 dX12_canAll_18 ?_
    refine g_iconst (v := 1) (by decide) dX12_canAll_21 ?_
    refine g_aldL (j := 1) kd_90 (by decide) (by decide) dX12_canAll_22 ?_
    refine g_icmp_ge (tgt := 76) rfl dX12_canAll_23 (fun c => ?_) (fun c => ?_)
    · refine g_iconst (v := 0) (by decide) dX12_canAll_76 ?_
      exact g_zreturn rfl (by decide) (by decide) dX12_canAll_77 (by decide)
    · refine g_iload_n 2 rfl rfl dX12_canAll_26 ?_
      refine g_iload 4 rfl dX12_canAll_27 ?_
      refine g_callSI (y := miX12_isOf) (As := [.int x2, .int x4]) (rest := []) moX12_isOf rfl mlX12_333 (by first | decide | omega) (by decide) (by simp [Value.category]) rfl dX12_canAll_29 (SX12_isOf  M x2 x4) (fun M1 v2 => ?_)
      refine g_if_ne (tgt := 70) rfl dX12_canAll_32 (fun c => ?_) (fun c => ?_)
      · exact GO.pick [0, 1, 2, 3, 4] rfl <| SX12_canAll_b70 dE hD rE hE  (fX12_canAll_b15 rE n) hrec15 M1 x1 x2 x3 x4
      · refine g_aload_n 0 rfl rfl dX12_canAll_35 ?_
        refine g_getR (k := 45) (b := 109) clX12 kd_87 (by decide) rfl rfl flX12_98 dX12_canAll_36 ?_
        refine g_bipush (v := 9) (by decide) dX12_canAll_39 ?_
        refine g_iload_n 1 rfl rfl dX12_canAll_41 ?_
        refine g_imul dX12_canAll_42 ?_
        refine g_iload 4 rfl dX12_canAll_43 ?_
        refine g_iadd dX12_canAll_45 ?_
        refine g_ald kd_109 dX12_canAll_46 (fun hi3 => ?_)
        refine g_iload_n 3 rfl rfl dX12_canAll_47 ?_
        refine g_icmp_lt (tgt := 70) rfl dX12_canAll_48 (fun c => ?_) (fun c => ?_)
        · exact GO.pick [0, 1, 2, 3, 4] rfl <| SX12_canAll_b70 dE hD rE hE  (fX12_canAll_b15 rE n) hrec15 M1 x1 x2 x3 x4
        · refine g_aload_n 0 rfl rfl dX12_canAll_51 ?_
          refine g_iload_n 1 rfl rfl dX12_canAll_52 ?_
          refine g_iconst (v := 1) (by decide) dX12_canAll_53 ?_
          refine g_iadd dX12_canAll_54 ?_
          refine g_iload_n 2 rfl rfl dX12_canAll_55 ?_
          refine g_iconst (v := 1) (by decide) dX12_canAll_56 ?_
          refine g_iload 4 rfl dX12_canAll_57 ?_
          refine g_ishl dX12_canAll_59 ?_
          refine g_ior dX12_canAll_60 ?_
          refine g_iload_n 3 rfl rfl dX12_canAll_61 ?_
          refine g_callVI (y := miX12_canAll) (As := [.int (x1 + 1), .int (x2 ||| ((1 : Int32) <<< (x4 &&& 31))), .int x3]) (rest := []) clX12 kd_87 rfl moX12_canAll rfl mlX12_446 (by first | decide | omega) (by decide) (by simp [Value.category]) rfl dX12_canAll_62 (hE  M1 (x1 + 1) (x2 ||| ((1 : Int32) <<< (x4 &&& 31))) x3) (fun M4 v5 => ?_)
          refine g_if_eq (tgt := 70) rfl dX12_canAll_65 (fun c => ?_) (fun c => ?_)
          · exact GO.pick [0, 1, 2, 3, 4] rfl <| SX12_canAll_b70 dE hD rE hE  (fX12_canAll_b15 rE n) hrec15 M4 x1 x2 x3 x4
          · refine g_iconst (v := 1) (by decide) dX12_canAll_68 ?_
            exact g_zreturn rfl (by decide) (by decide) dX12_canAll_69 (by decide)
def fX12_canAllF (rE : Mem → Int32 → Int32 → Int32 → RS) (M : Mem) (x1 : Int32) (x2 : Int32) (x3 : Int32) : RS := if x1 = (gi M 90 0) then some (M, .inr (some (.int 1))) else fX12_canAll_b15 rE  FU M x1 x2 x3 0
theorem SX12_canAllF (dE : Nat) (hD : 1 ≤ dE) (rE : Mem → Int32 → Int32 → Int32 → RS) (hE : ∀ (M : Mem) (x1 : Int32) (x2 : Int32) (x3 : Int32), CTO dE miX12_canAll 0 0 [.ref 87, .int x1, .int x2, .int x3] M (rE M x1 x2 x3)) (M : Mem) (x1 : Int32) (x2 : Int32) (x3 : Int32) : CTO (dE + 1) miX12_canAll 0 0 [.ref 87, .int x1, .int x2, .int x3] M (fX12_canAllF rE  M x1 x2 x3) := by
  refine CTO.of (by decide) (by simp [lg_sl, Value.category]) ?_
  show GO miX12_canAll (dE + 1) 0 0 0 0 0 [(0, .ref 87), (1, .int x1), (2, .int x2), (3, .int x3)] [] M (if x1 = (gi M 90 0) then some (M, .inr (some (.int 1))) else fX12_canAll_b15 rE  FU M x1 x2 x3 0)
  refine g_iload_n 1 rfl rfl dX12_canAll_0 ?_
  refine g_aload_n 0 rfl rfl dX12_canAll_1 ?_
  refine g_getR (k := 4) (b := 90) clX12 kd_87 (by decide) rfl rfl flX12_35 dX12_canAll_2 ?_
  refine g_iconst (v := 0) (by decide) dX12_canAll_5 ?_
  refine g_aldL (j := 0) kd_90 (by decide) (by decide) dX12_canAll_6 ?_
  refine g_icmp_ne (tgt := 12) rfl dX12_canAll_7 (fun c => ?_) (fun c => ?_)
  · refine g_iconst (v := 0) (by decide) dX12_canAll_12 ?_
    refine g_istore (L' := [(4, .int 0), (0, .ref 87), (1, .int x1), (2, .int x2), (3, .int x3)]) (by decide) rfl dX12_canAll_13 ?_
    exact GO.pick [1, 2, 3, 4, 0] rfl <| SX12_canAll_b15 dE hD rE hE  FU M x1 x2 x3 0
  · refine g_iconst (v := 1) (by decide) dX12_canAll_10 ?_
    exact g_zreturn rfl (by decide) (by decide) dX12_canAll_11 (by decide)
def fX12_canAll : Nat → Mem → Int32 → Int32 → Int32 → RS
  | 0 => fun _ _ _ _ => none
  | n + 1 => fun M x1 x2 x3 => fX12_canAllF (fX12_canAll n) M x1 x2 x3
theorem SX12_canAll (n : Nat) : ∀ (M : Mem) (x1 : Int32) (x2 : Int32) (x3 : Int32), CTO (1 + 1 * n) miX12_canAll 0 0 [.ref 87, .int x1, .int x2, .int x3] M (fX12_canAll n M x1 x2 x3) := by
  induction n with
  | zero => intro M x1 x2 x3 M1 r e; cases e
  | succ n ih =>
    intro M x1 x2 x3
    exact SX12_canAllF (1 + 1 * n) (by omega) (fX12_canAll n) ih M x1 x2 x3
def fX12_fairest_b14 (M : Mem)  : RS := bI (fX12_fail M 1) (fun M4 v5 => some (M4, .inr (some (.int v5))))
theorem SX12_fairest_b14 (M : Mem)  : GO miX12_fairest (12) 0 0 0 0 14 [(0, .ref 87)] [] M (fX12_fairest_b14 M ) := by
  show GO miX12_fairest (12) 0 0 0 0 14 [(0, .ref 87)] [] M (bI (fX12_fail M 1) (fun M4 v5 => some (M4, .inr (some (.int v5)))))
  refine g_aload_n 0 rfl rfl dX12_fairest_14 ?_
  refine g_iconst (v := 1) (by decide) dX12_fairest_15 ?_
  refine g_callVI (y := miX12_fail) (As := [.int 1]) (rest := []) clX12 kd_87 rfl moX12_fail rfl mlX12_290 (by first | decide | omega) (by decide) (by simp [Value.category]) rfl dX12_fairest_16 (SX12_fail  M 1) (fun M4 v5 => ?_)
  exact g_ireturn rfl (by decide) (by decide) dX12_fairest_19 rfl rfl
def fX12_fairest_b120 (rec62 : Mem → Int32 → Int32 → RS) (M : Mem) (x2 : Int32) (x3 : Int32) : RS := rec62 M x2 (x3 + 1)
theorem SX12_fairest_b120 (rec62 : Mem → Int32 → Int32 → RS) (hrec62 : ∀ (M : Mem) (x2 : Int32) (x3 : Int32), GO miX12_fairest (12) 0 0 0 0 62 [(0, .ref 87), (2, .int x2), (3, .int x3)] [] M (rec62 M x2 x3)) (M : Mem) (x2 : Int32) (x3 : Int32) : GO miX12_fairest (12) 0 0 0 0 120 [(0, .ref 87), (2, .int x2), (3, .int x3)] [] M (fX12_fairest_b120 rec62 M x2 x3) := by
  show GO miX12_fairest (12) 0 0 0 0 120 [(0, .ref 87), (2, .int x2), (3, .int x3)] [] M (rec62 M x2 (x3 + 1))
  refine g_iinc (v := x3 + 1) (L' := [(3, .int (x3 + 1)), (0, .ref 87), (2, .int x2)]) 2 rfl rfl (by decide) rfl dX12_fairest_120 ?_
  refine g_goto (tgt := 62) rfl dX12_fairest_123 ?_
  exact GO.pick [1, 2, 0] rfl <| hrec62 M x2 (x3 + 1)
def fX12_fairest_b62 : Nat → Mem → Int32 → Int32 → RS
  | 0 => fun _ _ _ => none
  | n + 1 => fun M x2 x3 => if x3 < (9 * (gi M 90 0)) then if (x3 - x3 / 9 * 9) < (gi M 90 1) then chk (inb x3 72) (if x2 < (gi M 109 (ix x3)) then chk (inb x3 72) (bI (fX12_canAll FR M 0 0 (gi M 109 (ix x3))) (fun M8 v9 => if v9 = 0 then fX12_fairest_b120 (fX12_fairest_b62 n) M8 x2 x3 else chk (inb x3 72) (fX12_fairest_b120 (fX12_fairest_b62 n) M8 (gi M8 109 (ix x3)) x3))) else fX12_fairest_b120 (fX12_fairest_b62 n) M x2 x3) else fX12_fairest_b120 (fX12_fairest_b62 n) M x2 x3 else some (M, .inr (some (.int x2)))
theorem SX12_fairest_b62 (n : Nat) : ∀ (M : Mem) (x2 : Int32) (x3 : Int32), GO miX12_fairest (12) 0 0 0 0 62 [(0, .ref 87), (2, .int x2), (3, .int x3)] [] M (fX12_fairest_b62 n M x2 x3) := by
  induction n with
  | zero => intro M x2 x3 ; exact GO.none
  | succ n hrec62 =>
    intro M x2 x3 
    show GO miX12_fairest (12) 0 0 0 0 62 [(0, .ref 87), (2, .int x2), (3, .int x3)] [] M (if x3 < (9 * (gi M 90 0)) then if (x3 - x3 / 9 * 9) < (gi M 90 1) then chk (inb x3 72) (if x2 < (gi M 109 (ix x3)) then chk (inb x3 72) (bI (fX12_canAll FR M 0 0 (gi M 109 (ix x3))) (fun M8 v9 => if v9 = 0 then fX12_fairest_b120 (fX12_fairest_b62 n) M8 x2 x3 else chk (inb x3 72) (fX12_fairest_b120 (fX12_fairest_b62 n) M8 (gi M8 109 (ix x3)) x3))) else fX12_fairest_b120 (fX12_fairest_b62 n) M x2 x3) else fX12_fairest_b120 (fX12_fairest_b62 n) M x2 x3 else some (M, .inr (some (.int x2))))
    refine g_iload_n 2 rfl rfl dX12_fairest_62 ?_
    refine g_bipush (v := 9) (by decide) dX12_fairest_63 ?_
    refine g_aload_n 0 rfl rfl dX12_fairest_65 ?_
    refine g_getR (k := 4) (b := 90) clX12 kd_87 (by decide) rfl rfl flX12_35 dX12_fairest_66 ?_
    refine g_iconst (v := 0) (by decide) dX12_fairest_69 ?_
    refine g_aldL (j := 0) kd_90 (by decide) (by decide) dX12_fairest_70 ?_
    refine g_imul dX12_fairest_71 ?_
    refine g_icmp_ge (tgt := 126) rfl dX12_fairest_72 (fun c => ?_) (fun c => ?_)
    · refine g_iload_n 1 rfl rfl dX12_fairest_126 ?_
      exact g_ireturn rfl (by decide) (by decide) dX12_fairest_127 rfl rfl
    · refine g_iload_n 2 rfl rfl dX12_fairest_75 ?_
      refine g_bipush (v := 9) (by decide) dX12_fairest_76 ?_
      refine g_irem (by decide) dX12_fairest_78 ?_
      refine g_aload_n 0 rfl rfl dX12_fairest_79 ?_
      refine g_getR (k := 4) (b := 90) clX12 kd_87 (by decide) rfl rfl flX12_35 dX12_fairest_80 ?_
      refine g_iconst (v := 1) (by decide) dX12_fairest_83 ?_
      refine g_aldL (j := 1) kd_90 (by decide) (by decide) dX12_fairest_84 ?_
      refine g_icmp_ge (tgt := 120) rfl dX12_fairest_85 (fun c => ?_) (fun c => ?_)
      · exact GO.pick [0, 1, 2] rfl <| SX12_fairest_b120  (fX12_fairest_b62 n) hrec62 M x2 x3
      · refine g_aload_n 0 rfl rfl dX12_fairest_88 ?_
        refine g_getR (k := 45) (b := 109) clX12 kd_87 (by decide) rfl rfl flX12_98 dX12_fairest_89 ?_
        refine g_iload_n 2 rfl rfl dX12_fairest_92 ?_
        refine g_ald kd_109 dX12_fairest_93 (fun hi6 => ?_)
        refine g_iload_n 1 rfl rfl dX12_fairest_94 ?_
        refine g_icmp_le (tgt := 120) rfl dX12_fairest_95 (fun c => ?_) (fun c => ?_)
        · exact GO.pick [0, 1, 2] rfl <| SX12_fairest_b120  (fX12_fairest_b62 n) hrec62 M x2 x3
        · refine g_aload_n 0 rfl rfl dX12_fairest_98 ?_
          refine g_iconst (v := 0) (by decide) dX12_fairest_99 ?_
          refine g_iconst (v := 0) (by decide) dX12_fairest_100 ?_
          refine g_aload_n 0 rfl rfl dX12_fairest_101 ?_
          refine g_getR (k := 45) (b := 109) clX12 kd_87 (by decide) rfl rfl flX12_98 dX12_fairest_102 ?_
          refine g_iload_n 2 rfl rfl dX12_fairest_105 ?_
          refine g_ald kd_109 dX12_fairest_106 (fun hi7 => ?_)
          refine g_callVI (y := miX12_canAll) (As := [.int 0, .int 0, .int (gi M 109 (ix x3))]) (rest := []) clX12 kd_87 rfl moX12_canAll rfl mlX12_446 (by first | decide | omega) (by decide) (by simp [Value.category]) rfl dX12_fairest_107 (SX12_canAll FR  M 0 0 (gi M 109 (ix x3))) (fun M8 v9 => ?_)
          refine g_if_eq (tgt := 120) rfl dX12_fairest_110 (fun c => ?_) (fun c => ?_)
          · exact GO.pick [0, 1, 2] rfl <| SX12_fairest_b120  (fX12_fairest_b62 n) hrec62 M8 x2 x3
          · refine g_aload_n 0 rfl rfl dX12_fairest_113 ?_
            refine g_getR (k := 45) (b := 109) clX12 kd_87 (by decide) rfl rfl flX12_98 dX12_fairest_114 ?_
            refine g_iload_n 2 rfl rfl dX12_fairest_117 ?_
            refine g_ald kd_109 dX12_fairest_118 (fun hi10 => ?_)
            refine g_istore_n (L' := [(2, .int (gi M8 109 (ix x3))), (0, .ref 87), (3, .int x3)]) (by decide) rfl rfl dX12_fairest_119 ?_
            exact GO.pick [1, 0, 2] rfl <| SX12_fairest_b120  (fX12_fairest_b62 n) hrec62 M8 (gi M8 109 (ix x3)) x3
def fX12_fairest (M : Mem) (x1 : Int32) : RS := wr (si M 87 3 0) (fun M1 => if x1 < 0 then fX12_fairest_b14  M1 else if 1 < x1 then fX12_fairest_b14  M1 else if (gi M1 90 0) = 0 then some (M1, .inr (some (.int 0))) else if (gi M1 90 1) < (gi M1 90 0) then some (M1, .inr (some (.int 0))) else if x1 = 0 then some (M1, .inr (some (.int 1))) else bV (fX12_tellWorths M1) (fun M2 => fX12_fairest_b62  FU M2 (-2147483648) 0))
theorem SX12_fairest (M : Mem) (x1 : Int32) : CTO (12) miX12_fairest 0 0 [.ref 87, .int x1] M (fX12_fairest  M x1) := by
  refine CTO.of (by decide) (by simp [lg_sl, Value.category]) ?_
  show GO miX12_fairest (12) 0 0 0 0 0 [(0, .ref 87), (1, .int x1)] [] M (wr (si M 87 3 0) (fun M1 => if x1 < 0 then fX12_fairest_b14  M1 else if 1 < x1 then fX12_fairest_b14  M1 else if (gi M1 90 0) = 0 then some (M1, .inr (some (.int 0))) else if (gi M1 90 1) < (gi M1 90 0) then some (M1, .inr (some (.int 0))) else if x1 = 0 then some (M1, .inr (some (.int 1))) else bV (fX12_tellWorths M1) (fun M2 => fX12_fairest_b62  FU M2 (-2147483648) 0)))
  refine g_aload_n 0 rfl rfl dX12_fairest_0 ?_
  refine g_iconst (v := 0) (by decide) dX12_fairest_1 ?_
  refine g_putI (k := 3) clX12 kd_87 (by decide) rfl (by decide) rfl flX12_140 dX12_fairest_2 ?_
  refine GO.wr (fun M1 => ?_)
  refine g_iload_n 1 rfl rfl dX12_fairest_5 ?_
  refine g_if_lt (tgt := 14) rfl dX12_fairest_6 (fun c => ?_) (fun c => ?_)
  · exact GO.pick [0] rfl <| SX12_fairest_b14  M1
  · refine g_iload_n 1 rfl rfl dX12_fairest_9 ?_
    refine g_iconst (v := 1) (by decide) dX12_fairest_10 ?_
    refine g_icmp_le (tgt := 20) rfl dX12_fairest_11 (fun c => ?_) (fun c => ?_)
    · refine g_aload_n 0 rfl rfl dX12_fairest_20 ?_
      refine g_getR (k := 4) (b := 90) clX12 kd_87 (by decide) rfl rfl flX12_35 dX12_fairest_21 ?_
      refine g_iconst (v := 0) (by decide) dX12_fairest_24 ?_
      refine g_aldL (j := 0) kd_90 (by decide) (by decide) dX12_fairest_25 ?_
      refine g_if_eq (tgt := 44) rfl dX12_fairest_26 (fun c => ?_) (fun c => ?_)
      · refine g_iconst (v := 0) (by decide) dX12_fairest_44 ?_
        exact g_ireturn rfl (by decide) (by decide) dX12_fairest_45 rfl rfl
      · refine g_aload_n 0 rfl rfl dX12_fairest_29 ?_
        refine g_getR (k := 4) (b := 90) clX12 kd_87 (by decide) rfl rfl flX12_35 dX12_fairest_30 ?_
        refine g_iconst (v := 1) (by decide) dX12_fairest_33 ?_
        refine g_aldL (j := 1) kd_90 (by decide) (by decide) dX12_fairest_34 ?_
        refine g_aload_n 0 rfl rfl dX12_fairest_35 ?_
        refine g_getR (k := 4) (b := 90) clX12 kd_87 (by decide) rfl rfl flX12_35 dX12_fairest_36 ?_
        refine g_iconst (v := 0) (by decide) dX12_fairest_39 ?_
        refine g_aldL (j := 0) kd_90 (by decide) (by decide) dX12_fairest_40 ?_
        refine g_icmp_ge (tgt := 46) rfl dX12_fairest_41 (fun c => ?_) (fun c => ?_)
        · refine g_iload_n 1 rfl rfl dX12_fairest_46 ?_
          refine g_if_ne (tgt := 52) rfl dX12_fairest_47 (fun c => ?_) (fun c => ?_)
          · refine g_aload_n 0 rfl rfl dX12_fairest_52 ?_
            refine g_callVV (y := miX12_tellWorths) (As := []) (rest := []) clX12 kd_87 rfl moX12_tellWorths rfl mlX12_428 (by first | decide | omega) (by decide) (by simp [Value.category]) rfl dX12_fairest_53 (SX12_tellWorths  M1) (fun M2 => ?_)
            refine g_ldc_w (v := (-2147483648)) coX12_452 dX12_fairest_56 ?_
            refine g_istore_n (L' := [(2, .int (-2147483648)), (0, .ref 87), (1, .int x1)]) (by decide) rfl rfl dX12_fairest_59 ?_
            refine g_iconst (v := 0) (by decide) dX12_fairest_60 ?_
            refine g_istore_n (L' := [(3, .int 0), (2, .int (-2147483648)), (0, .ref 87), (1, .int x1)]) (by decide) rfl rfl dX12_fairest_61 ?_
            exact GO.pick [2, 1, 0] rfl <| SX12_fairest_b62  FU M2 (-2147483648) 0
          · refine g_iconst (v := 1) (by decide) dX12_fairest_50 ?_
            exact g_ireturn rfl (by decide) (by decide) dX12_fairest_51 rfl rfl
        · refine g_iconst (v := 0) (by decide) dX12_fairest_44 ?_
          exact g_ireturn rfl (by decide) (by decide) dX12_fairest_45 rfl rfl
    · exact GO.pick [0] rfl <| SX12_fairest_b14  M1
def fX12_spreadFrom_b68 (rE : Mem → Int32 → RS) : Nat → Mem → Int32 → Int32 → Int32 → RS
  | 0 => fun _ _ _ _ => none
  | n + 1 => fun M x1 x2 x3 => if x3 < 3 then chk (inb x3 3) (bI (fX12_strengthOf M x1) (fun M2 v3 => chk (inb x3 3) (wr (si M2 110 (ix x3) ((gi M 110 (ix x3)) + v3)) (fun M5 => bI (rE M5 (x1 + 1)) (fun M6 v7 => chk (inb x3 3) (bI (fX12_strengthOf M6 x1) (fun M9 v10 => chk (inb x3 3) (wr (si M9 110 (ix x3) ((gi M6 110 (ix x3)) - v10)) (fun M12 => (fX12_spreadFrom_b68 rE n) M12 x1 (if v7 < x2 then v7 else x2) (x3 + 1)))))))))) else some (M, .inr (some (.int x2)))
theorem SX12_spreadFrom_b68 (dE : Nat) (hD : 2 ≤ dE) (rE : Mem → Int32 → RS) (hE : ∀ (M : Mem) (x1 : Int32), CTO dE miX12_spreadFrom 0 0 [.ref 87, .int x1] M (rE M x1)) (n : Nat) : ∀ (M : Mem) (x1 : Int32) (x2 : Int32) (x3 : Int32), GO miX12_spreadFrom (dE + 1) 0 0 0 0 68 [(0, .ref 87), (1, .int x1), (2, .int x2), (3, .int x3)] [] M (fX12_spreadFrom_b68 rE n M x1 x2 x3) := by
  induction n with
  | zero => intro M x1 x2 x3 ; exact GO.none
  | succ n hrec68 =>
    intro M x1 x2 x3 
    show GO miX12_spreadFrom (dE + 1) 0 0 0 0 68 [(0, .ref 87), (1, .int x1), (2, .int x2), (3, .int x3)] [] M (if x3 < 3 then chk (inb x3 3) (bI (fX12_strengthOf M x1) (fun M2 v3 => chk (inb x3 3) (wr (si M2 110 (ix x3) ((gi M 110 (ix x3)) + v3)) (fun M5 => bI (rE M5 (x1 + 1)) (fun M6 v7 => chk (inb x3 3) (bI (fX12_strengthOf M6 x1) (fun M9 v10 => chk (inb x3 3) (wr (si M9 110 (ix x3) ((gi M6 110 (ix x3)) - v10)) (fun M12 => (fX12_spreadFrom_b68 rE n) M12 x1 (if v7 < x2 then v7 else x2) (x3 + 1)))))))))) else some (M, .inr (some (.int x2))))
    refine g_iload_n 3 rfl rfl dX12_spreadFrom_68 ?_
    refine g_iconst (v := 3) (by decide) dX12_spreadFrom_69 ?_
    refine g_icmp_ge (tgt := 119) rfl dX12_spreadFrom_70 (fun c => ?_) (fun c => ?_)
    · refine g_iload_n 2 rfl rfl dX12_spreadFrom_119 ?_
      exact g_ireturn rfl (by decide) (by decide) dX12_spreadFrom_120 rfl rfl
    · refine g_aload_n 0 rfl rfl dX12_spreadFrom_73 ?_
      refine g_getR (k := 46) (b := 110) clX12 kd_87 (by decide) rfl rfl flX12_101 dX12_spreadFrom_74 ?_
      refine g_iload_n 3 rfl rfl dX12_spreadFrom_77 ?_
      refine g_dup2_ri dX12_spreadFrom_78 ?_
      refine g_ald kd_110 dX12_spreadFrom_79 (fun hi1 => ?_)
      refine g_aload_n 0 rfl rfl dX12_spreadFrom_80 ?_
      refine g_iload_n 1 rfl rfl dX12_spreadFrom_81 ?_
      refine g_callVI (y := miX12_strengthOf) (As := [.int x1]) (rest := [.int (gi M 110 (ix x3)), .int x3, .ref 110]) clX12 kd_87 rfl moX12_strengthOf rfl mlX12_339 (by first | decide | omega) (by decide) (by simp [Value.category]) rfl dX12_spreadFrom_82 (SX12_strengthOf  M x1) (fun M2 v3 => ?_)
      refine g_iadd dX12_spreadFrom_85 ?_
      refine g_ast kd_110 dX12_spreadFrom_86 (fun hi4 => ?_)
      refine GO.wr (fun M5 => ?_)
      refine g_iload_n 2 rfl rfl dX12_spreadFrom_87 ?_
      refine g_aload_n 0 rfl rfl dX12_spreadFrom_88 ?_
      refine g_iload_n 1 rfl rfl dX12_spreadFrom_89 ?_
      refine g_iconst (v := 1) (by decide) dX12_spreadFrom_90 ?_
      refine g_iadd dX12_spreadFrom_91 ?_
      refine g_callVI (y := miX12_spreadFrom) (As := [.int (x1 + 1)]) (rest := [.int x2]) clX12 kd_87 rfl moX12_spreadFrom rfl mlX12_454 (by first | decide | omega) (by decide) (by simp [Value.category]) rfl dX12_spreadFrom_92 (hE  M5 (x1 + 1)) (fun M6 v7 => ?_)
      refine g_mmin mlX12_177 ms_min mt_Math mc_min (by first | decide | omega) (by decide) (by simp [Value.category]) dX12_spreadFrom_95 ?_
      refine g_istore_n (L' := [(2, .int (if v7 < x2 then v7 else x2)), (0, .ref 87), (1, .int x1), (3, .int x3)]) (by decide) rfl rfl dX12_spreadFrom_98 ?_
      refine g_aload_n 1 rfl rfl dX12_spreadFrom_99 ?_
      refine g_getR (k := 46) (b := 110) clX12 kd_87 (by decide) rfl rfl flX12_101 dX12_spreadFrom_100 ?_
      refine g_iload_n 3 rfl rfl dX12_spreadFrom_103 ?_
      refine g_dup2_ri dX12_spreadFrom_104 ?_
      refine g_ald kd_110 dX12_spreadFrom_105 (fun hi8 => ?_)
      refine g_aload_n 1 rfl rfl dX12_spreadFrom_106 ?_
      refine g_iload_n 2 rfl rfl dX12_spreadFrom_107 ?_
      refine g_callVI (y := miX12_strengthOf) (As := [.int x1]) (rest := [.int (gi M6 110 (ix x3)), .int x3, .ref 110]) clX12 kd_87 rfl moX12_strengthOf rfl mlX12_339 (by first | decide | omega) (by decide) (by simp [Value.category]) rfl dX12_spreadFrom_108 (SX12_strengthOf  M6 x1) (fun M9 v10 => ?_)
      refine g_isub dX12_spreadFrom_111 ?_
      refine g_ast kd_110 dX12_spreadFrom_112 (fun hi11 => ?_)
      refine GO.wr (fun M12 => ?_)
      refine g_iinc (v := x3 + 1) (L' := [(3, .int (x3 + 1)), (2, .int (if v7 < x2 then v7 else x2)), (0, .ref 87), (1, .int x1)]) 3 rfl rfl (by decide) rfl dX12_spreadFrom_113 ?_
      refine g_goto (tgt := 68) rfl dX12_spreadFrom_116 ?_
      exact GO.pick [2, 3, 1, 0] rfl <| hrec68 M12 x1 (if v7 < x2 then v7 else x2) (x3 + 1)
def fX12_spreadFromF (rE : Mem → Int32 → RS) (M : Mem) (x1 : Int32) : RS := if x1 = (gi M 90 0) then some (M, .inr (some (.int ((if (gi M 110 0) < (if (gi M 110 1) < (gi M 110 2) then (gi M 110 2) else (gi M 110 1)) then (if (gi M 110 1) < (gi M 110 2) then (gi M 110 2) else (gi M 110 1)) else (gi M 110 0)) - (if (if (gi M 110 2) < (gi M 110 1) then (gi M 110 2) else (gi M 110 1)) < (gi M 110 0) then (if (gi M 110 2) < (gi M 110 1) then (gi M 110 2) else (gi M 110 1)) else (gi M 110 0)))))) else fX12_spreadFrom_b68 rE  FU M x1 2147483647 0
theorem SX12_spreadFromF (dE : Nat) (hD : 2 ≤ dE) (rE : Mem → Int32 → RS) (hE : ∀ (M : Mem) (x1 : Int32), CTO dE miX12_spreadFrom 0 0 [.ref 87, .int x1] M (rE M x1)) (M : Mem) (x1 : Int32) : CTO (dE + 1) miX12_spreadFrom 0 0 [.ref 87, .int x1] M (fX12_spreadFromF rE  M x1) := by
  refine CTO.of (by decide) (by simp [lg_sl, Value.category]) ?_
  show GO miX12_spreadFrom (dE + 1) 0 0 0 0 0 [(0, .ref 87), (1, .int x1)] [] M (if x1 = (gi M 90 0) then some (M, .inr (some (.int ((if (gi M 110 0) < (if (gi M 110 1) < (gi M 110 2) then (gi M 110 2) else (gi M 110 1)) then (if (gi M 110 1) < (gi M 110 2) then (gi M 110 2) else (gi M 110 1)) else (gi M 110 0)) - (if (if (gi M 110 2) < (gi M 110 1) then (gi M 110 2) else (gi M 110 1)) < (gi M 110 0) then (if (gi M 110 2) < (gi M 110 1) then (gi M 110 2) else (gi M 110 1)) else (gi M 110 0)))))) else fX12_spreadFrom_b68 rE  FU M x1 2147483647 0)
  refine g_iload_n 1 rfl rfl dX12_spreadFrom_0 ?_
  refine g_aload_n 0 rfl rfl dX12_spreadFrom_1 ?_
  refine g_getR (k := 4) (b := 90) clX12 kd_87 (by decide) rfl rfl flX12_35 dX12_spreadFrom_2 ?_
  refine g_iconst (v := 0) (by decide) dX12_spreadFrom_5 ?_
  refine g_aldL (j := 0) kd_90 (by decide) (by decide) dX12_spreadFrom_6 ?_
  refine g_icmp_ne (tgt := 62) rfl dX12_spreadFrom_7 (fun c => ?_) (fun c => ?_)
  · refine g_ldc_w (v := 2147483647) coX12_453 dX12_spreadFrom_62 ?_
    refine g_istore_n (L' := [(2, .int 2147483647), (0, .ref 87), (1, .int x1)]) (by decide) rfl rfl dX12_spreadFrom_65 ?_
    refine g_iconst (v := 0) (by decide) dX12_spreadFrom_66 ?_
    refine g_istore_n (L' := [(3, .int 0), (2, .int 2147483647), (0, .ref 87), (1, .int x1)]) (by decide) rfl rfl dX12_spreadFrom_67 ?_
    exact GO.pick [2, 3, 1, 0] rfl <| SX12_spreadFrom_b68 dE hD rE hE  FU M x1 2147483647 0
  · refine g_aload_n 0 rfl rfl dX12_spreadFrom_10 ?_
    refine g_getR (k := 46) (b := 110) clX12 kd_87 (by decide) rfl rfl flX12_101 dX12_spreadFrom_11 ?_
    refine g_iconst (v := 0) (by decide) dX12_spreadFrom_14 ?_
    refine g_aldL (j := 0) kd_110 (by decide) (by decide) dX12_spreadFrom_15 ?_
    refine g_aload_n 0 rfl rfl dX12_spreadFrom_16 ?_
    refine g_getR (k := 46) (b := 110) clX12 kd_87 (by decide) rfl rfl flX12_101 dX12_spreadFrom_17 ?_
    refine g_iconst (v := 1) (by decide) dX12_spreadFrom_20 ?_
    refine g_aldL (j := 1) kd_110 (by decide) (by decide) dX12_spreadFrom_21 ?_
    refine g_aload_n 0 rfl rfl dX12_spreadFrom_22 ?_
    refine g_getR (k := 46) (b := 110) clX12 kd_87 (by decide) rfl rfl flX12_101 dX12_spreadFrom_23 ?_
    refine g_iconst (v := 2) (by decide) dX12_spreadFrom_26 ?_
    refine g_aldL (j := 2) kd_110 (by decide) (by decide) dX12_spreadFrom_27 ?_
    refine g_mmax mlX12_356 ms_max mt_Math mc_max (by first | decide | omega) (by decide) (by simp [Value.category]) dX12_spreadFrom_28 ?_
    refine g_mmax mlX12_356 ms_max mt_Math mc_max (by first | decide | omega) (by decide) (by simp [Value.category]) dX12_spreadFrom_31 ?_
    refine g_istore_n (L' := [(2, .int (if (gi M 110 0) < (if (gi M 110 1) < (gi M 110 2) then (gi M 110 2) else (gi M 110 1)) then (if (gi M 110 1) < (gi M 110 2) then (gi M 110 2) else (gi M 110 1)) else (gi M 110 0))), (0, .ref 87), (1, .int x1)]) (by decide) rfl rfl dX12_spreadFrom_34 ?_
    refine g_iload_n 0 rfl rfl dX12_spreadFrom_35 ?_
    refine g_aload_n 1 rfl rfl dX12_spreadFrom_36 ?_
    refine g_getR (k := 46) (b := 110) clX12 kd_87 (by decide) rfl rfl flX12_101 dX12_spreadFrom_37 ?_
    refine g_iconst (v := 0) (by decide) dX12_spreadFrom_40 ?_
    refine g_aldL (j := 0) kd_110 (by decide) (by decide) dX12_spreadFrom_41 ?_
    refine g_aload_n 1 rfl rfl dX12_spreadFrom_42 ?_
    refine g_getR (k := 46) (b := 110) clX12 kd_87 (by decide) rfl rfl flX12_101 dX12_spreadFrom_43 ?_
    refine g_iconst (v := 1) (by decide) dX12_spreadFrom_46 ?_
    refine g_aldL (j := 1) kd_110 (by decide) (by decide) dX12_spreadFrom_47 ?_
    refine g_aload_n 1 rfl rfl dX12_spreadFrom_48 ?_
    refine g_getR (k := 46) (b := 110) clX12 kd_87 (by decide) rfl rfl flX12_101 dX12_spreadFrom_49 ?_
    refine g_iconst (v := 2) (by decide) dX12_spreadFrom_52 ?_
    refine g_aldL (j := 2) kd_110 (by decide) (by decide) dX12_spreadFrom_53 ?_
    refine g_mmin mlX12_177 ms_min mt_Math mc_min (by first | decide | omega) (by decide) (by simp [Value.category]) dX12_spreadFrom_54 ?_
    refine g_mmin mlX12_177 ms_min mt_Math mc_min (by first | decide | omega) (by decide) (by simp [Value.category]) dX12_spreadFrom_57 ?_
    refine g_isub dX12_spreadFrom_60 ?_
    exact g_ireturn rfl (by decide) (by decide) dX12_spreadFrom_61 rfl rfl
def fX12_spreadFrom : Nat → Mem → Int32 → RS
  | 0 => fun _ _ => none
  | n + 1 => fun M x1 => fX12_spreadFromF (fX12_spreadFrom n) M x1
theorem SX12_spreadFrom (n : Nat) : ∀ (M : Mem) (x1 : Int32), CTO (2 + 1 * n) miX12_spreadFrom 0 0 [.ref 87, .int x1] M (fX12_spreadFrom n M x1) := by
  induction n with
  | zero => intro M x1 M1 r e; cases e
  | succ n ih =>
    intro M x1
    exact SX12_spreadFromF (2 + 1 * n) (by omega) (fX12_spreadFrom n) ih M x1
def fX12_tribes_b7 : Nat → Mem → Int32 → RS
  | 0 => fun _ _ => none
  | n + 1 => fun M x1 => if x1 < 3 then chk (inb x1 3) (wr (si M 110 (ix x1) 0) (fun M5 => (fX12_tribes_b7 n) M5 (x1 + 1))) else bI (fX12_spreadFrom FR M 0) (fun M2 v3 => some (M2, .inr (some (.int v3))))
theorem SX12_tribes_b7 (n : Nat) : ∀ (M : Mem) (x1 : Int32), GO miX12_tribes (13) 0 0 0 0 7 [(0, .ref 87), (1, .int x1)] [] M (fX12_tribes_b7 n M x1) := by
  induction n with
  | zero => intro M x1 ; exact GO.none
  | succ n hrec7 =>
    intro M x1 
    show GO miX12_tribes (13) 0 0 0 0 7 [(0, .ref 87), (1, .int x1)] [] M (if x1 < 3 then chk (inb x1 3) (wr (si M 110 (ix x1) 0) (fun M5 => (fX12_tribes_b7 n) M5 (x1 + 1))) else bI (fX12_spreadFrom FR M 0) (fun M2 v3 => some (M2, .inr (some (.int v3)))))
    refine g_iload_n 1 rfl rfl dX12_tribes_7 ?_
    refine g_iconst (v := 3) (by decide) dX12_tribes_8 ?_
    refine g_icmp_ge (tgt := 25) rfl dX12_tribes_9 (fun c => ?_) (fun c => ?_)
    · refine g_aload_n 0 rfl rfl dX12_tribes_25 ?_
      refine g_iconst (v := 0) (by decide) dX12_tribes_26 ?_
      refine g_callVI (y := miX12_spreadFrom) (As := [.int 0]) (rest := []) clX12 kd_87 rfl moX12_spreadFrom rfl mlX12_454 (by first | decide | omega) (by decide) (by simp [Value.category]) rfl dX12_tribes_27 (SX12_spreadFrom FR  M 0) (fun M2 v3 => ?_)
      exact g_ireturn rfl (by decide) (by decide) dX12_tribes_30 rfl rfl
    · refine g_aload_n 0 rfl rfl dX12_tribes_12 ?_
      refine g_getR (k := 46) (b := 110) clX12 kd_87 (by decide) rfl rfl flX12_101 dX12_tribes_13 ?_
      refine g_iload_n 1 rfl rfl dX12_tribes_16 ?_
      refine g_iconst (v := 0) (by decide) dX12_tribes_17 ?_
      refine g_ast kd_110 dX12_tribes_18 (fun hi4 => ?_)
      refine GO.wr (fun M5 => ?_)
      refine g_iinc (v := x1 + 1) (L' := [(1, .int (x1 + 1)), (0, .ref 87)]) 1 rfl rfl (by decide) rfl dX12_tribes_19 ?_
      refine g_goto (tgt := 7) rfl dX12_tribes_22 ?_
      exact GO.pick [1, 0] rfl <| hrec7 M5 (x1 + 1)
def fX12_tribes (M : Mem)  : RS := wr (si M 87 3 0) (fun M1 => fX12_tribes_b7  FU M1 0)
theorem SX12_tribes (M : Mem)  : CTO (13) miX12_tribes 0 0 [.ref 87] M (fX12_tribes  M ) := by
  refine CTO.of (by decide) (by simp [lg_sl, Value.category]) ?_
  show GO miX12_tribes (13) 0 0 0 0 0 [(0, .ref 87)] [] M (wr (si M 87 3 0) (fun M1 => fX12_tribes_b7  FU M1 0))
  refine g_aload_n 0 rfl rfl dX12_tribes_0 ?_
  refine g_iconst (v := 0) (by decide) dX12_tribes_1 ?_
  refine g_putI (k := 3) clX12 kd_87 (by decide) rfl (by decide) rfl flX12_140 dX12_tribes_2 ?_
  refine GO.wr (fun M1 => ?_)
  refine g_iconst (v := 0) (by decide) dX12_tribes_5 ?_
  refine g_istore_n (L' := [(1, .int 0), (0, .ref 87)]) (by decide) rfl rfl dX12_tribes_6 ?_
  exact GO.pick [1, 0] rfl <| SX12_tribes_b7  FU M1 0
def fX12_walksTo_b67 (rec5 : Mem → Int32 → Int32 → Int32 → Int32 → RS) (M : Mem) (x1 : Int32) (x2 : Int32) (x4 : Int32) (s0 : Int32) (s1 : Int32) : RS := rec5 M x1 x2 (s1 + s0) (x4 + 1)
theorem SX12_walksTo_b67 (rec5 : Mem → Int32 → Int32 → Int32 → Int32 → RS) (hrec5 : ∀ (M : Mem) (x1 : Int32) (x2 : Int32) (x3 : Int32) (x4 : Int32), GO miX12_walksTo (1) 0 0 0 0 5 [(0, .ref 87), (1, .int x1), (2, .int x2), (3, .int x3), (4, .int x4)] [] M (rec5 M x1 x2 x3 x4)) (M : Mem) (x1 : Int32) (x2 : Int32) (x4 : Int32) (s0 : Int32) (s1 : Int32) : GO miX12_walksTo (1) 0 0 0 0 67 [(0, .ref 87), (1, .int x1), (2, .int x2), (4, .int x4)] [.int s0, .int s1] M (fX12_walksTo_b67 rec5 M x1 x2 x4 s0 s1) := by
  show GO miX12_walksTo (1) 0 0 0 0 67 [(0, .ref 87), (1, .int x1), (2, .int x2), (4, .int x4)] [.int s0, .int s1] M (rec5 M x1 x2 (s1 + s0) (x4 + 1))
  refine g_iadd dX12_walksTo_67 ?_
  refine g_istore_n (L' := [(3, .int (s1 + s0)), (0, .ref 87), (1, .int x1), (2, .int x2), (4, .int x4)]) (by decide) rfl rfl dX12_walksTo_68 ?_
  refine g_iinc (v := x4 + 1) (L' := [(4, .int (x4 + 1)), (3, .int (s1 + s0)), (0, .ref 87), (1, .int x1), (2, .int x2)]) 4 rfl rfl (by decide) rfl dX12_walksTo_69 ?_
  refine g_goto (tgt := 5) rfl dX12_walksTo_72 ?_
  exact GO.pick [2, 3, 4, 1, 0] rfl <| hrec5 M x1 x2 (s1 + s0) (x4 + 1)
def fX12_walksTo_b5 : Nat → Mem → Int32 → Int32 → Int32 → Int32 → RS
  | 0 => fun _ _ _ _ _ => none
  | n + 1 => fun M x1 x2 x3 x4 => if x4 < (gi M 90 0) then chk (inb x4 8) (if (gi M 103 (ix x4)) = (-1) then fX12_walksTo_b67 (fX12_walksTo_b5 n) M x1 x2 x4 0 x3 else chk (inb x4 8) (chk (inb (gi M 103 (ix x4)) 18) (chk (inb x4 8) (chk (inb (gi M 103 (ix x4)) 18) (fX12_walksTo_b67 (fX12_walksTo_b5 n) M x1 x2 x4 ((if 0 ≤ ((gi M 94 (ix (gi M 103 (ix x4)))) - x1) then ((gi M 94 (ix (gi M 103 (ix x4)))) - x1) else 0 - ((gi M 94 (ix (gi M 103 (ix x4)))) - x1)) + (if 0 ≤ ((gi M 95 (ix (gi M 103 (ix x4)))) - x2) then ((gi M 95 (ix (gi M 103 (ix x4)))) - x2) else 0 - ((gi M 95 (ix (gi M 103 (ix x4)))) - x2))) x3))))) else some (M, .inr (some (.int x3)))
theorem SX12_walksTo_b5 (n : Nat) : ∀ (M : Mem) (x1 : Int32) (x2 : Int32) (x3 : Int32) (x4 : Int32), GO miX12_walksTo (1) 0 0 0 0 5 [(0, .ref 87), (1, .int x1), (2, .int x2), (3, .int x3), (4, .int x4)] [] M (fX12_walksTo_b5 n M x1 x2 x3 x4) := by
  induction n with
  | zero => intro M x1 x2 x3 x4 ; exact GO.none
  | succ n hrec5 =>
    intro M x1 x2 x3 x4 
    show GO miX12_walksTo (1) 0 0 0 0 5 [(0, .ref 87), (1, .int x1), (2, .int x2), (3, .int x3), (4, .int x4)] [] M (if x4 < (gi M 90 0) then chk (inb x4 8) (if (gi M 103 (ix x4)) = (-1) then fX12_walksTo_b67 (fX12_walksTo_b5 n) M x1 x2 x4 0 x3 else chk (inb x4 8) (chk (inb (gi M 103 (ix x4)) 18) (chk (inb x4 8) (chk (inb (gi M 103 (ix x4)) 18) (fX12_walksTo_b67 (fX12_walksTo_b5 n) M x1 x2 x4 ((if 0 ≤ ((gi M 94 (ix (gi M 103 (ix x4)))) - x1) then ((gi M 94 (ix (gi M 103 (ix x4)))) - x1) else 0 - ((gi M 94 (ix (gi M 103 (ix x4)))) - x1)) + (if 0 ≤ ((gi M 95 (ix (gi M 103 (ix x4)))) - x2) then ((gi M 95 (ix (gi M 103 (ix x4)))) - x2) else 0 - ((gi M 95 (ix (gi M 103 (ix x4)))) - x2))) x3))))) else some (M, .inr (some (.int x3))))
    refine g_iload 4 rfl dX12_walksTo_5 ?_
    refine g_aload_n 0 rfl rfl dX12_walksTo_7 ?_
    refine g_getR (k := 4) (b := 90) clX12 kd_87 (by decide) rfl rfl flX12_35 dX12_walksTo_8 ?_
    refine g_iconst (v := 0) (by decide) dX12_walksTo_11 ?_
    refine g_aldL (j := 0) kd_90 (by decide) (by decide) dX12_walksTo_12 ?_
    refine g_icmp_ge (tgt := 75) rfl dX12_walksTo_13 (fun c => ?_) (fun c => ?_)
    · refine g_iload_n 3 rfl rfl dX12_walksTo_75 ?_
      exact g_ireturn rfl (by decide) (by decide) dX12_walksTo_76 rfl rfl
    · refine g_iload_n 3 rfl rfl dX12_walksTo_16 ?_
      refine g_aload_n 0 rfl rfl dX12_walksTo_17 ?_
      refine g_getR (k := 28) (b := 103) clX12 kd_87 (by decide) rfl rfl flX12_76 dX12_walksTo_18 ?_
      refine g_iload 4 rfl dX12_walksTo_21 ?_
      refine g_ald kd_103 dX12_walksTo_23 (fun hi1 => ?_)
      refine g_iconst (v := (-1)) (by decide) dX12_walksTo_24 ?_
      refine g_icmp_ne (tgt := 32) rfl dX12_walksTo_25 (fun c => ?_) (fun c => ?_)
      · refine g_aload_n 0 rfl rfl dX12_walksTo_32 ?_
        refine g_getR (k := 8) (b := 94) clX12 kd_87 (by decide) rfl rfl flX12_46 dX12_walksTo_33 ?_
        refine g_aload_n 0 rfl rfl dX12_walksTo_36 ?_
        refine g_getR (k := 28) (b := 103) clX12 kd_87 (by decide) rfl rfl flX12_76 dX12_walksTo_37 ?_
        refine g_iload 4 rfl dX12_walksTo_40 ?_
        refine g_ald kd_103 dX12_walksTo_42 (fun hi2 => ?_)
        refine g_ald kd_94 dX12_walksTo_43 (fun hi3 => ?_)
        refine g_iload_n 1 rfl rfl dX12_walksTo_44 ?_
        refine g_isub dX12_walksTo_45 ?_
        refine g_mabs mlX12_336 ms_abs mt_Math mc_abs (by first | decide | omega) (by decide) (by simp [Value.category]) dX12_walksTo_46 ?_
        refine g_aload_n 0 rfl rfl dX12_walksTo_49 ?_
        refine g_getR (k := 9) (b := 95) clX12 kd_87 (by decide) rfl rfl flX12_49 dX12_walksTo_50 ?_
        refine g_aload_n 0 rfl rfl dX12_walksTo_53 ?_
        refine g_getR (k := 28) (b := 103) clX12 kd_87 (by decide) rfl rfl flX12_76 dX12_walksTo_54 ?_
        refine g_iload 4 rfl dX12_walksTo_57 ?_
        refine g_ald kd_103 dX12_walksTo_59 (fun hi4 => ?_)
        refine g_ald kd_95 dX12_walksTo_60 (fun hi5 => ?_)
        refine g_iload_n 2 rfl rfl dX12_walksTo_61 ?_
        refine g_isub dX12_walksTo_62 ?_
        refine g_mabs mlX12_336 ms_abs mt_Math mc_abs (by first | decide | omega) (by decide) (by simp [Value.category]) dX12_walksTo_63 ?_
        refine g_iadd dX12_walksTo_66 ?_
        exact GO.pick [0, 1, 2, 4] rfl <| SX12_walksTo_b67  (fX12_walksTo_b5 n) hrec5 M x1 x2 x4 ((if 0 ≤ ((gi M 94 (ix (gi M 103 (ix x4)))) - x1) then ((gi M 94 (ix (gi M 103 (ix x4)))) - x1) else 0 - ((gi M 94 (ix (gi M 103 (ix x4)))) - x1)) + (if 0 ≤ ((gi M 95 (ix (gi M 103 (ix x4)))) - x2) then ((gi M 95 (ix (gi M 103 (ix x4)))) - x2) else 0 - ((gi M 95 (ix (gi M 103 (ix x4)))) - x2))) x3
      · refine g_iconst (v := 0) (by decide) dX12_walksTo_28 ?_
        refine g_goto (tgt := 67) rfl dX12_walksTo_29 ?_
        exact GO.pick [0, 1, 2, 4] rfl <| SX12_walksTo_b67  (fX12_walksTo_b5 n) hrec5 M x1 x2 x4 0 x3
def fX12_walksTo (M : Mem) (x1 : Int32) (x2 : Int32) : RS := fX12_walksTo_b5  FU M x1 x2 0 0
theorem SX12_walksTo (M : Mem) (x1 : Int32) (x2 : Int32) : CTO (1) miX12_walksTo 0 0 [.ref 87, .int x1, .int x2] M (fX12_walksTo  M x1 x2) := by
  refine CTO.of (by decide) (by simp [lg_sl, Value.category]) ?_
  show GO miX12_walksTo (1) 0 0 0 0 0 [(0, .ref 87), (1, .int x1), (2, .int x2)] [] M (fX12_walksTo_b5  FU M x1 x2 0 0)
  refine g_iconst (v := 0) (by decide) dX12_walksTo_0 ?_
  refine g_istore_n (L' := [(3, .int 0), (0, .ref 87), (1, .int x1), (2, .int x2)]) (by decide) rfl rfl dX12_walksTo_1 ?_
  refine g_iconst (v := 0) (by decide) dX12_walksTo_2 ?_
  refine g_istore (L' := [(4, .int 0), (3, .int 0), (0, .ref 87), (1, .int x1), (2, .int x2)]) (by decide) rfl dX12_walksTo_3 ?_
  exact GO.pick [2, 3, 4, 1, 0] rfl <| SX12_walksTo_b5  FU M x1 x2 0 0
def fX12_middle_b51 (rec9 : Mem → Int32 → Int32 → RS) (rec17 : Mem → Int32 → Int32 → Int32 → RS) (M : Mem) (x1 : Int32) (x2 : Int32) (x3 : Int32) : RS := rec17 M x1 x2 (x3 + 1)
theorem SX12_middle_b51 (rec9 : Mem → Int32 → Int32 → RS) (hrec9 : ∀ (M : Mem) (x1 : Int32) (x2 : Int32), GO miX12_middle (2) 0 0 0 0 9 [(0, .ref 87), (1, .int x1), (2, .int x2)] [] M (rec9 M x1 x2)) (rec17 : Mem → Int32 → Int32 → Int32 → RS) (hrec17 : ∀ (M : Mem) (x1 : Int32) (x2 : Int32) (x3 : Int32), GO miX12_middle (2) 0 0 0 0 17 [(0, .ref 87), (1, .int x1), (2, .int x2), (3, .int x3)] [] M (rec17 M x1 x2 x3)) (M : Mem) (x1 : Int32) (x2 : Int32) (x3 : Int32) : GO miX12_middle (2) 0 0 0 0 51 [(0, .ref 87), (1, .int x1), (2, .int x2), (3, .int x3)] [] M (fX12_middle_b51 rec9 rec17 M x1 x2 x3) := by
  show GO miX12_middle (2) 0 0 0 0 51 [(0, .ref 87), (1, .int x1), (2, .int x2), (3, .int x3)] [] M (rec17 M x1 x2 (x3 + 1))
  refine g_iinc (v := x3 + 1) (L' := [(3, .int (x3 + 1)), (0, .ref 87), (1, .int x1), (2, .int x2)]) 3 rfl rfl (by decide) rfl dX12_middle_51 ?_
  refine g_goto (tgt := 17) rfl dX12_middle_54 ?_
  exact GO.pick [1, 2, 3, 0] rfl <| hrec17 M x1 x2 (x3 + 1)
def fX12_middle_b17 (rec9 : Mem → Int32 → Int32 → RS) : Nat → Mem → Int32 → Int32 → Int32 → RS
  | 0 => fun _ _ _ _ => none
  | n + 1 => fun M x1 x2 x3 => if 20 < x3 then rec9 M x1 (x2 + 1) else bI (fX12_walksTo M x3 x2) (fun M2 v3 => bI (fX12_walksTo M2 (x1 - x1 / 100 * 100) (x1 / 100)) (fun M4 v5 => if v3 < v5 then fX12_middle_b51 rec9 (fX12_middle_b17 rec9 n) M4 ((100 * x2) + x3) x2 x3 else fX12_middle_b51 rec9 (fX12_middle_b17 rec9 n) M4 x1 x2 x3))
theorem SX12_middle_b17 (rec9 : Mem → Int32 → Int32 → RS) (hrec9 : ∀ (M : Mem) (x1 : Int32) (x2 : Int32), GO miX12_middle (2) 0 0 0 0 9 [(0, .ref 87), (1, .int x1), (2, .int x2)] [] M (rec9 M x1 x2)) (n : Nat) : ∀ (M : Mem) (x1 : Int32) (x2 : Int32) (x3 : Int32), GO miX12_middle (2) 0 0 0 0 17 [(0, .ref 87), (1, .int x1), (2, .int x2), (3, .int x3)] [] M (fX12_middle_b17 rec9 n M x1 x2 x3) := by
  induction n with
  | zero => intro M x1 x2 x3 ; exact GO.none
  | succ n hrec17 =>
    intro M x1 x2 x3 
    show GO miX12_middle (2) 0 0 0 0 17 [(0, .ref 87), (1, .int x1), (2, .int x2), (3, .int x3)] [] M (if 20 < x3 then rec9 M x1 (x2 + 1) else bI (fX12_walksTo M x3 x2) (fun M2 v3 => bI (fX12_walksTo M2 (x1 - x1 / 100 * 100) (x1 / 100)) (fun M4 v5 => if v3 < v5 then fX12_middle_b51 rec9 (fX12_middle_b17 rec9 n) M4 ((100 * x2) + x3) x2 x3 else fX12_middle_b51 rec9 (fX12_middle_b17 rec9 n) M4 x1 x2 x3)))
    refine g_iload_n 3 rfl rfl dX12_middle_17 ?_
    refine g_bipush (v := 20) (by decide) dX12_middle_18 ?_
    refine g_icmp_gt (tgt := 57) rfl dX12_middle_20 (fun c => ?_) (fun c => ?_)
    · refine g_iinc (v := x2 + 1) (L' := [(2, .int (x2 + 1)), (0, .ref 87), (1, .int x1), (3, .int x3)]) 2 rfl rfl (by decide) rfl dX12_middle_57 ?_
      refine g_goto (tgt := 9) rfl dX12_middle_60 ?_
      exact GO.pick [1, 2, 0] rfl <| hrec9 M x1 (x2 + 1)
    · refine g_aload_n 0 rfl rfl dX12_middle_23 ?_
      refine g_iload_n 3 rfl rfl dX12_middle_24 ?_
      refine g_iload_n 2 rfl rfl dX12_middle_25 ?_
      refine g_callVI (y := miX12_walksTo) (As := [.int x3, .int x2]) (rest := []) clX12 kd_87 rfl moX12_walksTo rfl mlX12_457 (by first | decide | omega) (by decide) (by simp [Value.category]) rfl dX12_middle_26 (SX12_walksTo  M x3 x2) (fun M2 v3 => ?_)
      refine g_aload_n 0 rfl rfl dX12_middle_29 ?_
      refine g_iload_n 1 rfl rfl dX12_middle_30 ?_
      refine g_bipush (v := 100) (by decide) dX12_middle_31 ?_
      refine g_irem (by decide) dX12_middle_33 ?_
      refine g_iload_n 1 rfl rfl dX12_middle_34 ?_
      refine g_bipush (v := 100) (by decide) dX12_middle_35 ?_
      refine g_idiv (by decide) dX12_middle_37 ?_
      refine g_callVI (y := miX12_walksTo) (As := [.int (x1 - x1 / 100 * 100), .int (x1 / 100)]) (rest := [.int v3]) clX12 kd_87 rfl moX12_walksTo rfl mlX12_457 (by first | decide | omega) (by decide) (by simp [Value.category]) rfl dX12_middle_38 (SX12_walksTo  M2 (x1 - x1 / 100 * 100) (x1 / 100)) (fun M4 v5 => ?_)
      refine g_icmp_ge (tgt := 51) rfl dX12_middle_41 (fun c => ?_) (fun c => ?_)
      · exact GO.pick [0, 1, 2, 3] rfl <| SX12_middle_b51  rec9 hrec9 (fX12_middle_b17 rec9 n) hrec17 M4 x1 x2 x3
      · refine g_bipush (v := 100) (by decide) dX12_middle_44 ?_
        refine g_iload_n 2 rfl rfl dX12_middle_46 ?_
        refine g_imul dX12_middle_47 ?_
        refine g_iload_n 3 rfl rfl dX12_middle_48 ?_
        refine g_iadd dX12_middle_49 ?_
        refine g_istore_n (L' := [(1, .int ((100 * x2) + x3)), (0, .ref 87), (2, .int x2), (3, .int x3)]) (by decide) rfl rfl dX12_middle_50 ?_
        exact GO.pick [1, 0, 2, 3] rfl <| SX12_middle_b51  rec9 hrec9 (fX12_middle_b17 rec9 n) hrec17 M4 ((100 * x2) + x3) x2 x3
def fX12_middle_b9 : Nat → Mem → Int32 → Int32 → RS
  | 0 => fun _ _ _ => none
  | n + 1 => fun M x1 x2 => if 20 < x2 then some (M, .inr (some (.int x1))) else fX12_middle_b17 (fX12_middle_b9 n) FU M x1 x2 0
theorem SX12_middle_b9 (n : Nat) : ∀ (M : Mem) (x1 : Int32) (x2 : Int32), GO miX12_middle (2) 0 0 0 0 9 [(0, .ref 87), (1, .int x1), (2, .int x2)] [] M (fX12_middle_b9 n M x1 x2) := by
  induction n with
  | zero => intro M x1 x2 ; exact GO.none
  | succ n hrec9 =>
    intro M x1 x2 
    show GO miX12_middle (2) 0 0 0 0 9 [(0, .ref 87), (1, .int x1), (2, .int x2)] [] M (if 20 < x2 then some (M, .inr (some (.int x1))) else fX12_middle_b17 (fX12_middle_b9 n) FU M x1 x2 0)
    refine g_iload_n 2 rfl rfl dX12_middle_9 ?_
    refine g_bipush (v := 20) (by decide) dX12_middle_10 ?_
    refine g_icmp_gt (tgt := 63) rfl dX12_middle_12 (fun c => ?_) (fun c => ?_)
    · refine g_iload_n 1 rfl rfl dX12_middle_63 ?_
      exact g_ireturn rfl (by decide) (by decide) dX12_middle_64 rfl rfl
    · refine g_iconst (v := 0) (by decide) dX12_middle_15 ?_
      refine g_istore_n (L' := [(3, .int 0), (0, .ref 87), (1, .int x1), (2, .int x2)]) (by decide) rfl rfl dX12_middle_16 ?_
      exact GO.pick [1, 2, 3, 0] rfl <| SX12_middle_b17  (fX12_middle_b9 n) hrec9 FU M x1 x2 0
def fX12_middle (M : Mem)  : RS := wr (si M 87 3 0) (fun M1 => fX12_middle_b9  FU M1 0 0)
theorem SX12_middle (M : Mem)  : CTO (2) miX12_middle 0 0 [.ref 87] M (fX12_middle  M ) := by
  refine CTO.of (by decide) (by simp [lg_sl, Value.category]) ?_
  show GO miX12_middle (2) 0 0 0 0 0 [(0, .ref 87)] [] M (wr (si M 87 3 0) (fun M1 => fX12_middle_b9  FU M1 0 0))
  refine g_aload_n 0 rfl rfl dX12_middle_0 ?_
  refine g_iconst (v := 0) (by decide) dX12_middle_1 ?_
  refine g_putI (k := 3) clX12 kd_87 (by decide) rfl (by decide) rfl flX12_140 dX12_middle_2 ?_
  refine GO.wr (fun M1 => ?_)
  refine g_iconst (v := 0) (by decide) dX12_middle_5 ?_
  refine g_istore_n (L' := [(1, .int 0), (0, .ref 87)]) (by decide) rfl rfl dX12_middle_6 ?_
  refine g_iconst (v := 0) (by decide) dX12_middle_7 ?_
  refine g_istore_n (L' := [(2, .int 0), (1, .int 0), (0, .ref 87)]) (by decide) rfl rfl dX12_middle_8 ?_
  exact GO.pick [2, 1, 0] rfl <| SX12_middle_b9  FU M1 0 0

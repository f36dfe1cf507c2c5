def fX12_thrown (M : Mem)  : RS := some (M, .inr (some (.int (gi M 87 3))))
theorem SX12_thrown (M : Mem)  : CTO (0) miX12_thrown 0 0 [.ref 87] M (fX12_thrown  M ) := by
  refine CTO.of (by decide) (by simp [lg_sl, Value.category]) ?_
  show GO miX12_thrown (0) 0 0 0 0 0 [(0, .ref 87)] [] M (some (M, .inr (some (.int (gi M 87 3)))))
  refine g_aload_n 0 rfl rfl dX12_thrown_0 ?_
  refine g_getI (k := 3) clX12 kd_87 (by decide) rfl flX12_140 dX12_thrown_1 ?_
  exact g_ireturn rfl (by decide) (by decide) dX12_thrown_4 rfl rfl
def fX12_fail (M : Mem) (x1 : Int32) : RS := wr (si M 87 3 x1) (fun M1 => some (M1, .inr (some (.int 0))))
theorem SX12_fail (M : Mem) (x1 : Int32) : CTO (0) miX12_fail 0 0 [.ref 87, .int x1] M (fX12_fail  M x1) := by
  refine CTO.of (by decide) (by simp [lg_sl, Value.category]) ?_
  show GO miX12_fail (0) 0 0 0 0 0 [(0, .ref 87), (1, .int x1)] [] M (wr (si M 87 3 x1) (fun M1 => some (M1, .inr (some (.int 0)))))
  refine g_aload_n 0 rfl rfl dX12_fail_0 ?_
  refine g_iload_n 1 rfl rfl dX12_fail_1 ?_
  refine g_putI (k := 3) clX12 kd_87 (by decide) rfl (by decide) rfl flX12_140 dX12_fail_2 ?_
  refine GO.wr (fun M1 => ?_)
  refine g_iconst (v := 0) (by decide) dX12_fail_5 ?_
  exact g_ireturn rfl (by decide) (by decide) dX12_fail_6 rfl rfl
def fX12_failing (M : Mem) (x1 : Int32) : RS := wr (si M 87 3 x1) (fun M1 => some (M1, .inr (some (.int 0))))
theorem SX12_failing (M : Mem) (x1 : Int32) : CTO (0) miX12_failing 0 0 [.ref 87, .int x1] M (fX12_failing  M x1) := by
  refine CTO.of (by decide) (by simp [lg_sl, Value.category]) ?_
  show GO miX12_failing (0) 0 0 0 0 0 [(0, .ref 87), (1, .int x1)] [] M (wr (si M 87 3 x1) (fun M1 => some (M1, .inr (some (.int 0)))))
  refine g_aload_n 0 rfl rfl dX12_failing_0 ?_
  refine g_iload_n 1 rfl rfl dX12_failing_1 ?_
  refine g_putI (k := 3) clX12 kd_87 (by decide) rfl (by decide) rfl flX12_140 dX12_failing_2 ?_
  refine GO.wr (fun M1 => ?_)
  refine g_iconst (v := 0) (by decide) dX12_failing_5 ?_
  exact g_zreturn rfl (by decide) (by decide) dX12_failing_6 (by decide)
def fX12_isIn (M : Mem) (x0 : Int64) (x1 : Int64) (x2 : Int64) : RS := if (lg_cmp x0 x1) < 0 then some (M, .inr (some (.int 0))) else if 0 < (lg_cmp x0 x2) then some (M, .inr (some (.int 0))) else some (M, .inr (some (.int 1)))
theorem SX12_isIn (M : Mem) (x0 : Int64) (x1 : Int64) (x2 : Int64) : CTO (0) miX12_isIn 0 0 [.long x0, .long x1, .long x2] M (fX12_isIn  M x0 x1 x2) := by
  refine CTO.of (by decide) (by simp [lg_sl, Value.category]) ?_
  show GO miX12_isIn (0) 0 0 0 0 0 [(0, .long x0), (2, .long x1), (4, .long x2)] [] M (if (lg_cmp x0 x1) < 0 then some (M, .inr (some (.int 0))) else if 0 < (lg_cmp x0 x2) then some (M, .inr (some (.int 0))) else some (M, .inr (some (.int 1))))
  refine g_lload_n 0 rfl rfl dX12_isIn_0 ?_
  refine g_lload_n 1 rfl rfl dX12_isIn_1 ?_
  refine g_lcmp dX12_isIn_2 ?_
  refine g_if_lt (tgt := 17) rfl dX12_isIn_3 (fun c => ?_) (fun c => ?_)
  · refine g_iconst (v := 0) (by decide) dX12_isIn_17 ?_
    exact g_zreturn rfl (by decide) (by decide) dX12_isIn_18 (by decide)
  · refine g_lload_n 0 rfl rfl dX12_isIn_6 ?_
    refine g_lload 2 rfl dX12_isIn_7 ?_
    refine g_lcmp dX12_isIn_9 ?_
    refine g_if_gt (tgt := 17) rfl dX12_isIn_10 (fun c => ?_) (fun c => ?_)
    · refine g_iconst (v := 0) (by decide) dX12_isIn_17 ?_
      exact g_zreturn rfl (by decide) (by decide) dX12_isIn_18 (by decide)
    · refine g_iconst (v := 1) (by decide) dX12_isIn_13 ?_
      refine g_goto (tgt := 18) rfl dX12_isIn_14 ?_
      exact g_zreturn rfl (by decide) (by decide) dX12_isIn_18 (by decide)
def fX12_isOf (M : Mem) (x0 : Int32) (x1 : Int32) : RS := if ((x0 >>> (x1 &&& 31)) &&& 1) = 1 then some (M, .inr (some (.int 1))) else some (M, .inr (some (.int 0)))
theorem SX12_isOf (M : Mem) (x0 : Int32) (x1 : Int32) : CTO (0) miX12_isOf 0 0 [.int x0, .int x1] M (fX12_isOf  M x0 x1) := by
  refine CTO.of (by decide) (by simp [lg_sl, Value.category]) ?_
  show GO miX12_isOf (0) 0 0 0 0 0 [(0, .int x0), (1, .int x1)] [] M (if ((x0 >>> (x1 &&& 31)) &&& 1) = 1 then some (M, .inr (some (.int 1))) else some (M, .inr (some (.int 0))))
  refine g_iload_n 0 rfl rfl dX12_isOf_0 ?_
  refine g_iload_n 1 rfl rfl dX12_isOf_1 ?_
  refine g_ishr dX12_isOf_2 ?_
  refine g_iconst (v := 1) (by decide) dX12_isOf_3 ?_
  refine g_iand dX12_isOf_4 ?_
  refine g_iconst (v := 1) (by decide) dX12_isOf_5 ?_
  refine g_icmp_ne (tgt := 13) rfl dX12_isOf_6 (fun c => ?_) (fun c => ?_)
  · refine g_iconst (v := 0) (by decide) dX12_isOf_13 ?_
    exact g_zreturn rfl (by decide) (by decide) dX12_isOf_14 (by decide)
  · refine g_iconst (v := 1) (by decide) dX12_isOf_9 ?_
    refine g_goto (tgt := 14) rfl dX12_isOf_10 ?_
    exact g_zreturn rfl (by decide) (by decide) dX12_isOf_14 (by decide)
def fX12_bitsOf_b4 : Nat → Mem → Int32 → Int32 → RS
  | 0 => fun _ _ _ => none
  | n + 1 => fun M x1 x2 => if x2 = 0 then some (M, .inr (some (.int x1))) else (fX12_bitsOf_b4 n) M (x1 + 1) (x2 &&& (x2 - 1))
theorem SX12_bitsOf_b4 (n : Nat) : ∀ (M : Mem) (x1 : Int32) (x2 : Int32), GO miX12_bitsOf (0) 0 0 0 0 4 [(1, .int x1), (2, .int x2)] [] M (fX12_bitsOf_b4 n M x1 x2) := by
  induction n with
  | zero => intro M x1 x2 ; exact GO.none
  | succ n hrec4 =>
    intro M x1 x2 
    show GO miX12_bitsOf (0) 0 0 0 0 4 [(1, .int x1), (2, .int x2)] [] M (if x2 = 0 then some (M, .inr (some (.int x1))) else (fX12_bitsOf_b4 n) M (x1 + 1) (x2 &&& (x2 - 1)))
    refine g_iload_n 1 rfl rfl dX12_bitsOf_4 ?_
    refine g_if_eq (tgt := 20) rfl dX12_bitsOf_5 (fun c => ?_) (fun c => ?_)
    · refine g_iload_n 0 rfl rfl dX12_bitsOf_20 ?_
      exact g_ireturn rfl (by decide) (by decide) dX12_bitsOf_21 rfl rfl
    · refine g_iinc (v := x1 + 1) (L' := [(1, .int (x1 + 1)), (2, .int x2)]) 0 rfl rfl (by decide) rfl dX12_bitsOf_8 ?_
      refine g_iload_n 1 rfl rfl dX12_bitsOf_11 ?_
      refine g_iload_n 1 rfl rfl dX12_bitsOf_12 ?_
      refine g_iconst (v := 1) (by decide) dX12_bitsOf_13 ?_
      refine g_isub dX12_bitsOf_14 ?_
      refine g_iand dX12_bitsOf_15 ?_
      refine g_istore_n (L' := [(2, .int (x2 &&& (x2 - 1))), (1, .int (x1 + 1))]) (by decide) rfl rfl dX12_bitsOf_16 ?_
      refine g_goto (tgt := 4) rfl dX12_bitsOf_17 ?_
      exact GO.pick [1, 0] rfl <| hrec4 M (x1 + 1) (x2 &&& (x2 - 1))
def fX12_bitsOf (M : Mem) (x0 : Int32) : RS := fX12_bitsOf_b4  FU M 0 x0
theorem SX12_bitsOf (M : Mem) (x0 : Int32) : CTO (0) miX12_bitsOf 0 0 [.int x0] M (fX12_bitsOf  M x0) := by
  refine CTO.of (by decide) (by simp [lg_sl, Value.category]) ?_
  show GO miX12_bitsOf (0) 0 0 0 0 0 [(0, .int x0)] [] M (fX12_bitsOf_b4  FU M 0 x0)
  refine g_iconst (v := 0) (by decide) dX12_bitsOf_0 ?_
  refine g_istore_n (L' := [(1, .int 0), (0, .int x0)]) (by decide) rfl rfl dX12_bitsOf_1 ?_
  refine g_iload_n 1 rfl rfl dX12_bitsOf_2 ?_
  refine g_istore_n (L' := [(2, .int x0), (1, .int 0), (0, .int x0)]) (by decide) rfl rfl dX12_bitsOf_3 ?_
  exact GO.pick [1, 0] rfl <| SX12_bitsOf_b4  FU M 0 x0
def fX12_isHouse (M : Mem) (x1 : Int32) : RS := bI (fX12_isIn M (Int32.toInt64 x1) 0 (Int32.toInt64 ((gi M 90 0) - 1))) (fun M1 v2 => chk (isZ v2) (some (M1, .inr (some (.int v2)))))
theorem SX12_isHouse (M : Mem) (x1 : Int32) : CTO (1) miX12_isHouse 0 0 [.ref 87, .int x1] M (fX12_isHouse  M x1) := by
  refine CTO.of (by decide) (by simp [lg_sl, Value.category]) ?_
  show GO miX12_isHouse (1) 0 0 0 0 0 [(0, .ref 87), (1, .int x1)] [] M (bI (fX12_isIn M (Int32.toInt64 x1) 0 (Int32.toInt64 ((gi M 90 0) - 1))) (fun M1 v2 => chk (isZ v2) (some (M1, .inr (some (.int v2))))))
  refine g_iload_n 1 rfl rfl dX12_isHouse_0 ?_
  refine g_i2l dX12_isHouse_1 ?_
  refine g_lconst (v := 0) (by decide) dX12_isHouse_2 ?_
  refine g_aload_n 0 rfl rfl dX12_isHouse_3 ?_
  refine g_getR (k := 4) (b := 90) clX12 kd_87 (by decide) rfl rfl flX12_35 dX12_isHouse_4 ?_
  refine g_iconst (v := 0) (by decide) dX12_isHouse_7 ?_
  refine g_aldL (j := 0) kd_90 (by decide) (by decide) dX12_isHouse_8 ?_
  refine g_iconst (v := 1) (by decide) dX12_isHouse_9 ?_
  refine g_isub dX12_isHouse_10 ?_
  refine g_i2l dX12_isHouse_11 ?_
  refine g_callSI (y := miX12_isIn) (As := [.long (Int32.toInt64 x1), .long 0, .long (Int32.toInt64 ((gi M 90 0) - 1))]) (rest := []) moX12_isIn rfl mlX12_143 (by first | decide | omega) (by decide) (by simp [Value.category]) rfl dX12_isHouse_12 (SX12_isIn  M (Int32.toInt64 x1) 0 (Int32.toInt64 ((gi M 90 0) - 1))) (fun M1 v2 => ?_)
  refine GO.chk fun hz => ?_
  exact g_zreturn rfl (by decide) (by decide) dX12_isHouse_15 hz
def fX12_isPlot (M : Mem) (x1 : Int32) : RS := bI (fX12_isIn M (Int32.toInt64 x1) 0 (Int32.toInt64 ((gi M 90 1) - 1))) (fun M1 v2 => chk (isZ v2) (some (M1, .inr (some (.int v2)))))
theorem SX12_isPlot (M : Mem) (x1 : Int32) : CTO (1) miX12_isPlot 0 0 [.ref 87, .int x1] M (fX12_isPlot  M x1) := by
  refine CTO.of (by decide) (by simp [lg_sl, Value.category]) ?_
  show GO miX12_isPlot (1) 0 0 0 0 0 [(0, .ref 87), (1, .int x1)] [] M (bI (fX12_isIn M (Int32.toInt64 x1) 0 (Int32.toInt64 ((gi M 90 1) - 1))) (fun M1 v2 => chk (isZ v2) (some (M1, .inr (some (.int v2))))))
  refine g_iload_n 1 rfl rfl dX12_isPlot_0 ?_
  refine g_i2l dX12_isPlot_1 ?_
  refine g_lconst (v := 0) (by decide) dX12_isPlot_2 ?_
  refine g_aload_n 0 rfl rfl dX12_isPlot_3 ?_
  refine g_getR (k := 4) (b := 90) clX12 kd_87 (by decide) rfl rfl flX12_35 dX12_isPlot_4 ?_
  refine g_iconst (v := 1) (by decide) dX12_isPlot_7 ?_
  refine g_aldL (j := 1) kd_90 (by decide) (by decide) dX12_isPlot_8 ?_
  refine g_iconst (v := 1) (by decide) dX12_isPlot_9 ?_
  refine g_isub dX12_isPlot_10 ?_
  refine g_i2l dX12_isPlot_11 ?_
  refine g_callSI (y := miX12_isIn) (As := [.long (Int32.toInt64 x1), .long 0, .long (Int32.toInt64 ((gi M 90 1) - 1))]) (rest := []) moX12_isIn rfl mlX12_143 (by first | decide | omega) (by decide) (by simp [Value.category]) rfl dX12_isPlot_12 (SX12_isIn  M (Int32.toInt64 x1) 0 (Int32.toInt64 ((gi M 90 1) - 1))) (fun M1 v2 => ?_)
  refine GO.chk fun hz => ?_
  exact g_zreturn rfl (by decide) (by decide) dX12_isPlot_15 hz
def fX12_feed_b76 (rec23 : Mem → Int32 → Int32 → Int32 → Int32 → Int32 → Int32 → RS) (M : Mem) (x1 : Int32) (x2 : Int32) (x3 : Int32) (x4 : Int32) (x5 : Int32) (x6 : Int32) (s0 : Int32) : RS := chk (inb (gi M 87 16) 700) (wr (si M 101 (ix (gi M 87 16)) ((s0 >>> ((24 - (8 * (x6 - x6 / 4 * 4))) &&& 31)) &&& 255)) (fun M3 => wr (si M3 87 16 ((gi M3 87 16) + 1)) (fun M4 => rec23 M4 x1 x2 x3 x4 x5 (x6 + 1))))
theorem SX12_feed_b76 (rec23 : Mem → Int32 → Int32 → Int32 → Int32 → Int32 → Int32 → RS) (hrec23 : ∀ (M : Mem) (x1 : Int32) (x2 : Int32) (x3 : Int32) (x4 : Int32) (x5 : Int32) (x6 : Int32), GO miX12_feed (0) 0 0 0 0 23 [(0, .ref 87), (1, .int x1), (2, .int x2), (3, .int x3), (4, .int x4), (5, .int x5), (6, .int x6)] [] M (rec23 M x1 x2 x3 x4 x5 x6)) (M : Mem) (x1 : Int32) (x2 : Int32) (x3 : Int32) (x4 : Int32) (x5 : Int32) (x6 : Int32) (s0 : Int32) : GO miX12_feed (0) 0 0 0 0 76 [(0, .ref 87), (1, .int x1), (2, .int x2), (3, .int x3), (4, .int x4), (5, .int x5), (6, .int x6)] [.int s0] M (fX12_feed_b76 rec23 M x1 x2 x3 x4 x5 x6 s0) := by
  show GO miX12_feed (0) 0 0 0 0 76 [(0, .ref 87), (1, .int x1), (2, .int x2), (3, .int x3), (4, .int x4), (5, .int x5), (6, .int x6)] [.int s0] M (chk (inb (gi M 87 16) 700) (wr (si M 101 (ix (gi M 87 16)) ((s0 >>> ((24 - (8 * (x6 - x6 / 4 * 4))) &&& 31)) &&& 255)) (fun M3 => wr (si M3 87 16 ((gi M3 87 16) + 1)) (fun M4 => rec23 M4 x1 x2 x3 x4 x5 (x6 + 1)))))
  refine g_istore (L' := [(7, .int s0), (0, .ref 87), (1, .int x1), (2, .int x2), (3, .int x3), (4, .int x4), (5, .int x5), (6, .int x6)]) (by decide) rfl dX12_feed_76 ?_
  refine g_aload_n 1 rfl rfl dX12_feed_78 ?_
  refine g_getR (k := 15) (b := 101) clX12 kd_87 (by decide) rfl rfl flX12_66 dX12_feed_79 ?_
  refine g_aload_n 1 rfl rfl dX12_feed_82 ?_
  refine g_getI (k := 16) clX12 kd_87 (by decide) rfl flX12_147 dX12_feed_83 ?_
  refine g_iload 0 rfl dX12_feed_86 ?_
  refine g_bipush (v := 24) (by decide) dX12_feed_88 ?_
  refine g_bipush (v := 8) (by decide) dX12_feed_90 ?_
  refine g_iload 7 rfl dX12_feed_92 ?_
  refine g_iconst (v := 4) (by decide) dX12_feed_94 ?_
  refine g_irem (by decide) dX12_feed_95 ?_
  refine g_imul dX12_feed_96 ?_
  refine g_isub dX12_feed_97 ?_
  refine g_ishr dX12_feed_98 ?_
  refine g_sipush (v := 255) (by decide) dX12_feed_99 ?_
  refine g_iand dX12_feed_102 ?_
  refine g_ast kd_101 dX12_feed_103 (fun hi2 => ?_)
  refine GO.wr (fun M3 => ?_)
  refine g_aload_n 1 rfl rfl dX12_feed_104 ?_
  refine g_dup_ref dX12_feed_105 ?_
  refine g_getI (k := 16) clX12 kd_87 (by decide) rfl flX12_147 dX12_feed_106 ?_
  refine g_iconst (v := 1) (by decide) dX12_feed_109 ?_
  refine g_iadd dX12_feed_110 ?_
  refine g_putI (k := 16) clX12 kd_87 (by decide) rfl (by decide) rfl flX12_147 dX12_feed_111 ?_
  refine GO.wr (fun M4 => ?_)
  refine g_iinc (v := x6 + 1) (L' := [(6, .int (x6 + 1)), (7, .int s0), (0, .ref 87), (1, .int x1), (2, .int x2), (3, .int x3), (4, .int x4), (5, .int x5)]) 7 rfl rfl (by decide) rfl dX12_feed_114 ?_
  refine g_goto (tgt := 23) rfl dX12_feed_117 ?_
  exact GO.pick [2, 3, 4, 5, 6, 7, 0] rfl <| hrec23 M4 x1 x2 x3 x4 x5 (x6 + 1)
def fX12_feed_b23 : Nat → Mem → Int32 → Int32 → Int32 → Int32 → Int32 → Int32 → RS
  | 0 => fun _ _ _ _ _ _ _ => none
  | n + 1 => fun M x1 x2 x3 x4 x5 x6 => if x6 < 20 then if x6 < 4 then fX12_feed_b76 (fX12_feed_b23 n) M x1 x2 x3 x4 x5 x6 x1 else if x6 < 8 then fX12_feed_b76 (fX12_feed_b23 n) M x1 x2 x3 x4 x5 x6 x2 else if x6 < 12 then fX12_feed_b76 (fX12_feed_b23 n) M x1 x2 x3 x4 x5 x6 x3 else if x6 < 16 then fX12_feed_b76 (fX12_feed_b23 n) M x1 x2 x3 x4 x5 x6 x4 else fX12_feed_b76 (fX12_feed_b23 n) M x1 x2 x3 x4 x5 x6 x5 else some (M, .inr (some (.int (gi M 87 16))))
theorem SX12_feed_b23 (n : Nat) : ∀ (M : Mem) (x1 : Int32) (x2 : Int32) (x3 : Int32) (x4 : Int32) (x5 : Int32) (x6 : Int32), GO miX12_feed (0) 0 0 0 0 23 [(0, .ref 87), (1, .int x1), (2, .int x2), (3, .int x3), (4, .int x4), (5, .int x5), (6, .int x6)] [] M (fX12_feed_b23 n M x1 x2 x3 x4 x5 x6) := by
  induction n with
  | zero => intro M x1 x2 x3 x4 x5 x6 ; exact GO.none
  | succ n hrec23 =>
    intro M x1 x2 x3 x4 x5 x6 
    show GO miX12_feed (0) 0 0 0 0 23 [(0, .ref 87), (1, .int x1), (2, .int x2), (3, .int x3), (4, .int x4), (5, .int x5), (6, .int x6)] [] M (if x6 < 20 then if x6 < 4 then fX12_feed_b76 (fX12_feed_b23 n) M x1 x2 x3 x4 x5 x6 x1 else if x6 < 8 then fX12_feed_b76 (fX12_feed_b23 n) M x1 x2 x3 x4 x5 x6 x2 else if x6 < 12 then fX12_feed_b76 (fX12_feed_b23 n) M x1 x2 x3 x4 x5 x6 x3 else if x6 < 16 then fX12_feed_b76 (fX12_feed_b23 n) M x1 x2 x3 x4 x5 x6 x4 else fX12_feed_b76 (fX12_feed_b23 n) M x1 x2 x3 x4 x5 x6 x5 else some (M, .inr (some (.int (gi M 87 16)))))
    refine g_iload 6 rfl dX12_feed_23 ?_
    refine g_bipush (v := 20) (by decide) dX12_feed_25 ?_
    refine g_icmp_ge (tgt := 120) rfl dX12_feed_27 (fun c => ?_) (fun c => ?_)
    · refine g_aload_n 0 rfl rfl dX12_feed_120 ?_
      refine g_getI (k := 16) clX12 kd_87 (by decide) rfl flX12_147 dX12_feed_121 ?_
      exact g_ireturn rfl (by decide) (by decide) dX12_feed_124 rfl rfl
    · refine g_iload 6 rfl dX12_feed_30 ?_
      refine g_iconst (v := 4) (by decide) dX12_feed_32 ?_
      refine g_icmp_ge (tgt := 40) rfl dX12_feed_33 (fun c => ?_) (fun c => ?_)
      · refine g_iload 6 rfl dX12_feed_40 ?_
        refine g_bipush (v := 8) (by decide) dX12_feed_42 ?_
        refine g_icmp_ge (tgt := 51) rfl dX12_feed_44 (fun c => ?_) (fun c => ?_)
        · refine g_iload 6 rfl dX12_feed_51 ?_
          refine g_bipush (v := 12) (by decide) dX12_feed_53 ?_
          refine g_icmp_ge (tgt := 62) rfl dX12_feed_55 (fun c => ?_) (fun c => ?_)
          · refine g_iload 6 rfl dX12_feed_62 ?_
            refine g_bipush (v := 16) (by decide) dX12_feed_64 ?_
            refine g_icmp_ge (tgt := 74) rfl dX12_feed_66 (fun c => ?_) (fun c => ?_)
            · refine g_iload 5 rfl dX12_feed_74 ?_
              exact GO.pick [0, 1, 2, 3, 4, 5, 6] rfl <| SX12_feed_b76  (fX12_feed_b23 n) hrec23 M x1 x2 x3 x4 x5 x6 x5
            · refine g_iload 4 rfl dX12_feed_69 ?_
              refine g_goto (tgt := 76) rfl dX12_feed_71 ?_
              exact GO.pick [0, 1, 2, 3, 4, 5, 6] rfl <| SX12_feed_b76  (fX12_feed_b23 n) hrec23 M x1 x2 x3 x4 x5 x6 x4
          · refine g_iload_n 3 rfl rfl dX12_feed_58 ?_
            refine g_goto (tgt := 76) rfl dX12_feed_59 ?_
            exact GO.pick [0, 1, 2, 3, 4, 5, 6] rfl <| SX12_feed_b76  (fX12_feed_b23 n) hrec23 M x1 x2 x3 x4 x5 x6 x3
        · refine g_iload_n 2 rfl rfl dX12_feed_47 ?_
          refine g_goto (tgt := 76) rfl dX12_feed_48 ?_
          exact GO.pick [0, 1, 2, 3, 4, 5, 6] rfl <| SX12_feed_b76  (fX12_feed_b23 n) hrec23 M x1 x2 x3 x4 x5 x6 x2
      · refine g_iload_n 1 rfl rfl dX12_feed_36 ?_
        refine g_goto (tgt := 76) rfl dX12_feed_37 ?_
        exact GO.pick [0, 1, 2, 3, 4, 5, 6] rfl <| SX12_feed_b76  (fX12_feed_b23 n) hrec23 M x1 x2 x3 x4 x5 x6 x1
def fX12_feed (M : Mem) (x1 : Int32) (x2 : Int32) (x3 : Int32) (x4 : Int32) (x5 : Int32) : RS := wr (si M 87 3 0) (fun M1 => if 700 < ((gi M1 87 16) + 20) then some (M1, .inr (some (.int (-1)))) else fX12_feed_b23  FU M1 x1 x2 x3 x4 x5 0)
theorem SX12_feed (M : Mem) (x1 : Int32) (x2 : Int32) (x3 : Int32) (x4 : Int32) (x5 : Int32) : CTO (0) miX12_feed 0 0 [.ref 87, .int x1, .int x2, .int x3, .int x4, .int x5] M (fX12_feed  M x1 x2 x3 x4 x5) := by
  refine CTO.of (by decide) (by simp [lg_sl, Value.category]) ?_
  show GO miX12_feed (0) 0 0 0 0 0 [(0, .ref 87), (1, .int x1), (2, .int x2), (3, .int x3), (4, .int x4), (5, .int x5)] [] M (wr (si M 87 3 0) (fun M1 => if 700 < ((gi M1 87 16) + 20) then some (M1, .inr (some (.int (-1)))) else fX12_feed_b23  FU M1 x1 x2 x3 x4 x5 0))
  refine g_aload_n 0 rfl rfl dX12_feed_0 ?_
  refine g_iconst (v := 0) (by decide) dX12_feed_1 ?_
  refine g_putI (k := 3) clX12 kd_87 (by decide) rfl (by decide) rfl flX12_140 dX12_feed_2 ?_
  refine GO.wr (fun M1 => ?_)
  refine g_aload_n 0 rfl rfl dX12_feed_5 ?_
  refine g_getI (k := 16) clX12 kd_87 (by decide) rfl flX12_147 dX12_feed_6 ?_
  refine g_bipush (v := 20) (by decide) dX12_feed_9 ?_
  refine g_iadd dX12_feed_11 ?_
  refine g_sipush (v := 700) (by decide) dX12_feed_12 ?_
  refine g_icmp_le (tgt := 20) rfl dX12_feed_15 (fun c => ?_) (fun c => ?_)
  · refine g_iconst (v := 0) (by decide) dX12_feed_20 ?_
    refine g_istore (L' := [(6, .int 0), (0, .ref 87), (1, .int x1), (2, .int x2), (3, .int x3), (4, .int x4), (5, .int x5)]) (by decide) rfl dX12_feed_21 ?_
    exact GO.pick [1, 2, 3, 4, 5, 6, 0] rfl <| SX12_feed_b23  FU M1 x1 x2 x3 x4 x5 0
  · refine g_iconst (v := (-1)) (by decide) dX12_feed_18 ?_
    exact g_ireturn rfl (by decide) (by decide) dX12_feed_19 rfl rfl
def fX12_byteAt (M : Mem) (x1 : Int32) : RS := if x1 < (gi M 87 18) then chk (inb x1 700) (some (M, .inr (some (.int (gi M 101 (ix x1)))))) else some (M, .inr (some (.int (-1))))
theorem SX12_byteAt (M : Mem) (x1 : Int32) : CTO (0) miX12_byteAt 0 0 [.ref 87, .int x1] M (fX12_byteAt  M x1) := by
  refine CTO.of (by decide) (by simp [lg_sl, Value.category]) ?_
  show GO miX12_byteAt (0) 0 0 0 0 0 [(0, .ref 87), (1, .int x1)] [] M (if x1 < (gi M 87 18) then chk (inb x1 700) (some (M, .inr (some (.int (gi M 101 (ix x1)))))) else some (M, .inr (some (.int (-1)))))
  refine g_iload_n 1 rfl rfl dX12_byteAt_0 ?_
  refine g_aload_n 0 rfl rfl dX12_byteAt_1 ?_
  refine g_getI (k := 18) clX12 kd_87 (by decide) rfl flX12_150 dX12_byteAt_2 ?_
  refine g_icmp_ge (tgt := 17) rfl dX12_byteAt_5 (fun c => ?_) (fun c => ?_)
  · refine g_iconst (v := (-1)) (by decide) dX12_byteAt_17 ?_
    exact g_ireturn rfl (by decide) (by decide) dX12_byteAt_18 rfl rfl
  · refine g_aload_n 0 rfl rfl dX12_byteAt_8 ?_
    refine g_getR (k := 15) (b := 101) clX12 kd_87 (by decide) rfl rfl flX12_66 dX12_byteAt_9 ?_
    refine g_iload_n 1 rfl rfl dX12_byteAt_12 ?_
    refine g_ald kd_101 dX12_byteAt_13 (fun hi1 => ?_)
    refine g_goto (tgt := 18) rfl dX12_byteAt_14 ?_
    exact g_ireturn rfl (by decide) (by decide) dX12_byteAt_18 rfl rfl
def fX12_isLetter (M : Mem) (x0 : Int32) : RS := if x0 < 97 then some (M, .inr (some (.int 0))) else if 122 < x0 then some (M, .inr (some (.int 0))) else some (M, .inr (some (.int 1)))
theorem SX12_isLetter (M : Mem) (x0 : Int32) : CTO (0) miX12_isLetter 0 0 [.int x0] M (fX12_isLetter  M x0) := by
  refine CTO.of (by decide) (by simp [lg_sl, Value.category]) ?_
  show GO miX12_isLetter (0) 0 0 0 0 0 [(0, .int x0)] [] M (if x0 < 97 then some (M, .inr (some (.int 0))) else if 122 < x0 then some (M, .inr (some (.int 0))) else some (M, .inr (some (.int 1))))
  refine g_iload_n 0 rfl rfl dX12_isLetter_0 ?_
  refine g_bipush (v := 97) (by decide) dX12_isLetter_1 ?_
  refine g_icmp_lt (tgt := 16) rfl dX12_isLetter_3 (fun c => ?_) (fun c => ?_)
  · refine g_iconst (v := 0) (by decide) dX12_isLetter_16 ?_
    exact g_zreturn rfl (by decide) (by decide) dX12_isLetter_17 (by decide)
  · refine g_iload_n 0 rfl rfl dX12_isLetter_6 ?_
    refine g_bipush (v := 122) (by decide) dX12_isLetter_7 ?_
    refine g_icmp_gt (tgt := 16) rfl dX12_isLetter_9 (fun c => ?_) (fun c => ?_)
    · refine g_iconst (v := 0) (by decide) dX12_isLetter_16 ?_
      exact g_zreturn rfl (by decide) (by decide) dX12_isLetter_17 (by decide)
    · refine g_iconst (v := 1) (by decide) dX12_isLetter_12 ?_
      refine g_goto (tgt := 17) rfl dX12_isLetter_13 ?_
      exact g_zreturn rfl (by decide) (by decide) dX12_isLetter_17 (by decide)
def fX12_isDigit (M : Mem) (x0 : Int32) : RS := if x0 < 48 then some (M, .inr (some (.int 0))) else if 57 < x0 then some (M, .inr (some (.int 0))) else some (M, .inr (some (.int 1)))
theorem SX12_isDigit (M : Mem) (x0 : Int32) : CTO (0) miX12_isDigit 0 0 [.int x0] M (fX12_isDigit  M x0) := by
  refine CTO.of (by decide) (by simp [lg_sl, Value.category]) ?_
  show GO miX12_isDigit (0) 0 0 0 0 0 [(0, .int x0)] [] M (if x0 < 48 then some (M, .inr (some (.int 0))) else if 57 < x0 then some (M, .inr (some (.int 0))) else some (M, .inr (some (.int 1))))
  refine g_iload_n 0 rfl rfl dX12_isDigit_0 ?_
  refine g_bipush (v := 48) (by decide) dX12_isDigit_1 ?_
  refine g_icmp_lt (tgt := 16) rfl dX12_isDigit_3 (fun c => ?_) (fun c => ?_)
  · refine g_iconst (v := 0) (by decide) dX12_isDigit_16 ?_
    exact g_zreturn rfl (by decide) (by decide) dX12_isDigit_17 (by decide)
  · refine g_iload_n 0 rfl rfl dX12_isDigit_6 ?_
    refine g_bipush (v := 57) (by decide) dX12_isDigit_7 ?_
    refine g_icmp_gt (tgt := 16) rfl dX12_isDigit_9 (fun c => ?_) (fun c => ?_)
    · refine g_iconst (v := 0) (by decide) dX12_isDigit_16 ?_
      exact g_zreturn rfl (by decide) (by decide) dX12_isDigit_17 (by decide)
    · refine g_iconst (v := 1) (by decide) dX12_isDigit_12 ?_
      refine g_goto (tgt := 17) rfl dX12_isDigit_13 ?_
      exact g_zreturn rfl (by decide) (by decide) dX12_isDigit_17 (by decide)
def fX12_isMark_b54 (M : Mem)  : RS := some (M, .inr (some (.int 1)))
theorem SX12_isMark_b54 (M : Mem)  : GO miX12_isMark (0) 0 0 0 0 54 [] [] M (fX12_isMark_b54 M ) := by
  show GO miX12_isMark (0) 0 0 0 0 54 [] [] M (some (M, .inr (some (.int 1))))
  refine g_iconst (v := 1) (by decide) dX12_isMark_54 ?_
  refine g_goto (tgt := 59) rfl dX12_isMark_55 ?_
  exact g_zreturn rfl (by decide) (by decide) dX12_isMark_59 (by decide)
def fX12_isMark (M : Mem) (x0 : Int32) : RS := if x0 = 59 then fX12_isMark_b54  M else if x0 = 40 then fX12_isMark_b54  M else if x0 = 41 then fX12_isMark_b54  M else if x0 = 43 then fX12_isMark_b54  M else if x0 = 45 then fX12_isMark_b54  M else if x0 = 42 then fX12_isMark_b54  M else if x0 = 47 then fX12_isMark_b54  M else if x0 = 60 then fX12_isMark_b54  M else if x0 = 61 then fX12_isMark_b54  M else some (M, .inr (some (.int 0)))
theorem SX12_isMark (M : Mem) (x0 : Int32) : CTO (0) miX12_isMark 0 0 [.int x0] M (fX12_isMark  M x0) := by
  refine CTO.of (by decide) (by simp [lg_sl, Value.category]) ?_
  show GO miX12_isMark (0) 0 0 0 0 0 [(0, .int x0)] [] M (if x0 = 59 then fX12_isMark_b54  M else if x0 = 40 then fX12_isMark_b54  M else if x0 = 41 then fX12_isMark_b54  M else if x0 = 43 then fX12_isMark_b54  M else if x0 = 45 then fX12_isMark_b54  M else if x0 = 42 then fX12_isMark_b54  M else if x0 = 47 then fX12_isMark_b54  M else if x0 = 60 then fX12_isMark_b54  M else if x0 = 61 then fX12_isMark_b54  M else some (M, .inr (some (.int 0))))
  refine g_iload_n 0 rfl rfl dX12_isMark_0 ?_
  refine g_bipush (v := 59) (by decide) dX12_isMark_1 ?_
  refine g_icmp_eq (tgt := 54) rfl dX12_isMark_3 (fun c => ?_) (fun c => ?_)
  · exact GO.pick [] rfl <| SX12_isMark_b54  M
  · refine g_iload_n 0 rfl rfl dX12_isMark_6 ?_
    refine g_bipush (v := 40) (by decide) dX12_isMark_7 ?_
    refine g_icmp_eq (tgt := 54) rfl dX12_isMark_9 (fun c => ?_) (fun c => ?_)
    · exact GO.pick [] rfl <| SX12_isMark_b54  M
    · refine g_iload_n 0 rfl rfl dX12_isMark_12 ?_
      refine g_bipush (v := 41) (by decide) dX12_isMark_13 ?_
      refine g_icmp_eq (tgt := 54) rfl dX12_isMark_15 (fun c => ?_) (fun c => ?_)
      · exact GO.pick [] rfl <| SX12_isMark_b54  M
      · refine g_iload_n 0 rfl rfl dX12_isMark_18 ?_
        refine g_bipush (v := 43) (by decide) dX12_isMark_19 ?_
        refine g_icmp_eq (tgt := 54) rfl dX12_isMark_21 (fun c => ?_) (fun c => ?_)
        · exact GO.pick [] rfl <| SX12_isMark_b54  M
        · refine g_iload_n 0 rfl rfl dX12_isMark_24 ?_
          refine g_bipush (v := 45) (by decide) dX12_isMark_25 ?_
          refine g_icmp_eq (tgt := 54) rfl dX12_isMark_27 (fun c => ?_) (fun c => ?_)
          · exact GO.pick [] rfl <| SX12_isMark_b54  M
          · refine g_iload_n 0 rfl rfl dX12_isMark_30 ?_
            refine g_bipush (v := 42) (by decide) dX12_isMark_31 ?_
            refine g_icmp_eq (tgt := 54) rfl dX12_isMark_33 (fun c => ?_) (fun c => ?_)
            · exact GO.pick [] rfl <| SX12_isMark_b54  M
            · refine g_iload_n 0 rfl rfl dX12_isMark_36 ?_
              refine g_bipush (v := 47) (by decide) dX12_isMark_37 ?_
              refine g_icmp_eq (tgt := 54) rfl dX12_isMark_39 (fun c => ?_) (fun c => ?_)
              · exact GO.pick [] rfl <| SX12_isMark_b54  M
              · refine g_iload_n 0 rfl rfl dX12_isMark_42 ?_
                refine g_bipush (v := 60) (by decide) dX12_isMark_43 ?_
                refine g_icmp_eq (tgt := 54) rfl dX12_isMark_45 (fun c => ?_) (fun c => ?_)
                · exact GO.pick [] rfl <| SX12_isMark_b54  M
                · refine g_iload_n 0 rfl rfl dX12_isMark_48 ?_
                  refine g_bipush (v := 61) (by decide) dX12_isMark_49 ?_
                  refine g_icmp_ne (tgt := 58) rfl dX12_isMark_51 (fun c => ?_) (fun c => ?_)
                  · refine g_iconst (v := 0) (by decide) dX12_isMark_58 ?_
                    exact g_zreturn rfl (by decide) (by decide) dX12_isMark_59 (by decide)
                  · exact GO.pick [] rfl <| SX12_isMark_b54  M
def fX12_stepOn_b26 (rec0 : Mem → RS) (M : Mem)  : RS := wr (si M 87 17 ((gi M 87 17) + 1)) (fun M17 => rec0 M17)
theorem SX12_stepOn_b26 (rec0 : Mem → RS) (hrec0 : ∀ (M : Mem) , GO miX12_stepOn (1) 0 0 0 0 0 [(0, .ref 87)] [] M (rec0 M )) (M : Mem)  : GO miX12_stepOn (1) 0 0 0 0 26 [(0, .ref 87)] [] M (fX12_stepOn_b26 rec0 M ) := by
  show GO miX12_stepOn (1) 0 0 0 0 26 [(0, .ref 87)] [] M (wr (si M 87 17 ((gi M 87 17) + 1)) (fun M17 => rec0 M17))
  refine g_aload_n 0 rfl rfl dX12_stepOn_26 ?_
  refine g_dup_ref dX12_stepOn_27 ?_
  refine g_getI (k := 17) clX12 kd_87 (by decide) rfl flX12_153 dX12_stepOn_28 ?_
  refine g_iconst (v := 1) (by decide) dX12_stepOn_31 ?_
  refine g_iadd dX12_stepOn_32 ?_
  refine g_putI (k := 17) clX12 kd_87 (by decide) rfl (by decide) rfl flX12_153 dX12_stepOn_33 ?_
  refine GO.wr (fun M17 => ?_)
  refine g_goto (tgt := 0) rfl dX12_stepOn_36 ?_
  exact GO.pick [0] rfl <| hrec0 M17
def fX12_stepOn_b212 (M : Mem)  : RS := wr (si M 87 22 (gi M 87 17)) (fun M34 => some (M34, .inr none))
theorem SX12_stepOn_b212 (M : Mem)  : GO miX12_stepOn (1) 0 0 0 0 212 [(0, .ref 87)] [] M (fX12_stepOn_b212 M ) := by
  show GO miX12_stepOn (1) 0 0 0 0 212 [(0, .ref 87)] [] M (wr (si M 87 22 (gi M 87 17)) (fun M34 => some (M34, .inr none)))
  refine g_aload_n 0 rfl rfl dX12_stepOn_212 ?_
  refine g_aload_n 0 rfl rfl dX12_stepOn_213 ?_
  refine g_getI (k := 17) clX12 kd_87 (by decide) rfl flX12_153 dX12_stepOn_214 ?_
  refine g_putI (k := 22) clX12 kd_87 (by decide) rfl (by decide) rfl flX12_186 dX12_stepOn_217 ?_
  refine GO.wr (fun M34 => ?_)
  exact g_vreturn rfl (by decide) (by decide) dX12_stepOn_220
def fX12_stepOn_b76 : Nat → Mem → RS
  | 0 => fun _  => none
  | n + 1 => fun M  => bI (fX12_byteAt M (gi M 87 17)) (fun M28 v29 => bI (fX12_isLetter M28 v29) (fun M30 v31 => if v31 = 0 then wr (si M30 87 19 1) (fun M32 => fX12_stepOn_b212  M32) else wr (si M30 87 17 ((gi M30 87 17) + 1)) (fun M33 => (fX12_stepOn_b76 n) M33)))
theorem SX12_stepOn_b76 (n : Nat) : ∀ (M : Mem) , GO miX12_stepOn (1) 0 0 0 0 76 [(0, .ref 87)] [] M (fX12_stepOn_b76 n M ) := by
  induction n with
  | zero => intro M  ; exact GO.none
  | succ n hrec76 =>
    intro M  
    show GO miX12_stepOn (1) 0 0 0 0 76 [(0, .ref 87)] [] M (bI (fX12_byteAt M (gi M 87 17)) (fun M28 v29 => bI (fX12_isLetter M28 v29) (fun M30 v31 => if v31 = 0 then wr (si M30 87 19 1) (fun M32 => fX12_stepOn_b212  M32) else wr (si M30 87 17 ((gi M30 87 17) + 1)) (fun M33 => (fX12_stepOn_b76 n) M33))))
    refine g_aload_n 0 rfl rfl dX12_stepOn_76 ?_
    refine g_aload_n 0 rfl rfl dX12_stepOn_77 ?_
    refine g_getI (k := 17) clX12 kd_87 (by decide) rfl flX12_153 dX12_stepOn_78 ?_
    refine g_callVI (y := miX12_byteAt) (As := [.int (gi M 87 17)]) (rest := []) clX12 kd_87 rfl moX12_byteAt rfl mlX12_156 (by first | decide | omega) (by decide) (by simp [Value.category]) rfl dX12_stepOn_81 (SX12_byteAt  M (gi M 87 17)) (fun M28 v29 => ?_)
    refine g_callSI (y := miX12_isLetter) (As := [.int v29]) (rest := []) moX12_isLetter rfl mlX12_166 (by first | decide | omega) (by decide) (by simp [Value.category]) rfl dX12_stepOn_84 (SX12_isLetter  M28 v29) (fun M30 v31 => ?_)
    refine g_if_eq (tgt := 103) rfl dX12_stepOn_87 (fun c => ?_) (fun c => ?_)
    · refine g_aload_n 0 rfl rfl dX12_stepOn_103 ?_
      refine g_iconst (v := 1) (by decide) dX12_stepOn_104 ?_
      refine g_putI (k := 19) clX12 kd_87 (by decide) rfl (by decide) rfl flX12_163 dX12_stepOn_105 ?_
      refine GO.wr (fun M32 => ?_)
      refine g_goto (tgt := 212) rfl dX12_stepOn_108 ?_
      exact GO.pick [0] rfl <| SX12_stepOn_b212  M32
    · refine g_aload_n 0 rfl rfl dX12_stepOn_90 ?_
      refine g_dup_ref dX12_stepOn_91 ?_
      refine g_getI (k := 17) clX12 kd_87 (by decide) rfl flX12_153 dX12_stepOn_92 ?_
      refine g_iconst (v := 1) (by decide) dX12_stepOn_95 ?_
      refine g_iadd dX12_stepOn_96 ?_
      refine g_putI (k := 17) clX12 kd_87 (by decide) rfl (by decide) rfl flX12_153 dX12_stepOn_97 ?_
      refine GO.wr (fun M33 => ?_)
      refine g_goto (tgt := 76) rfl dX12_stepOn_100 ?_
      exact GO.pick [0] rfl <| hrec76 M33
def fX12_stepOn_b123 : Nat → Mem → RS
  | 0 => fun _  => none
  | n + 1 => fun M  => bI (fX12_byteAt M (gi M 87 17)) (fun M19 v20 => bI (fX12_isDigit M19 v20) (fun M21 v22 => if v22 = 0 then wr (si M21 87 19 2) (fun M23 => fX12_stepOn_b212  M23) else bI (fX12_byteAt M21 (gi M21 87 17)) (fun M24 v25 => wr (si M24 87 20 (if (((10 * (gi M21 87 20)) + v25) - 48) < 100000 then (((10 * (gi M21 87 20)) + v25) - 48) else 100000)) (fun M26 => wr (si M26 87 17 ((gi M26 87 17) + 1)) (fun M27 => (fX12_stepOn_b123 n) M27)))))
theorem SX12_stepOn_b123 (n : Nat) : ∀ (M : Mem) , GO miX12_stepOn (1) 0 0 0 0 123 [(0, .ref 87)] [] M (fX12_stepOn_b123 n M ) := by
  induction n with
  | zero => intro M  ; exact GO.none
  | succ n hrec123 =>
    intro M  
    show GO miX12_stepOn (1) 0 0 0 0 123 [(0, .ref 87)] [] M (bI (fX12_byteAt M (gi M 87 17)) (fun M19 v20 => bI (fX12_isDigit M19 v20) (fun M21 v22 => if v22 = 0 then wr (si M21 87 19 2) (fun M23 => fX12_stepOn_b212  M23) else bI (fX12_byteAt M21 (gi M21 87 17)) (fun M24 v25 => wr (si M24 87 20 (if (((10 * (gi M21 87 20)) + v25) - 48) < 100000 then (((10 * (gi M21 87 20)) + v25) - 48) else 100000)) (fun M26 => wr (si M26 87 17 ((gi M26 87 17) + 1)) (fun M27 => (fX12_stepOn_b123 n) M27))))))
    refine g_aload_n 0 rfl rfl dX12_stepOn_123 ?_
    refine g_aload_n 0 rfl rfl dX12_stepOn_124 ?_
    refine g_getI (k := 17) clX12 kd_87 (by decide) rfl flX12_153 dX12_stepOn_125 ?_
    refine g_callVI (y := miX12_byteAt) (As := [.int (gi M 87 17)]) (rest := []) clX12 kd_87 rfl moX12_byteAt rfl mlX12_156 (by first | decide | omega) (by decide) (by simp [Value.category]) rfl dX12_stepOn_128 (SX12_byteAt  M (gi M 87 17)) (fun M19 v20 => ?_)
    refine g_callSI (y := miX12_isDigit) (As := [.int v20]) (rest := []) moX12_isDigit rfl mlX12_170 (by first | decide | omega) (by decide) (by simp [Value.category]) rfl dX12_stepOn_131 (SX12_isDigit  M19 v20) (fun M21 v22 => ?_)
    refine g_if_eq (tgt := 178) rfl dX12_stepOn_134 (fun c => ?_) (fun c => ?_)
    · refine g_aload_n 0 rfl rfl dX12_stepOn_178 ?_
      refine g_iconst (v := 2) (by decide) dX12_stepOn_179 ?_
      refine g_putI (k := 19) clX12 kd_87 (by decide) rfl (by decide) rfl flX12_163 dX12_stepOn_180 ?_
      refine GO.wr (fun M23 => ?_)
      refine g_goto (tgt := 212) rfl dX12_stepOn_183 ?_
      exact GO.pick [0] rfl <| SX12_stepOn_b212  M23
    · refine g_aload_n 0 rfl rfl dX12_stepOn_137 ?_
      refine g_ldc (v := 100000) coX12_176 dX12_stepOn_138 ?_
      refine g_bipush (v := 10) (by decide) dX12_stepOn_140 ?_
      refine g_aload_n 0 rfl rfl dX12_stepOn_142 ?_
      refine g_getI (k := 20) clX12 kd_87 (by decide) rfl flX12_173 dX12_stepOn_143 ?_
      refine g_imul dX12_stepOn_146 ?_
      refine g_aload_n 0 rfl rfl dX12_stepOn_147 ?_
      refine g_aload_n 0 rfl rfl dX12_stepOn_148 ?_
      refine g_getI (k := 17) clX12 kd_87 (by decide) rfl flX12_153 dX12_stepOn_149 ?_
      refine g_callVI (y := miX12_byteAt) (As := [.int (gi M21 87 17)]) (rest := [.int (10 * (gi M21 87 20)), .int 100000, .ref 87]) clX12 kd_87 rfl moX12_byteAt rfl mlX12_156 (by first | decide | omega) (by decide) (by simp [Value.category]) rfl dX12_stepOn_152 (SX12_byteAt  M21 (gi M21 87 17)) (fun M24 v25 => ?_)
      refine g_iadd dX12_stepOn_155 ?_
      refine g_bipush (v := 48) (by decide) dX12_stepOn_156 ?_
      refine g_isub dX12_stepOn_158 ?_
      refine g_mmin mlX12_177 ms_min mt_Math mc_min (by first | decide | omega) (by decide) (by simp [Value.category]) dX12_stepOn_159 ?_
      refine g_putI (k := 20) clX12 kd_87 (by decide) rfl (by decide) rfl flX12_173 dX12_stepOn_162 ?_
      refine GO.wr (fun M26 => ?_)
      refine g_aload_n 0 rfl rfl dX12_stepOn_165 ?_
      refine g_dup_ref dX12_stepOn_166 ?_
      refine g_getI (k := 17) clX12 kd_87 (by decide) rfl flX12_153 dX12_stepOn_167 ?_
      refine g_iconst (v := 1) (by decide) dX12_stepOn_170 ?_
      refine g_iadd dX12_stepOn_171 ?_
      refine g_putI (k := 17) clX12 kd_87 (by decide) rfl (by decide) rfl flX12_153 dX12_stepOn_172 ?_
      refine GO.wr (fun M27 => ?_)
      refine g_goto (tgt := 123) rfl dX12_stepOn_175 ?_
      exact GO.pick [0] rfl <| hrec123 M27
def fX12_stepOn_b209 (M : Mem) (s0 : Int32) : RS := wr (si M 87 19 s0) (fun M18 => fX12_stepOn_b212  M18)
theorem SX12_stepOn_b209 (M : Mem) (s0 : Int32) : GO miX12_stepOn (1) 0 0 0 0 209 [(0, .ref 87)] [.int s0, .ref 87] M (fX12_stepOn_b209 M s0) := by
  show GO miX12_stepOn (1) 0 0 0 0 209 [(0, .ref 87)] [.int s0, .ref 87] M (wr (si M 87 19 s0) (fun M18 => fX12_stepOn_b212  M18))
  refine g_putI (k := 19) clX12 kd_87 (by decide) rfl (by decide) rfl flX12_163 dX12_stepOn_209 ?_
  refine GO.wr (fun M18 => ?_)
  exact GO.pick [0] rfl <| SX12_stepOn_b212  M18
def fX12_stepOn_b0 : Nat → Mem → RS
  | 0 => fun _  => none
  | n + 1 => fun M  => bI (fX12_byteAt M (gi M 87 17)) (fun M1 v2 => if v2 = 32 then fX12_stepOn_b26 (fX12_stepOn_b0 n) M1 else bI (fX12_byteAt M1 (gi M1 87 17)) (fun M3 v4 => if v4 = 10 then fX12_stepOn_b26 (fX12_stepOn_b0 n) M3 else wr (si M3 87 21 (gi M3 87 17)) (fun M5 => bI (fX12_byteAt M5 (gi M5 87 17)) (fun M6 v7 => if v7 = (-1) then wr (si M6 87 19 0) (fun M16 => fX12_stepOn_b212  M16) else bI (fX12_isLetter M6 v7) (fun M8 v9 => if v9 = 0 then bI (fX12_isDigit M8 v7) (fun M10 v11 => if v11 = 0 then wr (si M10 87 17 ((gi M10 87 17) + 1)) (fun M12 => bI (fX12_isMark M12 v7) (fun M13 v14 => if v14 = 0 then fX12_stepOn_b209  M13 4 else fX12_stepOn_b209  M13 3)) else wr (si M10 87 20 0) (fun M15 => fX12_stepOn_b123  FU M15)) else fX12_stepOn_b76  FU M8)))))
theorem SX12_stepOn_b0 (n : Nat) : ∀ (M : Mem) , GO miX12_stepOn (1) 0 0 0 0 0 [(0, .ref 87)] [] M (fX12_stepOn_b0 n M ) := by
  induction n with
  | zero => intro M  ; exact GO.none
  | succ n hrec0 =>
    intro M  
    show GO miX12_stepOn (1) 0 0 0 0 0 [(0, .ref 87)] [] M (bI (fX12_byteAt M (gi M 87 17)) (fun M1 v2 => if v2 = 32 then fX12_stepOn_b26 (fX12_stepOn_b0 n) M1 else bI (fX12_byteAt M1 (gi M1 87 17)) (fun M3 v4 => if v4 = 10 then fX12_stepOn_b26 (fX12_stepOn_b0 n) M3 else wr (si M3 87 21 (gi M3 87 17)) (fun M5 => bI (fX12_byteAt M5 (gi M5 87 17)) (fun M6 v7 => if v7 = (-1) then wr (si M6 87 19 0) (fun M16 => fX12_stepOn_b212  M16) else bI (fX12_isLetter M6 v7) (fun M8 v9 => if v9 = 0 then bI (fX12_isDigit M8 v7) (fun M10 v11 => if v11 = 0 then wr (si M10 87 17 ((gi M10 87 17) + 1)) (fun M12 => bI (fX12_isMark M12 v7) (fun M13 v14 => if v14 = 0 then fX12_stepOn_b209  M13 4 else fX12_stepOn_b209  M13 3)) else wr (si M10 87 20 0) (fun M15 => fX12_stepOn_b123  FU M15)) else fX12_stepOn_b76  FU M8))))))
    refine g_aload_n 0 rfl rfl dX12_stepOn_0 ?_
    refine g_aload_n 0 rfl rfl dX12_stepOn_1 ?_
    refine g_getI (k := 17) clX12 kd_87 (by decide) rfl flX12_153 dX12_stepOn_2 ?_
    refine g_callVI (y := miX12_byteAt) (As := [.int (gi M 87 17)]) (rest := []) clX12 kd_87 rfl moX12_byteAt rfl mlX12_156 (by first | decide | omega) (by decide) (by simp [Value.category]) rfl dX12_stepOn_5 (SX12_byteAt  M (gi M 87 17)) (fun M1 v2 => ?_)
    refine g_bipush (v := 32) (by decide) dX12_stepOn_8 ?_
    refine g_icmp_eq (tgt := 26) rfl dX12_stepOn_10 (fun c => ?_) (fun c => ?_)
    · exact GO.pick [0] rfl <| SX12_stepOn_b26  (fX12_stepOn_b0 n) hrec0 M1
    · refine g_aload_n 0 rfl rfl dX12_stepOn_13 ?_
      refine g_aload_n 0 rfl rfl dX12_stepOn_14 ?_
      refine g_getI (k := 17) clX12 kd_87 (by decide) rfl flX12_153 dX12_stepOn_15 ?_
      refine g_callVI (y := miX12_byteAt) (As := [.int (gi M1 87 17)]) (rest := []) clX12 kd_87 rfl moX12_byteAt rfl mlX12_156 (by first | decide | omega) (by decide) (by simp [Value.category]) rfl dX12_stepOn_18 (SX12_byteAt  M1 (gi M1 87 17)) (fun M3 v4 => ?_)
      refine g_bipush (v := 10) (by decide) dX12_stepOn_21 ?_
      refine g_icmp_ne (tgt := 39) rfl dX12_stepOn_23 (fun c => ?_) (fun c => ?_)
      · refine g_aload_n 0 rfl rfl dX12_stepOn_39 ?_
        refine g_aload_n 0 rfl rfl dX12_stepOn_40 ?_
        refine g_getI (k := 17) clX12 kd_87 (by decide) rfl flX12_153 dX12_stepOn_41 ?_
        refine g_putI (k := 21) clX12 kd_87 (by decide) rfl (by decide) rfl flX12_160 dX12_stepOn_44 ?_
        refine GO.wr (fun M5 => ?_)
        refine g_aload_n 0 rfl rfl dX12_stepOn_47 ?_
        refine g_aload_n 0 rfl rfl dX12_stepOn_48 ?_
        refine g_getI (k := 17) clX12 kd_87 (by decide) rfl flX12_153 dX12_stepOn_49 ?_
        refine g_callVI (y := miX12_byteAt) (As := [.int (gi M5 87 17)]) (rest := []) clX12 kd_87 rfl moX12_byteAt rfl mlX12_156 (by first | decide | omega) (by decide) (by simp [Value.category]) rfl dX12_stepOn_52 (SX12_byteAt  M5 (gi M5 87 17)) (fun M6 v7 => ?_)
        refine g_istore_n (L' := [(1, .int v7), (0, .ref 87)]) (by decide) rfl rfl dX12_stepOn_55 ?_
        refine g_iload_n 0 rfl rfl dX12_stepOn_56 ?_
        refine g_iconst (v := (-1)) (by decide) dX12_stepOn_57 ?_
        refine g_icmp_ne (tgt := 69) rfl dX12_stepOn_58 (fun c => ?_) (fun c => ?_)
        · refine g_iload_n 0 rfl rfl dX12_stepOn_69 ?_
          refine g_callSI (y := miX12_isLetter) (As := [.int v7]) (rest := []) moX12_isLetter rfl mlX12_166 (by first | decide | omega) (by decide) (by simp [Value.category]) rfl dX12_stepOn_70 (SX12_isLetter  M6 v7) (fun M8 v9 => ?_)
          refine g_if_eq (tgt := 111) rfl dX12_stepOn_73 (fun c => ?_) (fun c => ?_)
          · refine g_iload_n 0 rfl rfl dX12_stepOn_111 ?_
            refine g_callSI (y := miX12_isDigit) (As := [.int v7]) (rest := []) moX12_isDigit rfl mlX12_170 (by first | decide | omega) (by decide) (by simp [Value.category]) rfl dX12_stepOn_112 (SX12_isDigit  M8 v7) (fun M10 v11 => ?_)
            refine g_if_eq (tgt := 186) rfl dX12_stepOn_115 (fun c => ?_) (fun c => ?_)
            · refine g_aload_n 1 rfl rfl dX12_stepOn_186 ?_
              refine g_dup_ref dX12_stepOn_187 ?_
              refine g_getI (k := 17) clX12 kd_87 (by decide) rfl flX12_153 dX12_stepOn_188 ?_
              refine g_iconst (v := 1) (by decide) dX12_stepOn_191 ?_
              refine g_iadd dX12_stepOn_192 ?_
              refine g_putI (k := 17) clX12 kd_87 (by decide) rfl (by decide) rfl flX12_153 dX12_stepOn_193 ?_
              refine GO.wr (fun M12 => ?_)
              refine g_aload_n 1 rfl rfl dX12_stepOn_196 ?_
              refine g_iload_n 0 rfl rfl dX12_stepOn_197 ?_
              refine g_callSI (y := miX12_isMark) (As := [.int v7]) (rest := [.ref 87]) moX12_isMark rfl mlX12_183 (by first | decide | omega) (by decide) (by simp [Value.category]) rfl dX12_stepOn_198 (SX12_isMark  M12 v7) (fun M13 v14 => ?_)
              refine g_if_eq (tgt := 208) rfl dX12_stepOn_201 (fun c => ?_) (fun c => ?_)
              · refine g_iconst (v := 4) (by decide) dX12_stepOn_208 ?_
                exact GO.pick [1] rfl <| SX12_stepOn_b209  M13 4
              · refine g_iconst (v := 3) (by decide) dX12_stepOn_204 ?_
                refine g_goto (tgt := 209) rfl dX12_stepOn_205 ?_
                exact GO.pick [1] rfl <| SX12_stepOn_b209  M13 3
            · refine g_aload_n 1 rfl rfl dX12_stepOn_118 ?_
              refine g_iconst (v := 0) (by decide) dX12_stepOn_119 ?_
              refine g_putI (k := 20) clX12 kd_87 (by decide) rfl (by decide) rfl flX12_173 dX12_stepOn_120 ?_
              refine GO.wr (fun M15 => ?_)
              exact GO.pick [1] rfl <| SX12_stepOn_b123  FU M15
          · exact GO.pick [1] rfl <| SX12_stepOn_b76  FU M8
        · refine g_aload_n 1 rfl rfl dX12_stepOn_61 ?_
          refine g_iconst (v := 0) (by decide) dX12_stepOn_62 ?_
          refine g_putI (k := 19) clX12 kd_87 (by decide) rfl (by decide) rfl flX12_163 dX12_stepOn_63 ?_
          refine GO.wr (fun M16 => ?_)
          refine g_goto (tgt := 212) rfl dX12_stepOn_66 ?_
          exact GO.pick [1] rfl <| SX12_stepOn_b212  M16
      · exact GO.pick [0] rfl <| SX12_stepOn_b26  (fX12_stepOn_b0 n) hrec0 M3
def fX12_stepOn (M : Mem)  : RS := fX12_stepOn_b0  FU M
theorem SX12_stepOn (M : Mem)  : CTO (1) miX12_stepOn 0 0 [.ref 87] M (fX12_stepOn  M ) := by
  refine CTO.of (by decide) (by simp [lg_sl, Value.category]) ?_
  show GO miX12_stepOn (1) 0 0 0 0 0 [(0, .ref 87)] [] M (fX12_stepOn_b0  FU M)
  exact GO.pick [0] rfl <| SX12_stepOn_b0  FU M
def fX12_wrong (M : Mem) (x1 : Int32) : RS := if (gi M 87 23) = 0 then wr (si M 87 23 x1) (fun M1 => wr (si M1 87 24 (gi M1 87 21)) (fun M2 => some (M2, .inr none))) else some (M, .inr none)
theorem SX12_wrong (M : Mem) (x1 : Int32) : CTO (0) miX12_wrong 0 0 [.ref 87, .int x1] M (fX12_wrong  M x1) := by
  refine CTO.of (by decide) (by simp [lg_sl, Value.category]) ?_
  show GO miX12_wrong (0) 0 0 0 0 0 [(0, .ref 87), (1, .int x1)] [] M (if (gi M 87 23) = 0 then wr (si M 87 23 x1) (fun M1 => wr (si M1 87 24 (gi M1 87 21)) (fun M2 => some (M2, .inr none))) else some (M, .inr none))
  refine g_aload_n 0 rfl rfl dX12_wrong_0 ?_
  refine g_getI (k := 23) clX12 kd_87 (by decide) rfl flX12_189 dX12_wrong_1 ?_
  refine g_if_eq (tgt := 8) rfl dX12_wrong_4 (fun c => ?_) (fun c => ?_)
  · refine g_aload_n 0 rfl rfl dX12_wrong_8 ?_
    refine g_iload_n 1 rfl rfl dX12_wrong_9 ?_
    refine g_putI (k := 23) clX12 kd_87 (by decide) rfl (by decide) rfl flX12_189 dX12_wrong_10 ?_
    refine GO.wr (fun M1 => ?_)
    refine g_aload_n 0 rfl rfl dX12_wrong_13 ?_
    refine g_aload_n 0 rfl rfl dX12_wrong_14 ?_
    refine g_getI (k := 21) clX12 kd_87 (by decide) rfl flX12_160 dX12_wrong_15 ?_
    refine g_putI (k := 24) clX12 kd_87 (by decide) rfl (by decide) rfl flX12_192 dX12_wrong_18 ?_
    refine GO.wr (fun M2 => ?_)
    exact g_vreturn rfl (by decide) (by decide) dX12_wrong_21
  · exact g_vreturn rfl (by decide) (by decide) dX12_wrong_7
def fX12_is_b75 (j1 : Nat) (rec39 : Mem → Int32 → Int32 → RS) (M : Mem) (x3 : Int32) (s0 : Int32) : RS := rec39 M s0 (x3 + 1)
theorem SX12_is_b75 (j1 : Nat) (h1 : j1 < 16) (rec39 : Mem → Int32 → Int32 → RS) (hrec39 : ∀ (M : Mem) (x2 : Int32) (x3 : Int32), GO miX12_is (8) 0 0 0 0 39 [(0, .ref 87), (1, .ref (1000 + j1)), (2, .int x2), (3, .int x3)] [] M (rec39 M x2 x3)) (M : Mem) (x3 : Int32) (s0 : Int32) : GO miX12_is (8) 0 0 0 0 75 [(0, .ref 87), (1, .ref (1000 + j1)), (3, .int x3)] [.int s0] M (fX12_is_b75 j1 rec39 M x3 s0) := by
  show GO miX12_is (8) 0 0 0 0 75 [(0, .ref 87), (1, .ref (1000 + j1)), (3, .int x3)] [.int s0] M (rec39 M s0 (x3 + 1))
  refine g_istore_n (L' := [(2, .int s0), (0, .ref 87), (1, .ref (1000 + j1)), (3, .int x3)]) (by decide) rfl rfl dX12_is_75 ?_
  refine g_iinc (v := x3 + 1) (L' := [(3, .int (x3 + 1)), (2, .int s0), (0, .ref 87), (1, .ref (1000 + j1))]) 3 rfl rfl (by decide) rfl dX12_is_76 ?_
  refine g_goto (tgt := 39) rfl dX12_is_79 ?_
  exact GO.pick [2, 3, 1, 0] rfl <| hrec39 M s0 (x3 + 1)
def fX12_is_b39 (j1 : Nat) : Nat → Mem → Int32 → Int32 → RS
  | 0 => fun _ _ _ => none
  | n + 1 => fun M x2 x3 => if x2 = 0 then chk (isZ x2) (some (M, .inr (some (.int x2)))) else if x3 < (nI (sLen.getD j1 0)) then chk (inb x3 (sLen.getD j1 0)) (chk (inb ((gi M 87 21) + x3) 700) (if (sch j1 (ix x3)) = (gi M 101 (ix ((gi M 87 21) + x3))) then fX12_is_b75 j1 (fX12_is_b39 j1 n) M x3 1 else fX12_is_b75 j1 (fX12_is_b39 j1 n) M x3 0)) else chk (isZ x2) (some (M, .inr (some (.int x2))))
theorem SX12_is_b39 (j1 : Nat) (h1 : j1 < 16) (n : Nat) : ∀ (M : Mem) (x2 : Int32) (x3 : Int32), GO miX12_is (8) 0 0 0 0 39 [(0, .ref 87), (1, .ref (1000 + j1)), (2, .int x2), (3, .int x3)] [] M (fX12_is_b39 j1 n M x2 x3) := by
  induction n with
  | zero => intro M x2 x3 ; exact GO.none
  | succ n hrec39 =>
    intro M x2 x3 
    show GO miX12_is (8) 0 0 0 0 39 [(0, .ref 87), (1, .ref (1000 + j1)), (2, .int x2), (3, .int x3)] [] M (if x2 = 0 then chk (isZ x2) (some (M, .inr (some (.int x2)))) else if x3 < (nI (sLen.getD j1 0)) then chk (inb x3 (sLen.getD j1 0)) (chk (inb ((gi M 87 21) + x3) 700) (if (sch j1 (ix x3)) = (gi M 101 (ix ((gi M 87 21) + x3))) then fX12_is_b75 j1 (fX12_is_b39 j1 n) M x3 1 else fX12_is_b75 j1 (fX12_is_b39 j1 n) M x3 0)) else chk (isZ x2) (some (M, .inr (some (.int x2)))))
    refine g_iload_n 2 rfl rfl dX12_is_39 ?_
    refine g_if_eq (tgt := 82) rfl dX12_is_40 (fun c => ?_) (fun c => ?_)
    · refine g_iload_n 2 rfl rfl dX12_is_82 ?_
      refine GO.chk fun hz => ?_
      exact g_zreturn rfl (by decide) (by decide) dX12_is_83 hz
    · refine g_iload_n 3 rfl rfl dX12_is_43 ?_
      refine g_aload_n 1 rfl rfl dX12_is_44 ?_
      refine g_slen h1 mlX12_195 (by first | decide | omega) (by decide) (by simp [Value.category]) dX12_is_45 ?_
      refine g_icmp_ge (tgt := 82) rfl dX12_is_48 (fun c => ?_) (fun c => ?_)
      · refine g_iload_n 2 rfl rfl dX12_is_82 ?_
        refine GO.chk fun hz => ?_
        exact g_zreturn rfl (by decide) (by decide) dX12_is_83 hz
      · refine g_aload_n 1 rfl rfl dX12_is_51 ?_
        refine g_iload_n 3 rfl rfl dX12_is_52 ?_
        refine GO.chk fun hc => ?_
        refine g_schar h1 hc mlX12_199 (by first | decide | omega) (by decide) (by simp [Value.category]) dX12_is_53 ?_
        refine g_aload_n 0 rfl rfl dX12_is_56 ?_
        refine g_getR (k := 15) (b := 101) clX12 kd_87 (by decide) rfl rfl flX12_66 dX12_is_57 ?_
        refine g_aload_n 0 rfl rfl dX12_is_60 ?_
        refine g_getI (k := 21) clX12 kd_87 (by decide) rfl flX12_160 dX12_is_61 ?_
        refine g_iload_n 3 rfl rfl dX12_is_64 ?_
        refine g_iadd dX12_is_65 ?_
        refine g_ald kd_101 dX12_is_66 (fun hi1 => ?_)
        refine g_icmp_ne (tgt := 74) rfl dX12_is_67 (fun c => ?_) (fun c => ?_)
        · refine g_iconst (v := 0) (by decide) dX12_is_74 ?_
          exact GO.pick [0, 1, 3] rfl <| SX12_is_b75 j1 h1 (fX12_is_b39 j1 n) hrec39 M x3 0
        · refine g_iconst (v := 1) (by decide) dX12_is_70 ?_
          refine g_goto (tgt := 75) rfl dX12_is_71 ?_
          exact GO.pick [0, 1, 3] rfl <| SX12_is_b75 j1 h1 (fX12_is_b39 j1 n) hrec39 M x3 1
def fX12_is_b36 (j1 : Nat) (M : Mem) (s0 : Int32) : RS := fX12_is_b39 j1 FU M s0 0
theorem SX12_is_b36 (j1 : Nat) (h1 : j1 < 16) (M : Mem) (s0 : Int32) : GO miX12_is (8) 0 0 0 0 36 [(0, .ref 87), (1, .ref (1000 + j1))] [.int s0] M (fX12_is_b36 j1 M s0) := by
  show GO miX12_is (8) 0 0 0 0 36 [(0, .ref 87), (1, .ref (1000 + j1))] [.int s0] M (fX12_is_b39 j1 FU M s0 0)
  refine g_istore_n (L' := [(2, .int s0), (0, .ref 87), (1, .ref (1000 + j1))]) (by decide) rfl rfl dX12_is_36 ?_
  refine g_iconst (v := 0) (by decide) dX12_is_37 ?_
  refine g_istore_n (L' := [(3, .int 0), (2, .int s0), (0, .ref 87), (1, .ref (1000 + j1))]) (by decide) rfl rfl dX12_is_38 ?_
  exact GO.pick [2, 3, 1, 0] rfl <| SX12_is_b39 j1 h1 FU M s0 0
def fX12_is_b35 (j1 : Nat) (M : Mem)  : RS := fX12_is_b36 j1 M 0
theorem SX12_is_b35 (j1 : Nat) (h1 : j1 < 16) (M : Mem)  : GO miX12_is (8) 0 0 0 0 35 [(0, .ref 87), (1, .ref (1000 + j1))] [] M (fX12_is_b35 j1 M ) := by
  show GO miX12_is (8) 0 0 0 0 35 [(0, .ref 87), (1, .ref (1000 + j1))] [] M (fX12_is_b36 j1 M 0)
  refine g_iconst (v := 0) (by decide) dX12_is_35 ?_
  exact GO.pick [0, 1] rfl <| SX12_is_b36 j1 h1 M 0
def fX12_is (j1 : Nat) (M : Mem)  : RS := if (gi M 87 23) = 0 then if (gi M 87 19) = 1 then if (nI (sLen.getD j1 0)) = ((gi M 87 22) - (gi M 87 21)) then fX12_is_b36 j1 M 1 else fX12_is_b35 j1 M else fX12_is_b35 j1 M else fX12_is_b35 j1 M
theorem SX12_is (j1 : Nat) (h1 : j1 < 16) (M : Mem)  : CTO (8) miX12_is 0 0 [.ref 87, .ref (1000 + j1)] M (fX12_is j1 M ) := by
  refine CTO.of (by decide) (by simp [lg_sl, Value.category]) ?_
  show GO miX12_is (8) 0 0 0 0 0 [(0, .ref 87), (1, .ref (1000 + j1))] [] M (if (gi M 87 23) = 0 then if (gi M 87 19) = 1 then if (nI (sLen.getD j1 0)) = ((gi M 87 22) - (gi M 87 21)) then fX12_is_b36 j1 M 1 else fX12_is_b35 j1 M else fX12_is_b35 j1 M else fX12_is_b35 j1 M)
  refine g_aload_n 0 rfl rfl dX12_is_0 ?_
  refine g_getI (k := 23) clX12 kd_87 (by decide) rfl flX12_189 dX12_is_1 ?_
  refine g_if_ne (tgt := 35) rfl dX12_is_4 (fun c => ?_) (fun c => ?_)
  · exact GO.pick [0, 1] rfl <| SX12_is_b35 j1 h1 M
  · refine g_aload_n 0 rfl rfl dX12_is_7 ?_
    refine g_getI (k := 19) clX12 kd_87 (by decide) rfl flX12_163 dX12_is_8 ?_
    refine g_iconst (v := 1) (by decide) dX12_is_11 ?_
    refine g_icmp_ne (tgt := 35) rfl dX12_is_12 (fun c => ?_) (fun c => ?_)
    · exact GO.pick [0, 1] rfl <| SX12_is_b35 j1 h1 M
    · refine g_aload_n 1 rfl rfl dX12_is_15 ?_
      refine g_slen h1 mlX12_195 (by first | decide | omega) (by decide) (by simp [Value.category]) dX12_is_16 ?_
      refine g_aload_n 0 rfl rfl dX12_is_19 ?_
      refine g_getI (k := 22) clX12 kd_87 (by decide) rfl flX12_186 dX12_is_20 ?_
      refine g_aload_n 0 rfl rfl dX12_is_23 ?_
      refine g_getI (k := 21) clX12 kd_87 (by decide) rfl flX12_160 dX12_is_24 ?_
      refine g_isub dX12_is_27 ?_
      refine g_icmp_ne (tgt := 35) rfl dX12_is_28 (fun c => ?_) (fun c => ?_)
      · exact GO.pick [0, 1] rfl <| SX12_is_b35 j1 h1 M
      · refine g_iconst (v := 1) (by decide) dX12_is_31 ?_
        refine g_goto (tgt := 36) rfl dX12_is_32 ?_
        exact GO.pick [0, 1] rfl <| SX12_is_b36 j1 h1 M 1
def fX12_which_b2 (a1 : Nat) : Nat → Mem → Int32 → RS
  | 0 => fun _ _ => none
  | n + 1 => fun M x2 => if x2 < (Int32.ofNat ((kd a1).2)) then chk (inb x2 ((kd a1).2)) (bI (fX12_is (ix x2) M) (fun M2 v3 => if v3 = 0 then (fX12_which_b2 a1 n) M2 (x2 + 1) else some (M2, .inr (some (.int x2))))) else some (M, .inr (some (.int (-1))))
theorem SX12_which_b2 (a1 : Nat) (h1 : a1 ∈ [88, 89]) (n : Nat) : ∀ (M : Mem) (x2 : Int32), GO miX12_which (9) 0 0 0 0 2 [(0, .ref 87), (1, .ref a1), (2, .int x2)] [] M (fX12_which_b2 a1 n M x2) := by
  induction n with
  | zero => intro M x2 ; exact GO.none
  | succ n hrec2 =>
    intro M x2 
    show GO miX12_which (9) 0 0 0 0 2 [(0, .ref 87), (1, .ref a1), (2, .int x2)] [] M (if x2 < (Int32.ofNat ((kd a1).2)) then chk (inb x2 ((kd a1).2)) (bI (fX12_is (ix x2) M) (fun M2 v3 => if v3 = 0 then (fX12_which_b2 a1 n) M2 (x2 + 1) else some (M2, .inr (some (.int x2))))) else some (M, .inr (some (.int (-1)))))
    refine g_iload_n 2 rfl rfl dX12_which_2 ?_
    refine g_aload_n 1 rfl rfl dX12_which_3 ?_
    refine g_alenS (v := Int32.ofNat ((kd a1).2)) (kv_d88_89_0 _ h1) rfl dX12_which_4 ?_
    refine g_icmp_ge (tgt := 26) rfl dX12_which_5 (fun c => ?_) (fun c => ?_)
    · refine g_iconst (v := (-1)) (by decide) dX12_which_26 ?_
      exact g_ireturn rfl (by decide) (by decide) dX12_which_27 rfl rfl
    · refine g_aload_n 0 rfl rfl dX12_which_8 ?_
      refine g_aload_n 1 rfl rfl dX12_which_9 ?_
      refine g_iload_n 2 rfl rfl dX12_which_10 ?_
      refine GO.chk fun hi1 => ?_
      refine g_aald (b := 1000 + ix x2) (cel_s (kv_d88_89_0 _ h1)) (kd_lt (kv_d88_89_0 _ h1) (by decide)) (fun _ => rfl) rfl rfl dX12_which_11 hi1 ?_
      refine g_callVI (y := miX12_is) (As := [.ref (1000 + (ix x2))]) (rest := []) clX12 kd_87 rfl moX12_is rfl mlX12_203 (by first | decide | omega) (by decide) (by simp [Value.category]) rfl dX12_which_12 (SX12_is (ix x2) (kwS hi1 (kl_88_89 _ h1)) M) (fun M2 v3 => ?_)
      refine g_if_eq (tgt := 20) rfl dX12_which_15 (fun c => ?_) (fun c => ?_)
      · refine g_iinc (v := x2 + 1) (L' := [(2, .int (x2 + 1)), (0, .ref 87), (1, .ref a1)]) 2 rfl rfl (by decide) rfl dX12_which_20 ?_
        refine g_goto (tgt := 2) rfl dX12_which_23 ?_
        exact GO.pick [1, 2, 0] rfl <| hrec2 M2 (x2 + 1)
      · refine g_iload_n 2 rfl rfl dX12_which_18 ?_
        exact g_ireturn rfl (by decide) (by decide) dX12_which_19 rfl rfl
def fX12_which (a1 : Nat) (M : Mem)  : RS := fX12_which_b2 a1 FU M 0
theorem SX12_which (a1 : Nat) (h1 : a1 ∈ [88, 89]) (M : Mem)  : CTO (9) miX12_which 0 0 [.ref 87, .ref a1] M (fX12_which a1 M ) := by
  refine CTO.of (by decide) (by simp [lg_sl, Value.category]) ?_
  show GO miX12_which (9) 0 0 0 0 0 [(0, .ref 87), (1, .ref a1)] [] M (fX12_which_b2 a1 FU M 0)
  refine g_iconst (v := 0) (by decide) dX12_which_0 ?_
  refine g_istore_n (L' := [(2, .int 0), (0, .ref 87), (1, .ref a1)]) (by decide) rfl rfl dX12_which_1 ?_
  exact GO.pick [1, 2, 0] rfl <| SX12_which_b2 a1 h1 FU M 0
def fX12_isMarked (M : Mem) (x1 : Int32) : RS := if (gi M 87 23) = 0 then if (gi M 87 19) = 3 then chk (inb (gi M 87 21) 700) (if (gi M 101 (ix (gi M 87 21))) = x1 then some (M, .inr (some (.int 1))) else some (M, .inr (some (.int 0)))) else some (M, .inr (some (.int 0))) else some (M, .inr (some (.int 0)))
theorem SX12_isMarked (M : Mem) (x1 : Int32) : CTO (0) miX12_isMarked 0 0 [.ref 87, .int x1] M (fX12_isMarked  M x1) := by
  refine CTO.of (by decide) (by simp [lg_sl, Value.category]) ?_
  show GO miX12_isMarked (0) 0 0 0 0 0 [(0, .ref 87), (1, .int x1)] [] M (if (gi M 87 23) = 0 then if (gi M 87 19) = 3 then chk (inb (gi M 87 21) 700) (if (gi M 101 (ix (gi M 87 21))) = x1 then some (M, .inr (some (.int 1))) else some (M, .inr (some (.int 0)))) else some (M, .inr (some (.int 0))) else some (M, .inr (some (.int 0))))
  refine g_aload_n 0 rfl rfl dX12_isMarked_0 ?_
  refine g_getI (k := 23) clX12 kd_87 (by decide) rfl flX12_189 dX12_isMarked_1 ?_
  refine g_if_ne (tgt := 32) rfl dX12_isMarked_4 (fun c => ?_) (fun c => ?_)
  · refine g_iconst (v := 0) (by decide) dX12_isMarked_32 ?_
    exact g_zreturn rfl (by decide) (by decide) dX12_isMarked_33 (by decide)
  · refine g_aload_n 0 rfl rfl dX12_isMarked_7 ?_
    refine g_getI (k := 19) clX12 kd_87 (by decide) rfl flX12_163 dX12_isMarked_8 ?_
    refine g_iconst (v := 3) (by decide) dX12_isMarked_11 ?_
    refine g_icmp_ne (tgt := 32) rfl dX12_isMarked_12 (fun c => ?_) (fun c => ?_)
    · refine g_iconst (v := 0) (by decide) dX12_isMarked_32 ?_
      exact g_zreturn rfl (by decide) (by decide) dX12_isMarked_33 (by decide)
    · refine g_aload_n 0 rfl rfl dX12_isMarked_15 ?_
      refine g_getR (k := 15) (b := 101) clX12 kd_87 (by decide) rfl rfl flX12_66 dX12_isMarked_16 ?_
      refine g_aload_n 0 rfl rfl dX12_isMarked_19 ?_
      refine g_getI (k := 21) clX12 kd_87 (by decide) rfl flX12_160 dX12_isMarked_20 ?_
      refine g_ald kd_101 dX12_isMarked_23 (fun hi1 => ?_)
      refine g_iload_n 1 rfl rfl dX12_isMarked_24 ?_
      refine g_icmp_ne (tgt := 32) rfl dX12_isMarked_25 (fun c => ?_) (fun c => ?_)
      · refine g_iconst (v := 0) (by decide) dX12_isMarked_32 ?_
        exact g_zreturn rfl (by decide) (by decide) dX12_isMarked_33 (by decide)
      · refine g_iconst (v := 1) (by decide) dX12_isMarked_28 ?_
        refine g_goto (tgt := 33) rfl dX12_isMarked_29 ?_
        exact g_zreturn rfl (by decide) (by decide) dX12_isMarked_33 (by decide)
def fX12_mark_b20 (M : Mem)  : RS := if (gi M 87 23) = 0 then bV (fX12_stepOn M) (fun M5 => some (M5, .inr none)) else some (M, .inr none)
theorem SX12_mark_b20 (M : Mem)  : GO miX12_mark (2) 0 0 0 0 20 [(0, .ref 87)] [] M (fX12_mark_b20 M ) := by
  show GO miX12_mark (2) 0 0 0 0 20 [(0, .ref 87)] [] M (if (gi M 87 23) = 0 then bV (fX12_stepOn M) (fun M5 => some (M5, .inr none)) else some (M, .inr none))
  refine g_aload_n 0 rfl rfl dX12_mark_20 ?_
  refine g_getI (k := 23) clX12 kd_87 (by decide) rfl flX12_189 dX12_mark_21 ?_
  refine g_if_ne (tgt := 31) rfl dX12_mark_24 (fun c => ?_) (fun c => ?_)
  · exact g_vreturn rfl (by decide) (by decide) dX12_mark_31
  · refine g_aload_n 0 rfl rfl dX12_mark_27 ?_
    refine g_callVV (y := miX12_stepOn) (As := []) (rest := []) clX12 kd_87 rfl moX12_stepOn rfl mlX12_214 (by first | decide | omega) (by decide) (by simp [Value.category]) rfl dX12_mark_28 (SX12_stepOn  M) (fun M5 => ?_)
    exact g_vreturn rfl (by decide) (by decide) dX12_mark_31
def fX12_mark (M : Mem) (x1 : Int32) : RS := if (gi M 87 23) = 0 then bI (fX12_isMarked M x1) (fun M1 v2 => if v2 = 0 then bV (fX12_wrong M1 1) (fun M3 => fX12_mark_b20  M3) else fX12_mark_b20  M1) else fX12_mark_b20  M
theorem SX12_mark (M : Mem) (x1 : Int32) : CTO (2) miX12_mark 0 0 [.ref 87, .int x1] M (fX12_mark  M x1) := by
  refine CTO.of (by decide) (by simp [lg_sl, Value.category]) ?_
  show GO miX12_mark (2) 0 0 0 0 0 [(0, .ref 87), (1, .int x1)] [] M (if (gi M 87 23) = 0 then bI (fX12_isMarked M x1) (fun M1 v2 => if v2 = 0 then bV (fX12_wrong M1 1) (fun M3 => fX12_mark_b20  M3) else fX12_mark_b20  M1) else fX12_mark_b20  M)
  refine g_aload_n 0 rfl rfl dX12_mark_0 ?_
  refine g_getI (k := 23) clX12 kd_87 (by decide) rfl flX12_189 dX12_mark_1 ?_
  refine g_if_ne (tgt := 20) rfl dX12_mark_4 (fun c => ?_) (fun c => ?_)
  · exact GO.pick [0] rfl <| SX12_mark_b20  M
  · refine g_aload_n 0 rfl rfl dX12_mark_7 ?_
    refine g_iload_n 1 rfl rfl dX12_mark_8 ?_
    refine g_callVI (y := miX12_isMarked) (As := [.int x1]) (rest := []) clX12 kd_87 rfl moX12_isMarked rfl mlX12_207 (by first | decide | omega) (by decide) (by simp [Value.category]) rfl dX12_mark_9 (SX12_isMarked  M x1) (fun M1 v2 => ?_)
    refine g_if_ne (tgt := 20) rfl dX12_mark_12 (fun c => ?_) (fun c => ?_)
    · exact GO.pick [0] rfl <| SX12_mark_b20  M1
    · refine g_aload_n 0 rfl rfl dX12_mark_15 ?_
      refine g_iconst (v := 1) (by decide) dX12_mark_16 ?_
      refine g_callVV (y := miX12_wrong) (As := [.int 1]) (rest := []) clX12 kd_87 rfl moX12_wrong rfl mlX12_210 (by first | decide | omega) (by decide) (by simp [Value.category]) rfl dX12_mark_17 (SX12_wrong  M1 1) (fun M3 => ?_)
      exact GO.pick [0] rfl <| SX12_mark_b20  M3
def fX12_numberNow_b59 (M : Mem)  : RS := if (gi M 87 23) = 0 then some (M, .inr (some (.int (gi M 87 20)))) else some (M, .inr (some (.int 0)))
theorem SX12_numberNow_b59 (M : Mem)  : GO miX12_numberNow (1) 0 0 0 0 59 [(0, .ref 87)] [] M (fX12_numberNow_b59 M ) := by
  show GO miX12_numberNow (1) 0 0 0 0 59 [(0, .ref 87)] [] M (if (gi M 87 23) = 0 then some (M, .inr (some (.int (gi M 87 20)))) else some (M, .inr (some (.int 0))))
  refine g_aload_n 0 rfl rfl dX12_numberNow_59 ?_
  refine g_getI (k := 23) clX12 kd_87 (by decide) rfl flX12_189 dX12_numberNow_60 ?_
  refine g_if_ne (tgt := 73) rfl dX12_numberNow_63 (fun c => ?_) (fun c => ?_)
  · refine g_iconst (v := 0) (by decide) dX12_numberNow_73 ?_
    exact g_ireturn rfl (by decide) (by decide) dX12_numberNow_74 rfl rfl
  · refine g_aload_n 0 rfl rfl dX12_numberNow_66 ?_
    refine g_getI (k := 20) clX12 kd_87 (by decide) rfl flX12_173 dX12_numberNow_67 ?_
    refine g_goto (tgt := 74) rfl dX12_numberNow_70 ?_
    exact g_ireturn rfl (by decide) (by decide) dX12_numberNow_74 rfl rfl
def fX12_numberNow_b54 (M : Mem)  : RS := bV (fX12_wrong M 2) (fun M3 => fX12_numberNow_b59  M3)
theorem SX12_numberNow_b54 (M : Mem)  : GO miX12_numberNow (1) 0 0 0 0 54 [(0, .ref 87)] [] M (fX12_numberNow_b54 M ) := by
  show GO miX12_numberNow (1) 0 0 0 0 54 [(0, .ref 87)] [] M (bV (fX12_wrong M 2) (fun M3 => fX12_numberNow_b59  M3))
  refine g_aload_n 0 rfl rfl dX12_numberNow_54 ?_
  refine g_iconst (v := 2) (by decide) dX12_numberNow_55 ?_
  refine g_callVV (y := miX12_wrong) (As := [.int 2]) (rest := []) clX12 kd_87 rfl moX12_wrong rfl mlX12_210 (by first | decide | omega) (by decide) (by simp [Value.category]) rfl dX12_numberNow_56 (SX12_wrong  M 2) (fun M3 => ?_)
  exact GO.pick [0] rfl <| SX12_numberNow_b59  M3
def fX12_numberNow (M : Mem) (x1 : Int32) (x2 : Int32) : RS := if (gi M 87 23) = 0 then if (gi M 87 19) = 2 then if 4 < ((gi M 87 22) - (gi M 87 21)) then fX12_numberNow_b54  M else if (gi M 87 20) < x1 then fX12_numberNow_b54  M else if x2 < (gi M 87 20) then fX12_numberNow_b54  M else fX12_numberNow_b59  M else bV (fX12_wrong M 1) (fun M1 => fX12_numberNow_b59  M1) else some (M, .inr (some (.int 0)))
theorem SX12_numberNow (M : Mem) (x1 : Int32) (x2 : Int32) : CTO (1) miX12_numberNow 0 0 [.ref 87, .int x1, .int x2] M (fX12_numberNow  M x1 x2) := by
  refine CTO.of (by decide) (by simp [lg_sl, Value.category]) ?_
  show GO miX12_numberNow (1) 0 0 0 0 0 [(0, .ref 87), (1, .int x1), (2, .int x2)] [] M (if (gi M 87 23) = 0 then if (gi M 87 19) = 2 then if 4 < ((gi M 87 22) - (gi M 87 21)) then fX12_numberNow_b54  M else if (gi M 87 20) < x1 then fX12_numberNow_b54  M else if x2 < (gi M 87 20) then fX12_numberNow_b54  M else fX12_numberNow_b59  M else bV (fX12_wrong M 1) (fun M1 => fX12_numberNow_b59  M1) else some (M, .inr (some (.int 0))))
  refine g_aload_n 0 rfl rfl dX12_numberNow_0 ?_
  refine g_getI (k := 23) clX12 kd_87 (by decide) rfl flX12_189 dX12_numberNow_1 ?_
  refine g_if_eq (tgt := 9) rfl dX12_numberNow_4 (fun c => ?_) (fun c => ?_)
  · refine g_aload_n 0 rfl rfl dX12_numberNow_9 ?_
    refine g_getI (k := 19) clX12 kd_87 (by decide) rfl flX12_163 dX12_numberNow_10 ?_
    refine g_iconst (v := 2) (by decide) dX12_numberNow_13 ?_
    refine g_icmp_eq (tgt := 25) rfl dX12_numberNow_14 (fun c => ?_) (fun c => ?_)
    · refine g_aload_n 0 rfl rfl dX12_numberNow_25 ?_
      refine g_getI (k := 22) clX12 kd_87 (by decide) rfl flX12_186 dX12_numberNow_26 ?_
      refine g_aload_n 0 rfl rfl dX12_numberNow_29 ?_
      refine g_getI (k := 21) clX12 kd_87 (by decide) rfl flX12_160 dX12_numberNow_30 ?_
      refine g_isub dX12_numberNow_33 ?_
      refine g_iconst (v := 4) (by decide) dX12_numberNow_34 ?_
      refine g_icmp_gt (tgt := 54) rfl dX12_numberNow_35 (fun c => ?_) (fun c => ?_)
      · exact GO.pick [0] rfl <| SX12_numberNow_b54  M
      · refine g_aload_n 0 rfl rfl dX12_numberNow_38 ?_
        refine g_getI (k := 20) clX12 kd_87 (by decide) rfl flX12_173 dX12_numberNow_39 ?_
        refine g_iload_n 1 rfl rfl dX12_numberNow_42 ?_
        refine g_icmp_lt (tgt := 54) rfl dX12_numberNow_43 (fun c => ?_) (fun c => ?_)
        · exact GO.pick [0] rfl <| SX12_numberNow_b54  M
        · refine g_aload_n 0 rfl rfl dX12_numberNow_46 ?_
          refine g_getI (k := 20) clX12 kd_87 (by decide) rfl flX12_173 dX12_numberNow_47 ?_
          refine g_iload_n 2 rfl rfl dX12_numberNow_50 ?_
          refine g_icmp_le (tgt := 59) rfl dX12_numberNow_51 (fun c => ?_) (fun c => ?_)
          · exact GO.pick [0] rfl <| SX12_numberNow_b59  M
          · exact GO.pick [0] rfl <| SX12_numberNow_b54  M
    · refine g_aload_n 0 rfl rfl dX12_numberNow_17 ?_
      refine g_iconst (v := 1) (by decide) dX12_numberNow_18 ?_
      refine g_callVV (y := miX12_wrong) (As := [.int 1]) (rest := []) clX12 kd_87 rfl moX12_wrong rfl mlX12_210 (by first | decide | omega) (by decide) (by simp [Value.category]) rfl dX12_numberNow_19 (SX12_wrong  M 1) (fun M1 => ?_)
      refine g_goto (tgt := 59) rfl dX12_numberNow_22 ?_
      exact GO.pick [0] rfl <| SX12_numberNow_b59  M1
  · refine g_iconst (v := 0) (by decide) dX12_numberNow_7 ?_
    exact g_ireturn rfl (by decide) (by decide) dX12_numberNow_8 rfl rfl
def fX12_readNumber (M : Mem) (x1 : Int32) (x2 : Int32) : RS := bI (fX12_numberNow M x1 x2) (fun M1 v2 => if (gi M1 87 23) = 0 then bV (fX12_stepOn M1) (fun M3 => some (M3, .inr (some (.int v2)))) else some (M1, .inr (some (.int v2))))
theorem SX12_readNumber (M : Mem) (x1 : Int32) (x2 : Int32) : CTO (2) miX12_readNumber 0 0 [.ref 87, .int x1, .int x2] M (fX12_readNumber  M x1 x2) := by
  refine CTO.of (by decide) (by simp [lg_sl, Value.category]) ?_
  show GO miX12_readNumber (2) 0 0 0 0 0 [(0, .ref 87), (1, .int x1), (2, .int x2)] [] M (bI (fX12_numberNow M x1 x2) (fun M1 v2 => if (gi M1 87 23) = 0 then bV (fX12_stepOn M1) (fun M3 => some (M3, .inr (some (.int v2)))) else some (M1, .inr (some (.int v2)))))
  refine g_aload_n 0 rfl rfl dX12_readNumber_0 ?_
  refine g_iload_n 1 rfl rfl dX12_readNumber_1 ?_
  refine g_iload_n 2 rfl rfl dX12_readNumber_2 ?_
  refine g_callVI (y := miX12_numberNow) (As := [.int x1, .int x2]) (rest := []) clX12 kd_87 rfl moX12_numberNow rfl mlX12_217 (by first | decide | omega) (by decide) (by simp [Value.category]) rfl dX12_readNumber_3 (SX12_numberNow  M x1 x2) (fun M1 v2 => ?_)
  refine g_istore_n (L' := [(3, .int v2), (0, .ref 87), (1, .int x1), (2, .int x2)]) (by decide) rfl rfl dX12_readNumber_6 ?_
  refine g_aload_n 1 rfl rfl dX12_readNumber_7 ?_
  refine g_getI (k := 23) clX12 kd_87 (by decide) rfl flX12_189 dX12_readNumber_8 ?_
  refine g_if_ne (tgt := 18) rfl dX12_readNumber_11 (fun c => ?_) (fun c => ?_)
  · refine g_iload_n 0 rfl rfl dX12_readNumber_18 ?_
    exact g_ireturn rfl (by decide) (by decide) dX12_readNumber_19 rfl rfl
  · refine g_aload_n 1 rfl rfl dX12_readNumber_14 ?_
    refine g_callVV (y := miX12_stepOn) (As := []) (rest := []) clX12 kd_87 rfl moX12_stepOn rfl mlX12_214 (by first | decide | omega) (by decide) (by simp [Value.category]) rfl dX12_readNumber_15 (SX12_stepOn  M1) (fun M3 => ?_)
    refine g_iload_n 0 rfl rfl dX12_readNumber_18 ?_
    exact g_ireturn rfl (by decide) (by decide) dX12_readNumber_19 rfl rfl
def fX12_lay_b44 (M : Mem) (x1 : Int32) (x2 : Int32) (s0 : Nat) : RS := chk (inb x2 16) (chk (inb (700 + (gi M 90 (ix x2))) 1400) (wr (si M s0 (ix (700 + (gi M 90 (ix x2)))) x1) (fun M3 => chk (inb x2 16) (chk (inb x2 16) (wr (si M3 90 (ix x2) ((gi M3 90 (ix x2)) + 1)) (fun M6 => some (M6, .inr none)))))))
theorem SX12_lay_b44 (M : Mem) (x1 : Int32) (x2 : Int32) (s0 : Nat) (hs0 : s0 ∈ [98, 99]) : GO miX12_lay (0) 0 0 0 0 44 [(0, .ref 87), (1, .int x1), (2, .int x2)] [.ref s0] M (fX12_lay_b44 M x1 x2 s0) := by
  show GO miX12_lay (0) 0 0 0 0 44 [(0, .ref 87), (1, .int x1), (2, .int x2)] [.ref s0] M (chk (inb x2 16) (chk (inb (700 + (gi M 90 (ix x2))) 1400) (wr (si M s0 (ix (700 + (gi M 90 (ix x2)))) x1) (fun M3 => chk (inb x2 16) (chk (inb x2 16) (wr (si M3 90 (ix x2) ((gi M3 90 (ix x2)) + 1)) (fun M6 => some (M6, .inr none))))))))
  refine g_astore_n (L' := [(3, .ref s0), (0, .ref 87), (1, .int x1), (2, .int x2)]) (by decide) rfl rfl dX12_lay_44 ?_
  refine g_aload_n 0 rfl rfl dX12_lay_45 ?_
  refine g_sipush (v := 700) (by decide) dX12_lay_46 ?_
  refine g_aload_n 1 rfl rfl dX12_lay_49 ?_
  refine g_getR (k := 4) (b := 90) clX12 kd_87 (by decide) rfl rfl flX12_35 dX12_lay_50 ?_
  refine g_iload_n 3 rfl rfl dX12_lay_53 ?_
  refine g_ald kd_90 dX12_lay_54 (fun hi1 => ?_)
  refine g_iadd dX12_lay_55 ?_
  refine g_iload_n 2 rfl rfl dX12_lay_56 ?_
  refine g_ast (kv_d98_99_0 _ hs0) dX12_lay_57 (fun hi2 => ?_)
  refine GO.wr (fun M3 => ?_)
  refine g_aload_n 1 rfl rfl dX12_lay_58 ?_
  refine g_getR (k := 4) (b := 90) clX12 kd_87 (by decide) rfl rfl flX12_35 dX12_lay_59 ?_
  refine g_iload_n 3 rfl rfl dX12_lay_62 ?_
  refine g_dup2_ri dX12_lay_63 ?_
  refine g_ald kd_90 dX12_lay_64 (fun hi4 => ?_)
  refine g_iconst (v := 1) (by decide) dX12_lay_65 ?_
  refine g_iadd dX12_lay_66 ?_
  refine g_ast kd_90 dX12_lay_67 (fun hi5 => ?_)
  refine GO.wr (fun M6 => ?_)
  exact g_vreturn rfl (by decide) (by decide) dX12_lay_68
def fX12_lay_b24 (M : Mem) (x1 : Int32) (s0 : Int32) (s1 : Int32) : RS := if (gi M 87 26) = 0 then fX12_lay_b44  M x1 (s1 + s0) 98 else fX12_lay_b44  M x1 (s1 + s0) 99
theorem SX12_lay_b24 (M : Mem) (x1 : Int32) (s0 : Int32) (s1 : Int32) : GO miX12_lay (0) 0 0 0 0 24 [(0, .ref 87), (1, .int x1)] [.int s0, .int s1] M (fX12_lay_b24 M x1 s0 s1) := by
  show GO miX12_lay (0) 0 0 0 0 24 [(0, .ref 87), (1, .int x1)] [.int s0, .int s1] M (if (gi M 87 26) = 0 then fX12_lay_b44  M x1 (s1 + s0) 98 else fX12_lay_b44  M x1 (s1 + s0) 99)
  refine g_iadd dX12_lay_24 ?_
  refine g_istore_n (L' := [(2, .int (s1 + s0)), (0, .ref 87), (1, .int x1)]) (by decide) rfl rfl dX12_lay_25 ?_
  refine g_aload_n 1 rfl rfl dX12_lay_26 ?_
  refine g_getI (k := 26) clX12 kd_87 (by decide) rfl flX12_220 dX12_lay_27 ?_
  refine g_if_eq (tgt := 40) rfl dX12_lay_30 (fun c => ?_) (fun c => ?_)
  · refine g_aload_n 1 rfl rfl dX12_lay_40 ?_
    refine g_getR (k := 12) (b := 98) clX12 kd_87 (by decide) rfl rfl flX12_57 dX12_lay_41 ?_
    exact GO.pick [1, 2, 0] rfl <| SX12_lay_b44  M x1 (s1 + s0) 98 (by decide)
  · refine g_aload_n 1 rfl rfl dX12_lay_33 ?_
    refine g_getR (k := 13) (b := 99) clX12 kd_87 (by decide) rfl rfl flX12_60 dX12_lay_34 ?_
    refine g_goto (tgt := 44) rfl dX12_lay_37 ?_
    exact GO.pick [1, 2, 0] rfl <| SX12_lay_b44  M x1 (s1 + s0) 99 (by decide)
def fX12_lay (M : Mem) (x1 : Int32) : RS := if (gi M 87 23) = 0 then if (gi M 87 26) = 0 then fX12_lay_b24  M x1 6 8 else fX12_lay_b24  M x1 7 8 else some (M, .inr none)
theorem SX12_lay (M : Mem) (x1 : Int32) : CTO (0) miX12_lay 0 0 [.ref 87, .int x1] M (fX12_lay  M x1) := by
  refine CTO.of (by decide) (by simp [lg_sl, Value.category]) ?_
  show GO miX12_lay (0) 0 0 0 0 0 [(0, .ref 87), (1, .int x1)] [] M (if (gi M 87 23) = 0 then if (gi M 87 26) = 0 then fX12_lay_b24  M x1 6 8 else fX12_lay_b24  M x1 7 8 else some (M, .inr none))
  refine g_aload_n 0 rfl rfl dX12_lay_0 ?_
  refine g_getI (k := 23) clX12 kd_87 (by decide) rfl flX12_189 dX12_lay_1 ?_
  refine g_if_eq (tgt := 8) rfl dX12_lay_4 (fun c => ?_) (fun c => ?_)
  · refine g_bipush (v := 8) (by decide) dX12_lay_8 ?_
    refine g_aload_n 0 rfl rfl dX12_lay_10 ?_
    refine g_getI (k := 26) clX12 kd_87 (by decide) rfl flX12_220 dX12_lay_11 ?_
    refine g_if_eq (tgt := 22) rfl dX12_lay_14 (fun c => ?_) (fun c => ?_)
    · refine g_bipush (v := 6) (by decide) dX12_lay_22 ?_
      exact GO.pick [0, 1] rfl <| SX12_lay_b24  M x1 6 8
    · refine g_bipush (v := 7) (by decide) dX12_lay_17 ?_
      refine g_goto (tgt := 24) rfl dX12_lay_19 ?_
      exact GO.pick [0, 1] rfl <| SX12_lay_b24  M x1 7 8
  · exact g_vreturn rfl (by decide) (by decide) dX12_lay_7
def fX12_readPart_b56 (rE : Mem → Int32 → RS) (M : Mem) (x2 : Int32) : RS := bV (fX12_lay M ((-1) - x2)) (fun M15 => if (gi M15 87 23) = 0 then bV (fX12_stepOn M15) (fun M17 => some (M17, .inr none)) else some (M15, .inr none))
theorem SX12_readPart_b56 (dE : Nat) (hD : 10 ≤ dE) (rE : Mem → Int32 → RS) (hE : ∀ (M : Mem) (x1 : Int32), CTO dE miX12_readExpression 0 0 [.ref 87, .int x1] M (rE M x1)) (M : Mem) (x2 : Int32) : GO miX12_readPart (dE + 1) 0 0 0 0 56 [(0, .ref 87), (2, .int x2)] [] M (fX12_readPart_b56 rE M x2) := by
  show GO miX12_readPart (dE + 1) 0 0 0 0 56 [(0, .ref 87), (2, .int x2)] [] M (bV (fX12_lay M ((-1) - x2)) (fun M15 => if (gi M15 87 23) = 0 then bV (fX12_stepOn M15) (fun M17 => some (M17, .inr none)) else some (M15, .inr none)))
  refine g_aload_n 0 rfl rfl dX12_readPart_56 ?_
  refine g_iconst (v := (-1)) (by decide) dX12_readPart_57 ?_
  refine g_iload_n 1 rfl rfl dX12_readPart_58 ?_
  refine g_isub dX12_readPart_59 ?_
  refine g_callVV (y := miX12_lay) (As := [.int ((-1) - x2)]) (rest := []) clX12 kd_87 rfl moX12_lay rfl mlX12_227 (by first | decide | omega) (by decide) (by simp [Value.category]) rfl dX12_readPart_60 (SX12_lay  M ((-1) - x2)) (fun M15 => ?_)
  refine g_aload_n 0 rfl rfl dX12_readPart_63 ?_
  refine g_getI (k := 23) clX12 kd_87 (by decide) rfl flX12_189 dX12_readPart_64 ?_
  refine g_if_ne (tgt := 74) rfl dX12_readPart_67 (fun c => ?_) (fun c => ?_)
  · exact g_vreturn rfl (by decide) (by decide) dX12_readPart_74
  · refine g_aload_n 0 rfl rfl dX12_readPart_70 ?_
    refine g_callVV (y := miX12_stepOn) (As := []) (rest := []) clX12 kd_87 rfl moX12_stepOn rfl mlX12_214 (by first | decide | omega) (by decide) (by simp [Value.category]) rfl dX12_readPart_71 (SX12_stepOn  M15) (fun M17 => ?_)
    exact g_vreturn rfl (by decide) (by decide) dX12_readPart_74
def fX12_readPart (rE : Mem → Int32 → RS) (M : Mem) (x1 : Int32) : RS := if (gi M 87 23) = 0 then if (gi M 87 19) = 2 then bI (fX12_readNumber M 0 9999) (fun M11 v12 => bV (fX12_lay M11 v12) (fun M13 => some (M13, .inr none))) else if (gi M 87 19) = 1 then bI (fX12_which (vaA (gb M 5)) M) (fun M7 v8 => if v8 = (-1) then bV (fX12_wrong M7 3) (fun M9 => fX12_readPart_b56 rE  M9 v8) else fX12_readPart_b56 rE  M7 v8) else bV (fX12_mark M 40) (fun M1 => bV (rE M1 (x1 + 1)) (fun M3 => bV (fX12_mark M3 41) (fun M5 => some (M5, .inr none)))) else some (M, .inr none)
theorem SX12_readPart (dE : Nat) (hD : 10 ≤ dE) (rE : Mem → Int32 → RS) (hE : ∀ (M : Mem) (x1 : Int32), CTO dE miX12_readExpression 0 0 [.ref 87, .int x1] M (rE M x1)) (M : Mem) (x1 : Int32) : CTO (dE + 1) miX12_readPart 0 0 [.ref 87, .int x1] M (fX12_readPart rE  M x1) := by
  refine CTO.of (by decide) (by simp [lg_sl, Value.category]) ?_
  show GO miX12_readPart (dE + 1) 0 0 0 0 0 [(0, .ref 87), (1, .int x1)] [] M (if (gi M 87 23) = 0 then if (gi M 87 19) = 2 then bI (fX12_readNumber M 0 9999) (fun M11 v12 => bV (fX12_lay M11 v12) (fun M13 => some (M13, .inr none))) else if (gi M 87 19) = 1 then bI (fX12_which (vaA (gb M 5)) M) (fun M7 v8 => if v8 = (-1) then bV (fX12_wrong M7 3) (fun M9 => fX12_readPart_b56 rE  M9 v8) else fX12_readPart_b56 rE  M7 v8) else bV (fX12_mark M 40) (fun M1 => bV (rE M1 (x1 + 1)) (fun M3 => bV (fX12_mark M3 41) (fun M5 => some (M5, .inr none)))) else some (M, .inr none))
  refine g_aload_n 0 rfl rfl dX12_readPart_0 ?_
  refine g_getI (k := 23) clX12 kd_87 (by decide) rfl flX12_189 dX12_readPart_1 ?_
  refine g_if_eq (tgt := 8) rfl dX12_readPart_4 (fun c => ?_) (fun c => ?_)
  · refine g_aload_n 0 rfl rfl dX12_readPart_8 ?_
    refine g_getI (k := 19) clX12 kd_87 (by decide) rfl flX12_163 dX12_readPart_9 ?_
    refine g_iconst (v := 2) (by decide) dX12_readPart_12 ?_
    refine g_icmp_ne (tgt := 29) rfl dX12_readPart_13 (fun c => ?_) (fun c => ?_)
    · refine g_aload_n 0 rfl rfl dX12_readPart_29 ?_
      refine g_getI (k := 19) clX12 kd_87 (by decide) rfl flX12_163 dX12_readPart_30 ?_
      refine g_iconst (v := 1) (by decide) dX12_readPart_33 ?_
      refine g_icmp_ne (tgt := 75) rfl dX12_readPart_34 (fun c => ?_) (fun c => ?_)
      · refine g_aload_n 0 rfl rfl dX12_readPart_75 ?_
        refine g_bipush (v := 40) (by decide) dX12_readPart_76 ?_
        refine g_callVV (y := miX12_mark) (As := [.int 40]) (rest := []) clX12 kd_87 rfl moX12_mark rfl mlX12_234 (by first | decide | omega) (by decide) (by simp [Value.category]) rfl dX12_readPart_78 (SX12_mark  M 40) (fun M1 => ?_)
        refine g_aload_n 0 rfl rfl dX12_readPart_81 ?_
        refine g_iload_n 1 rfl rfl dX12_readPart_82 ?_
        refine g_iconst (v := 1) (by decide) dX12_readPart_83 ?_
        refine g_iadd dX12_readPart_84 ?_
        refine g_callVV (y := miX12_readExpression) (As := [.int (x1 + 1)]) (rest := []) clX12 kd_87 rfl moX12_readExpression rfl mlX12_237 (by first | decide | omega) (by decide) (by simp [Value.category]) rfl dX12_readPart_85 (hE  M1 (x1 + 1)) (fun M3 => ?_)
        refine g_aload_n 0 rfl rfl dX12_readPart_88 ?_
        refine g_bipush (v := 41) (by decide) dX12_readPart_89 ?_
        refine g_callVV (y := miX12_mark) (As := [.int 41]) (rest := []) clX12 kd_87 rfl moX12_mark rfl mlX12_234 (by first | decide | omega) (by decide) (by simp [Value.category]) rfl dX12_readPart_91 (SX12_mark  M3 41) (fun M5 => ?_)
        exact g_vreturn rfl (by decide) (by decide) dX12_readPart_94
      · refine g_aload_n 0 rfl rfl dX12_readPart_37 ?_
        refine g_aload_n 0 rfl rfl dX12_readPart_38 ?_
        refine g_getR (k := 2) (b := (vaA (gb M 5))) clX12 kd_87 (by decide) rfl rfl flX12_32 dX12_readPart_39 ?_
        refine g_callVI (y := miX12_which) (As := [.ref (vaA (gb M 5))]) (rest := []) clX12 kd_87 rfl moX12_which rfl mlX12_230 (by first | decide | omega) (by decide) (by simp [Value.category]) rfl dX12_readPart_42 (SX12_which (vaA (gb M 5)) (vaA_dom _) M) (fun M7 v8 => ?_)
        refine g_istore_n (L' := [(2, .int v8), (0, .ref 87), (1, .int x1)]) (by decide) rfl rfl dX12_readPart_45 ?_
        refine g_iload_n 0 rfl rfl dX12_readPart_46 ?_
        refine g_iconst (v := (-1)) (by decide) dX12_readPart_47 ?_
        refine g_icmp_ne (tgt := 56) rfl dX12_readPart_48 (fun c => ?_) (fun c => ?_)
        · exact GO.pick [1, 0] rfl <| SX12_readPart_b56 dE hD rE hE  M7 v8
        · refine g_aload_n 1 rfl rfl dX12_readPart_51 ?_
          refine g_iconst (v := 3) (by decide) dX12_readPart_52 ?_
          refine g_callVV (y := miX12_wrong) (As := [.int 3]) (rest := []) clX12 kd_87 rfl moX12_wrong rfl mlX12_210 (by first | decide | omega) (by decide) (by simp [Value.category]) rfl dX12_readPart_53 (SX12_wrong  M7 3) (fun M9 => ?_)
          exact GO.pick [1, 0] rfl <| SX12_readPart_b56 dE hD rE hE  M9 v8
    · refine g_aload_n 0 rfl rfl dX12_readPart_16 ?_
      refine g_aload_n 0 rfl rfl dX12_readPart_17 ?_
      refine g_iconst (v := 0) (by decide) dX12_readPart_18 ?_
      refine g_sipush (v := 9999) (by decide) dX12_readPart_19 ?_
      refine g_callVI (y := miX12_readNumber) (As := [.int 0, .int 9999]) (rest := [.ref 87]) clX12 kd_87 rfl moX12_readNumber rfl mlX12_224 (by first | decide | omega) (by decide) (by simp [Value.category]) rfl dX12_readPart_22 (SX12_readNumber  M 0 9999) (fun M11 v12 => ?_)
      refine g_callVV (y := miX12_lay) (As := [.int v12]) (rest := []) clX12 kd_87 rfl moX12_lay rfl mlX12_227 (by first | decide | omega) (by decide) (by simp [Value.category]) rfl dX12_readPart_25 (SX12_lay  M11 v12) (fun M13 => ?_)
      exact g_vreturn rfl (by decide) (by decide) dX12_readPart_28
  · exact g_vreturn rfl (by decide) (by decide) dX12_readPart_7
def fX12_readProduct_b39 (rE : Mem → Int32 → RS) (rec5 : Mem → Int32 → RS) (M : Mem) (x1 : Int32) (s0 : Int32) : RS := bV (fX12_stepOn M) (fun M9 => bV (fX12_readPart rE M9 x1) (fun M11 => bV (fX12_lay M11 s0) (fun M13 => rec5 M13 x1)))
theorem SX12_readProduct_b39 (dE : Nat) (hD : 10 ≤ dE) (rE : Mem → Int32 → RS) (hE : ∀ (M : Mem) (x1 : Int32), CTO dE miX12_readExpression 0 0 [.ref 87, .int x1] M (rE M x1)) (rec5 : Mem → Int32 → RS) (hrec5 : ∀ (M : Mem) (x1 : Int32), GO miX12_readProduct (dE + 2) 0 0 0 0 5 [(0, .ref 87), (1, .int x1)] [] M (rec5 M x1)) (M : Mem) (x1 : Int32) (s0 : Int32) : GO miX12_readProduct (dE + 2) 0 0 0 0 39 [(0, .ref 87), (1, .int x1)] [.int s0] M (fX12_readProduct_b39 rE rec5 M x1 s0) := by
  show GO miX12_readProduct (dE + 2) 0 0 0 0 39 [(0, .ref 87), (1, .int x1)] [.int s0] M (bV (fX12_stepOn M) (fun M9 => bV (fX12_readPart rE M9 x1) (fun M11 => bV (fX12_lay M11 s0) (fun M13 => rec5 M13 x1))))
  refine g_istore_n (L' := [(2, .int s0), (0, .ref 87), (1, .int x1)]) (by decide) rfl rfl dX12_readProduct_39 ?_
  refine g_aload_n 1 rfl rfl dX12_readProduct_40 ?_
  refine g_callVV (y := miX12_stepOn) (As := []) (rest := []) clX12 kd_87 rfl moX12_stepOn rfl mlX12_214 (by first | decide | omega) (by decide) (by simp [Value.category]) rfl dX12_readProduct_41 (SX12_stepOn  M) (fun M9 => ?_)
  refine g_aload_n 1 rfl rfl dX12_readProduct_44 ?_
  refine g_iload_n 2 rfl rfl dX12_readProduct_45 ?_
  refine g_callVV (y := miX12_readPart) (As := [.int x1]) (rest := []) clX12 kd_87 rfl moX12_readPart rfl mlX12_240 (by first | decide | omega) (by decide) (by simp [Value.category]) rfl dX12_readProduct_46 (SX12_readPart dE hD rE hE  M9 x1) (fun M11 => ?_)
  refine g_aload_n 1 rfl rfl dX12_readProduct_49 ?_
  refine g_iload_n 0 rfl rfl dX12_readProduct_50 ?_
  refine g_callVV (y := miX12_lay) (As := [.int s0]) (rest := []) clX12 kd_87 rfl moX12_lay rfl mlX12_227 (by first | decide | omega) (by decide) (by simp [Value.category]) rfl dX12_readProduct_51 (SX12_lay  M11 s0) (fun M13 => ?_)
  refine g_goto (tgt := 5) rfl dX12_readProduct_54 ?_
  exact GO.pick [1, 2] rfl <| hrec5 M13 x1
def fX12_readProduct_b23 (rE : Mem → Int32 → RS) (rec5 : Mem → Int32 → RS) (M : Mem) (x1 : Int32) : RS := bI (fX12_isMarked M 42) (fun M7 v8 => if v8 = 0 then fX12_readProduct_b39 rE rec5 M7 x1 (-23) else fX12_readProduct_b39 rE rec5 M7 x1 (-22))
theorem SX12_readProduct_b23 (dE : Nat) (hD : 10 ≤ dE) (rE : Mem → Int32 → RS) (hE : ∀ (M : Mem) (x1 : Int32), CTO dE miX12_readExpression 0 0 [.ref 87, .int x1] M (rE M x1)) (rec5 : Mem → Int32 → RS) (hrec5 : ∀ (M : Mem) (x1 : Int32), GO miX12_readProduct (dE + 2) 0 0 0 0 5 [(0, .ref 87), (1, .int x1)] [] M (rec5 M x1)) (M : Mem) (x1 : Int32) : GO miX12_readProduct (dE + 2) 0 0 0 0 23 [(0, .ref 87), (1, .int x1)] [] M (fX12_readProduct_b23 rE rec5 M x1) := by
  show GO miX12_readProduct (dE + 2) 0 0 0 0 23 [(0, .ref 87), (1, .int x1)] [] M (bI (fX12_isMarked M 42) (fun M7 v8 => if v8 = 0 then fX12_readProduct_b39 rE rec5 M7 x1 (-23) else fX12_readProduct_b39 rE rec5 M7 x1 (-22)))
  refine g_aload_n 0 rfl rfl dX12_readProduct_23 ?_
  refine g_bipush (v := 42) (by decide) dX12_readProduct_24 ?_
  refine g_callVI (y := miX12_isMarked) (As := [.int 42]) (rest := []) clX12 kd_87 rfl moX12_isMarked rfl mlX12_207 (by first | decide | omega) (by decide) (by simp [Value.category]) rfl dX12_readProduct_26 (SX12_isMarked  M 42) (fun M7 v8 => ?_)
  refine g_if_eq (tgt := 37) rfl dX12_readProduct_29 (fun c => ?_) (fun c => ?_)
  · refine g_bipush (v := (-23)) (by decide) dX12_readProduct_37 ?_
    exact GO.pick [0, 1] rfl <| SX12_readProduct_b39 dE hD rE hE  rec5 hrec5 M7 x1 (-23)
  · refine g_bipush (v := (-22)) (by decide) dX12_readProduct_32 ?_
    refine g_goto (tgt := 39) rfl dX12_readProduct_34 ?_
    exact GO.pick [0, 1] rfl <| SX12_readProduct_b39 dE hD rE hE  rec5 hrec5 M7 x1 (-22)
def fX12_readProduct_b5 (rE : Mem → Int32 → RS) : Nat → Mem → Int32 → RS
  | 0 => fun _ _ => none
  | n + 1 => fun M x1 => bI (fX12_isMarked M 42) (fun M3 v4 => if v4 = 0 then bI (fX12_isMarked M3 47) (fun M5 v6 => if v6 = 0 then some (M5, .inr none) else fX12_readProduct_b23 rE (fX12_readProduct_b5 rE n) M5 x1) else fX12_readProduct_b23 rE (fX12_readProduct_b5 rE n) M3 x1)
theorem SX12_readProduct_b5 (dE : Nat) (hD : 10 ≤ dE) (rE : Mem → Int32 → RS) (hE : ∀ (M : Mem) (x1 : Int32), CTO dE miX12_readExpression 0 0 [.ref 87, .int x1] M (rE M x1)) (n : Nat) : ∀ (M : Mem) (x1 : Int32), GO miX12_readProduct (dE + 2) 0 0 0 0 5 [(0, .ref 87), (1, .int x1)] [] M (fX12_readProduct_b5 rE n M x1) := by
  induction n with
  | zero => intro M x1 ; exact GO.none
  | succ n hrec5 =>
    intro M x1 
    show GO miX12_readProduct (dE + 2) 0 0 0 0 5 [(0, .ref 87), (1, .int x1)] [] M (bI (fX12_isMarked M 42) (fun M3 v4 => if v4 = 0 then bI (fX12_isMarked M3 47) (fun M5 v6 => if v6 = 0 then some (M5, .inr none) else fX12_readProduct_b23 rE (fX12_readProduct_b5 rE n) M5 x1) else fX12_readProduct_b23 rE (fX12_readProduct_b5 rE n) M3 x1))
    refine g_aload_n 0 rfl rfl dX12_readProduct_5 ?_
    refine g_bipush (v := 42) (by decide) dX12_readProduct_6 ?_
    refine g_callVI (y := miX12_isMarked) (As := [.int 42]) (rest := []) clX12 kd_87 rfl moX12_isMarked rfl mlX12_207 (by first | decide | omega) (by decide) (by simp [Value.category]) rfl dX12_readProduct_8 (SX12_isMarked  M 42) (fun M3 v4 => ?_)
    refine g_if_ne (tgt := 23) rfl dX12_readProduct_11 (fun c => ?_) (fun c => ?_)
    · exact GO.pick [0, 1] rfl <| SX12_readProduct_b23 dE hD rE hE  (fX12_readProduct_b5 rE n) hrec5 M3 x1
    · refine g_aload_n 0 rfl rfl dX12_readProduct_14 ?_
      refine g_bipush (v := 47) (by decide) dX12_readProduct_15 ?_
      refine g_callVI (y := miX12_isMarked) (As := [.int 47]) (rest := []) clX12 kd_87 rfl moX12_isMarked rfl mlX12_207 (by first | decide | omega) (by decide) (by simp [Value.category]) rfl dX12_readProduct_17 (SX12_isMarked  M3 47) (fun M5 v6 => ?_)
      refine g_if_eq (tgt := 57) rfl dX12_readProduct_20 (fun c => ?_) (fun c => ?_)
      · exact g_vreturn rfl (by decide) (by decide) dX12_readProduct_57
      · exact GO.pick [0, 1] rfl <| SX12_readProduct_b23 dE hD rE hE  (fX12_readProduct_b5 rE n) hrec5 M5 x1
def fX12_readProduct (rE : Mem → Int32 → RS) (M : Mem) (x1 : Int32) : RS := bV (fX12_readPart rE M x1) (fun M1 => fX12_readProduct_b5 rE  FU M1 x1)
theorem SX12_readProduct (dE : Nat) (hD : 10 ≤ dE) (rE : Mem → Int32 → RS) (hE : ∀ (M : Mem) (x1 : Int32), CTO dE miX12_readExpression 0 0 [.ref 87, .int x1] M (rE M x1)) (M : Mem) (x1 : Int32) : CTO (dE + 2) miX12_readProduct 0 0 [.ref 87, .int x1] M (fX12_readProduct rE  M x1) := by
  refine CTO.of (by decide) (by simp [lg_sl, Value.category]) ?_
  show GO miX12_readProduct (dE + 2) 0 0 0 0 0 [(0, .ref 87), (1, .int x1)] [] M (bV (fX12_readPart rE M x1) (fun M1 => fX12_readProduct_b5 rE  FU M1 x1))
  refine g_aload_n 0 rfl rfl dX12_readProduct_0 ?_
  refine g_iload_n 1 rfl rfl dX12_readProduct_1 ?_
  refine g_callVV (y := miX12_readPart) (As := [.int x1]) (rest := []) clX12 kd_87 rfl moX12_readPart rfl mlX12_240 (by first | decide | omega) (by decide) (by simp [Value.category]) rfl dX12_readProduct_2 (SX12_readPart dE hD rE hE  M x1) (fun M1 => ?_)
  exact GO.pick [0, 1] rfl <| SX12_readProduct_b5 dE hD rE hE  FU M1 x1
def fX12_readSum_b39 (rE : Mem → Int32 → RS) (rec5 : Mem → Int32 → RS) (M : Mem) (x1 : Int32) (s0 : Int32) : RS := bV (fX12_stepOn M) (fun M9 => bV (fX12_readProduct rE M9 x1) (fun M11 => bV (fX12_lay M11 s0) (fun M13 => rec5 M13 x1)))
theorem SX12_readSum_b39 (dE : Nat) (hD : 10 ≤ dE) (rE : Mem → Int32 → RS) (hE : ∀ (M : Mem) (x1 : Int32), CTO dE miX12_readExpression 0 0 [.ref 87, .int x1] M (rE M x1)) (rec5 : Mem → Int32 → RS) (hrec5 : ∀ (M : Mem) (x1 : Int32), GO miX12_readSum (dE + 3) 0 0 0 0 5 [(0, .ref 87), (1, .int x1)] [] M (rec5 M x1)) (M : Mem) (x1 : Int32) (s0 : Int32) : GO miX12_readSum (dE + 3) 0 0 0 0 39 [(0, .ref 87), (1, .int x1)] [.int s0] M (fX12_readSum_b39 rE rec5 M x1 s0) := by
  show GO miX12_readSum (dE + 3) 0 0 0 0 39 [(0, .ref 87), (1, .int x1)] [.int s0] M (bV (fX12_stepOn M) (fun M9 => bV (fX12_readProduct rE M9 x1) (fun M11 => bV (fX12_lay M11 s0) (fun M13 => rec5 M13 x1))))
  refine g_istore_n (L' := [(2, .int s0), (0, .ref 87), (1, .int x1)]) (by decide) rfl rfl dX12_readSum_39 ?_
  refine g_aload_n 1 rfl rfl dX12_readSum_40 ?_
  refine g_callVV (y := miX12_stepOn) (As := []) (rest := []) clX12 kd_87 rfl moX12_stepOn rfl mlX12_214 (by first | decide | omega) (by decide) (by simp [Value.category]) rfl dX12_readSum_41 (SX12_stepOn  M) (fun M9 => ?_)
  refine g_aload_n 1 rfl rfl dX12_readSum_44 ?_
  refine g_iload_n 2 rfl rfl dX12_readSum_45 ?_
  refine g_callVV (y := miX12_readProduct) (As := [.int x1]) (rest := []) clX12 kd_87 rfl moX12_readProduct rfl mlX12_243 (by first | decide | omega) (by decide) (by simp [Value.category]) rfl dX12_readSum_46 (SX12_readProduct dE hD rE hE  M9 x1) (fun M11 => ?_)
  refine g_aload_n 1 rfl rfl dX12_readSum_49 ?_
  refine g_iload_n 0 rfl rfl dX12_readSum_50 ?_
  refine g_callVV (y := miX12_lay) (As := [.int s0]) (rest := []) clX12 kd_87 rfl moX12_lay rfl mlX12_227 (by first | decide | omega) (by decide) (by simp [Value.category]) rfl dX12_readSum_51 (SX12_lay  M11 s0) (fun M13 => ?_)
  refine g_goto (tgt := 5) rfl dX12_readSum_54 ?_
  exact GO.pick [1, 2] rfl <| hrec5 M13 x1
def fX12_readSum_b23 (rE : Mem → Int32 → RS) (rec5 : Mem → Int32 → RS) (M : Mem) (x1 : Int32) : RS := bI (fX12_isMarked M 43) (fun M7 v8 => if v8 = 0 then fX12_readSum_b39 rE rec5 M7 x1 (-21) else fX12_readSum_b39 rE rec5 M7 x1 (-20))
theorem SX12_readSum_b23 (dE : Nat) (hD : 10 ≤ dE) (rE : Mem → Int32 → RS) (hE : ∀ (M : Mem) (x1 : Int32), CTO dE miX12_readExpression 0 0 [.ref 87, .int x1] M (rE M x1)) (rec5 : Mem → Int32 → RS) (hrec5 : ∀ (M : Mem) (x1 : Int32), GO miX12_readSum (dE + 3) 0 0 0 0 5 [(0, .ref 87), (1, .int x1)] [] M (rec5 M x1)) (M : Mem) (x1 : Int32) : GO miX12_readSum (dE + 3) 0 0 0 0 23 [(0, .ref 87), (1, .int x1)] [] M (fX12_readSum_b23 rE rec5 M x1) := by
  show GO miX12_readSum (dE + 3) 0 0 0 0 23 [(0, .ref 87), (1, .int x1)] [] M (bI (fX12_isMarked M 43) (fun M7 v8 => if v8 = 0 then fX12_readSum_b39 rE rec5 M7 x1 (-21) else fX12_readSum_b39 rE rec5 M7 x1 (-20)))
  refine g_aload_n 0 rfl rfl dX12_readSum_23 ?_
  refine g_bipush (v := 43) (by decide) dX12_readSum_24 ?_
  refine g_callVI (y := miX12_isMarked) (As := [.int 43]) (rest := []) clX12 kd_87 rfl moX12_isMarked rfl mlX12_207 (by first | decide | omega) (by decide) (by simp [Value.category]) rfl dX12_readSum_26 (SX12_isMarked  M 43) (fun M7 v8 => ?_)
  refine g_if_eq (tgt := 37) rfl dX12_readSum_29 (fun c => ?_) (fun c => ?_)
  · refine g_bipush (v := (-21)) (by decide) dX12_readSum_37 ?_
    exact GO.pick [0, 1] rfl <| SX12_readSum_b39 dE hD rE hE  rec5 hrec5 M7 x1 (-21)
  · refine g_bipush (v := (-20)) (by decide) dX12_readSum_32 ?_
    refine g_goto (tgt := 39) rfl dX12_readSum_34 ?_
    exact GO.pick [0, 1] rfl <| SX12_readSum_b39 dE hD rE hE  rec5 hrec5 M7 x1 (-20)
def fX12_readSum_b5 (rE : Mem → Int32 → RS) : Nat → Mem → Int32 → RS
  | 0 => fun _ _ => none
  | n + 1 => fun M x1 => bI (fX12_isMarked M 43) (fun M3 v4 => if v4 = 0 then bI (fX12_isMarked M3 45) (fun M5 v6 => if v6 = 0 then some (M5, .inr none) else fX12_readSum_b23 rE (fX12_readSum_b5 rE n) M5 x1) else fX12_readSum_b23 rE (fX12_readSum_b5 rE n) M3 x1)
theorem SX12_readSum_b5 (dE : Nat) (hD : 10 ≤ dE) (rE : Mem → Int32 → RS) (hE : ∀ (M : Mem) (x1 : Int32), CTO dE miX12_readExpression 0 0 [.ref 87, .int x1] M (rE M x1)) (n : Nat) : ∀ (M : Mem) (x1 : Int32), GO miX12_readSum (dE + 3) 0 0 0 0 5 [(0, .ref 87), (1, .int x1)] [] M (fX12_readSum_b5 rE n M x1) := by
  induction n with
  | zero => intro M x1 ; exact GO.none
  | succ n hrec5 =>
    intro M x1 
    show GO miX12_readSum (dE + 3) 0 0 0 0 5 [(0, .ref 87), (1, .int x1)] [] M (bI (fX12_isMarked M 43) (fun M3 v4 => if v4 = 0 then bI (fX12_isMarked M3 45) (fun M5 v6 => if v6 = 0 then some (M5, .inr none) else fX12_readSum_b23 rE (fX12_readSum_b5 rE n) M5 x1) else fX12_readSum_b23 rE (fX12_readSum_b5 rE n) M3 x1))
    refine g_aload_n 0 rfl rfl dX12_readSum_5 ?_
    refine g_bipush (v := 43) (by decide) dX12_readSum_6 ?_
    refine g_callVI (y := miX12_isMarked) (As := [.int 43]) (rest := []) clX12 kd_87 rfl moX12_isMarked rfl mlX12_207 (by first | decide | omega) (by decide) (by simp [Value.category]) rfl dX12_readSum_8 (SX12_isMarked  M 43) (fun M3 v4 => ?_)
    refine g_if_ne (tgt := 23) rfl dX12_readSum_11 (fun c => ?_) (fun c => ?_)
    · exact GO.pick [0, 1] rfl <| SX12_readSum_b23 dE hD rE hE  (fX12_readSum_b5 rE n) hrec5 M3 x1
    · refine g_aload_n 0 rfl rfl dX12_readSum_14 ?_
      refine g_bipush (v := 45) (by decide) dX12_readSum_15 ?_
      refine g_callVI (y := miX12_isMarked) (As := [.int 45]) (rest := []) clX12 kd_87 rfl moX12_isMarked rfl mlX12_207 (by first | decide | omega) (by decide) (by simp [Value.category]) rfl dX12_readSum_17 (SX12_isMarked  M3 45) (fun M5 v6 => ?_)
      refine g_if_eq (tgt := 57) rfl dX12_readSum_20 (fun c => ?_) (fun c => ?_)
      · exact g_vreturn rfl (by decide) (by decide) dX12_readSum_57
      · exact GO.pick [0, 1] rfl <| SX12_readSum_b23 dE hD rE hE  (fX12_readSum_b5 rE n) hrec5 M5 x1
def fX12_readSum (rE : Mem → Int32 → RS) (M : Mem) (x1 : Int32) : RS := bV (fX12_readProduct rE M x1) (fun M1 => fX12_readSum_b5 rE  FU M1 x1)
theorem SX12_readSum (dE : Nat) (hD : 10 ≤ dE) (rE : Mem → Int32 → RS) (hE : ∀ (M : Mem) (x1 : Int32), CTO dE miX12_readExpression 0 0 [.ref 87, .int x1] M (rE M x1)) (M : Mem) (x1 : Int32) : CTO (dE + 3) miX12_readSum 0 0 [.ref 87, .int x1] M (fX12_readSum rE  M x1) := by
  refine CTO.of (by decide) (by simp [lg_sl, Value.category]) ?_
  show GO miX12_readSum (dE + 3) 0 0 0 0 0 [(0, .ref 87), (1, .int x1)] [] M (bV (fX12_readProduct rE M x1) (fun M1 => fX12_readSum_b5 rE  FU M1 x1))
  refine g_aload_n 0 rfl rfl dX12_readSum_0 ?_
  refine g_iload_n 1 rfl rfl dX12_readSum_1 ?_
  refine g_callVV (y := miX12_readProduct) (As := [.int x1]) (rest := []) clX12 kd_87 rfl moX12_readProduct rfl mlX12_243 (by first | decide | omega) (by decide) (by simp [Value.category]) rfl dX12_readSum_2 (SX12_readProduct dE hD rE hE  M x1) (fun M1 => ?_)
  exact GO.pick [0, 1] rfl <| SX12_readSum_b5 dE hD rE hE  FU M1 x1
def fX12_readNot_b22 (rE : Mem → Int32 → RS) (rec2 : Mem → Int32 → Int32 → RS) (M : Mem) (x1 : Int32) (x2 : Int32) : RS := if (gi M 87 23) = 0 then bV (fX12_stepOn M) (fun M13 => rec2 M13 x1 (x2 + 1)) else rec2 M x1 (x2 + 1)
theorem SX12_readNot_b22 (dE : Nat) (hD : 10 ≤ dE) (rE : Mem → Int32 → RS) (hE : ∀ (M : Mem) (x1 : Int32), CTO dE miX12_readExpression 0 0 [.ref 87, .int x1] M (rE M x1)) (rec2 : Mem → Int32 → Int32 → RS) (hrec2 : ∀ (M : Mem) (x1 : Int32) (x2 : Int32), GO miX12_readNot (dE + 4) 0 0 0 0 2 [(0, .ref 87), (1, .int x1), (2, .int x2)] [] M (rec2 M x1 x2)) (M : Mem) (x1 : Int32) (x2 : Int32) : GO miX12_readNot (dE + 4) 0 0 0 0 22 [(0, .ref 87), (1, .int x1), (2, .int x2)] [] M (fX12_readNot_b22 rE rec2 M x1 x2) := by
  show GO miX12_readNot (dE + 4) 0 0 0 0 22 [(0, .ref 87), (1, .int x1), (2, .int x2)] [] M (if (gi M 87 23) = 0 then bV (fX12_stepOn M) (fun M13 => rec2 M13 x1 (x2 + 1)) else rec2 M x1 (x2 + 1))
  refine g_iinc (v := x2 + 1) (L' := [(2, .int (x2 + 1)), (0, .ref 87), (1, .int x1)]) 2 rfl rfl (by decide) rfl dX12_readNot_22 ?_
  refine g_aload_n 1 rfl rfl dX12_readNot_25 ?_
  refine g_getI (k := 23) clX12 kd_87 (by decide) rfl flX12_189 dX12_readNot_26 ?_
  refine g_if_ne (tgt := 2) rfl dX12_readNot_29 (fun c => ?_) (fun c => ?_)
  · exact GO.pick [1, 2, 0] rfl <| hrec2 M x1 (x2 + 1)
  · refine g_aload_n 1 rfl rfl dX12_readNot_32 ?_
    refine g_callVV (y := miX12_stepOn) (As := []) (rest := []) clX12 kd_87 rfl moX12_stepOn rfl mlX12_214 (by first | decide | omega) (by decide) (by simp [Value.category]) rfl dX12_readNot_33 (SX12_stepOn  M) (fun M13 => ?_)
    refine g_goto (tgt := 2) rfl dX12_readNot_36 ?_
    exact GO.pick [1, 2, 0] rfl <| hrec2 M13 x1 (x2 + 1)
def fX12_readNot_b95 (rE : Mem → Int32 → RS) : Nat → Mem → Int32 → Int32 → RS
  | 0 => fun _ _ _ => none
  | n + 1 => fun M x2 x3 => if x3 < x2 then bV (fX12_lay M (-28)) (fun M21 => (fX12_readNot_b95 rE n) M21 x2 (x3 + 1)) else some (M, .inr none)
theorem SX12_readNot_b95 (dE : Nat) (hD : 10 ≤ dE) (rE : Mem → Int32 → RS) (hE : ∀ (M : Mem) (x1 : Int32), CTO dE miX12_readExpression 0 0 [.ref 87, .int x1] M (rE M x1)) (n : Nat) : ∀ (M : Mem) (x2 : Int32) (x3 : Int32), GO miX12_readNot (dE + 4) 0 0 0 0 95 [(0, .ref 87), (2, .int x2), (3, .int x3)] [] M (fX12_readNot_b95 rE n M x2 x3) := by
  induction n with
  | zero => intro M x2 x3 ; exact GO.none
  | succ n hrec95 =>
    intro M x2 x3 
    show GO miX12_readNot (dE + 4) 0 0 0 0 95 [(0, .ref 87), (2, .int x2), (3, .int x3)] [] M (if x3 < x2 then bV (fX12_lay M (-28)) (fun M21 => (fX12_readNot_b95 rE n) M21 x2 (x3 + 1)) else some (M, .inr none))
    refine g_iload_n 2 rfl rfl dX12_readNot_95 ?_
    refine g_iload_n 1 rfl rfl dX12_readNot_96 ?_
    refine g_icmp_ge (tgt := 112) rfl dX12_readNot_97 (fun c => ?_) (fun c => ?_)
    · exact g_vreturn rfl (by decide) (by decide) dX12_readNot_112
    · refine g_aload_n 0 rfl rfl dX12_readNot_100 ?_
      refine g_bipush (v := (-28)) (by decide) dX12_readNot_101 ?_
      refine g_callVV (y := miX12_lay) (As := [.int (-28)]) (rest := []) clX12 kd_87 rfl moX12_lay rfl mlX12_227 (by first | decide | omega) (by decide) (by simp [Value.category]) rfl dX12_readNot_103 (SX12_lay  M (-28)) (fun M21 => ?_)
      refine g_iinc (v := x3 + 1) (L' := [(3, .int (x3 + 1)), (0, .ref 87), (2, .int x2)]) 2 rfl rfl (by decide) rfl dX12_readNot_106 ?_
      refine g_goto (tgt := 95) rfl dX12_readNot_109 ?_
      exact GO.pick [1, 2, 0] rfl <| hrec95 M21 x2 (x3 + 1)
def fX12_readNot_b93 (rE : Mem → Int32 → RS) (M : Mem) (x2 : Int32) : RS := fX12_readNot_b95 rE  FU M x2 0
theorem SX12_readNot_b93 (dE : Nat) (hD : 10 ≤ dE) (rE : Mem → Int32 → RS) (hE : ∀ (M : Mem) (x1 : Int32), CTO dE miX12_readExpression 0 0 [.ref 87, .int x1] M (rE M x1)) (M : Mem) (x2 : Int32) : GO miX12_readNot (dE + 4) 0 0 0 0 93 [(0, .ref 87), (2, .int x2)] [] M (fX12_readNot_b93 rE M x2) := by
  show GO miX12_readNot (dE + 4) 0 0 0 0 93 [(0, .ref 87), (2, .int x2)] [] M (fX12_readNot_b95 rE  FU M x2 0)
  refine g_iconst (v := 0) (by decide) dX12_readNot_93 ?_
  refine g_istore_n (L' := [(3, .int 0), (0, .ref 87), (2, .int x2)]) (by decide) rfl rfl dX12_readNot_94 ?_
  exact GO.pick [1, 2, 0] rfl <| SX12_readNot_b95 dE hD rE hE  FU M x2 0
def fX12_readNot_b78 (rE : Mem → Int32 → RS) (M : Mem) (x1 : Int32) (x2 : Int32) (s0 : Int32) : RS := bV (fX12_stepOn M) (fun M15 => bV (fX12_readSum rE M15 x1) (fun M17 => bV (fX12_lay M17 s0) (fun M19 => fX12_readNot_b93 rE  M19 x2)))
theorem SX12_readNot_b78 (dE : Nat) (hD : 10 ≤ dE) (rE : Mem → Int32 → RS) (hE : ∀ (M : Mem) (x1 : Int32), CTO dE miX12_readExpression 0 0 [.ref 87, .int x1] M (rE M x1)) (M : Mem) (x1 : Int32) (x2 : Int32) (s0 : Int32) : GO miX12_readNot (dE + 4) 0 0 0 0 78 [(0, .ref 87), (1, .int x1), (2, .int x2)] [.int s0] M (fX12_readNot_b78 rE M x1 x2 s0) := by
  show GO miX12_readNot (dE + 4) 0 0 0 0 78 [(0, .ref 87), (1, .int x1), (2, .int x2)] [.int s0] M (bV (fX12_stepOn M) (fun M15 => bV (fX12_readSum rE M15 x1) (fun M17 => bV (fX12_lay M17 s0) (fun M19 => fX12_readNot_b93 rE  M19 x2))))
  refine g_istore_n (L' := [(3, .int s0), (0, .ref 87), (1, .int x1), (2, .int x2)]) (by decide) rfl rfl dX12_readNot_78 ?_
  refine g_aload_n 1 rfl rfl dX12_readNot_79 ?_
  refine g_callVV (y := miX12_stepOn) (As := []) (rest := []) clX12 kd_87 rfl moX12_stepOn rfl mlX12_214 (by first | decide | omega) (by decide) (by simp [Value.category]) rfl dX12_readNot_80 (SX12_stepOn  M) (fun M15 => ?_)
  refine g_aload_n 1 rfl rfl dX12_readNot_83 ?_
  refine g_iload_n 2 rfl rfl dX12_readNot_84 ?_
  refine g_callVV (y := miX12_readSum) (As := [.int x1]) (rest := []) clX12 kd_87 rfl moX12_readSum rfl mlX12_248 (by first | decide | omega) (by decide) (by simp [Value.category]) rfl dX12_readNot_85 (SX12_readSum dE hD rE hE  M15 x1) (fun M17 => ?_)
  refine g_aload_n 1 rfl rfl dX12_readNot_88 ?_
  refine g_iload_n 0 rfl rfl dX12_readNot_89 ?_
  refine g_callVV (y := miX12_lay) (As := [.int s0]) (rest := []) clX12 kd_87 rfl moX12_lay rfl mlX12_227 (by first | decide | omega) (by decide) (by simp [Value.category]) rfl dX12_readNot_90 (SX12_lay  M17 s0) (fun M19 => ?_)
  exact GO.pick [1, 3] rfl <| SX12_readNot_b93 dE hD rE hE  M19 x2
def fX12_readNot_b62 (rE : Mem → Int32 → RS) (M : Mem) (x1 : Int32) (x2 : Int32) : RS := bI (fX12_isMarked M 60) (fun M11 v12 => if v12 = 0 then fX12_readNot_b78 rE  M11 x1 x2 (-25) else fX12_readNot_b78 rE  M11 x1 x2 (-24))
theorem SX12_readNot_b62 (dE : Nat) (hD : 10 ≤ dE) (rE : Mem → Int32 → RS) (hE : ∀ (M : Mem) (x1 : Int32), CTO dE miX12_readExpression 0 0 [.ref 87, .int x1] M (rE M x1)) (M : Mem) (x1 : Int32) (x2 : Int32) : GO miX12_readNot (dE + 4) 0 0 0 0 62 [(0, .ref 87), (1, .int x1), (2, .int x2)] [] M (fX12_readNot_b62 rE M x1 x2) := by
  show GO miX12_readNot (dE + 4) 0 0 0 0 62 [(0, .ref 87), (1, .int x1), (2, .int x2)] [] M (bI (fX12_isMarked M 60) (fun M11 v12 => if v12 = 0 then fX12_readNot_b78 rE  M11 x1 x2 (-25) else fX12_readNot_b78 rE  M11 x1 x2 (-24)))
  refine g_aload_n 0 rfl rfl dX12_readNot_62 ?_
  refine g_bipush (v := 60) (by decide) dX12_readNot_63 ?_
  refine g_callVI (y := miX12_isMarked) (As := [.int 60]) (rest := []) clX12 kd_87 rfl moX12_isMarked rfl mlX12_207 (by first | decide | omega) (by decide) (by simp [Value.category]) rfl dX12_readNot_65 (SX12_isMarked  M 60) (fun M11 v12 => ?_)
  refine g_if_eq (tgt := 76) rfl dX12_readNot_68 (fun c => ?_) (fun c => ?_)
  · refine g_bipush (v := (-25)) (by decide) dX12_readNot_76 ?_
    exact GO.pick [0, 1, 2] rfl <| SX12_readNot_b78 dE hD rE hE  M11 x1 x2 (-25)
  · refine g_bipush (v := (-24)) (by decide) dX12_readNot_71 ?_
    refine g_goto (tgt := 78) rfl dX12_readNot_73 ?_
    exact GO.pick [0, 1, 2] rfl <| SX12_readNot_b78 dE hD rE hE  M11 x1 x2 (-24)
def fX12_readNot_b2 (rE : Mem → Int32 → RS) : Nat → Mem → Int32 → Int32 → RS
  | 0 => fun _ _ _ => none
  | n + 1 => fun M x1 x2 => bI (fX12_is 15 M) (fun M1 v2 => if v2 = 0 then bV (fX12_readSum rE M1 x1) (fun M3 => bI (fX12_isMarked M3 60) (fun M5 v6 => if v6 = 0 then bI (fX12_isMarked M5 61) (fun M7 v8 => if v8 = 0 then fX12_readNot_b93 rE  M7 x2 else fX12_readNot_b62 rE  M7 x1 x2) else fX12_readNot_b62 rE  M5 x1 x2)) else if x2 = 6 then bV (fX12_wrong M1 2) (fun M9 => fX12_readNot_b22 rE (fX12_readNot_b2 rE n) M9 x1 x2) else fX12_readNot_b22 rE (fX12_readNot_b2 rE n) M1 x1 x2)
theorem SX12_readNot_b2 (dE : Nat) (hD : 10 ≤ dE) (rE : Mem → Int32 → RS) (hE : ∀ (M : Mem) (x1 : Int32), CTO dE miX12_readExpression 0 0 [.ref 87, .int x1] M (rE M x1)) (n : Nat) : ∀ (M : Mem) (x1 : Int32) (x2 : Int32), GO miX12_readNot (dE + 4) 0 0 0 0 2 [(0, .ref 87), (1, .int x1), (2, .int x2)] [] M (fX12_readNot_b2 rE n M x1 x2) := by
  induction n with
  | zero => intro M x1 x2 ; exact GO.none
  | succ n hrec2 =>
    intro M x1 x2 
    show GO miX12_readNot (dE + 4) 0 0 0 0 2 [(0, .ref 87), (1, .int x1), (2, .int x2)] [] M (bI (fX12_is 15 M) (fun M1 v2 => if v2 = 0 then bV (fX12_readSum rE M1 x1) (fun M3 => bI (fX12_isMarked M3 60) (fun M5 v6 => if v6 = 0 then bI (fX12_isMarked M5 61) (fun M7 v8 => if v8 = 0 then fX12_readNot_b93 rE  M7 x2 else fX12_readNot_b62 rE  M7 x1 x2) else fX12_readNot_b62 rE  M5 x1 x2)) else if x2 = 6 then bV (fX12_wrong M1 2) (fun M9 => fX12_readNot_b22 rE (fX12_readNot_b2 rE n) M9 x1 x2) else fX12_readNot_b22 rE (fX12_readNot_b2 rE n) M1 x1 x2))
    refine g_aload_n 0 rfl rfl dX12_readNot_2 ?_
    refine g_ldcS (j := 15) (by decide) dX12_readNot_3 ?_
    refine g_callVI (y := miX12_is) (As := [.ref (1000 + 15)]) (rest := []) clX12 kd_87 rfl moX12_is rfl mlX12_203 (by first | decide | omega) (by decide) (by simp [Value.category]) rfl dX12_readNot_5 (SX12_is 15 (by decide) M) (fun M1 v2 => ?_)
    refine g_if_eq (tgt := 39) rfl dX12_readNot_8 (fun c => ?_) (fun c => ?_)
    · refine g_aload_n 0 rfl rfl dX12_readNot_39 ?_
      refine g_iload_n 1 rfl rfl dX12_readNot_40 ?_
      refine g_callVV (y := miX12_readSum) (As := [.int x1]) (rest := []) clX12 kd_87 rfl moX12_readSum rfl mlX12_248 (by first | decide | omega) (by decide) (by simp [Value.category]) rfl dX12_readNot_41 (SX12_readSum dE hD rE hE  M1 x1) (fun M3 => ?_)
      refine g_aload_n 0 rfl rfl dX12_readNot_44 ?_
      refine g_bipush (v := 60) (by decide) dX12_readNot_45 ?_
      refine g_callVI (y := miX12_isMarked) (As := [.int 60]) (rest := []) clX12 kd_87 rfl moX12_isMarked rfl mlX12_207 (by first | decide | omega) (by decide) (by simp [Value.category]) rfl dX12_readNot_47 (SX12_isMarked  M3 60) (fun M5 v6 => ?_)
      refine g_if_ne (tgt := 62) rfl dX12_readNot_50 (fun c => ?_) (fun c => ?_)
      · exact GO.pick [0, 1, 2] rfl <| SX12_readNot_b62 dE hD rE hE  M5 x1 x2
      · refine g_aload_n 0 rfl rfl dX12_readNot_53 ?_
        refine g_bipush (v := 61) (by decide) dX12_readNot_54 ?_
        refine g_callVI (y := miX12_isMarked) (As := [.int 61]) (rest := []) clX12 kd_87 rfl moX12_isMarked rfl mlX12_207 (by first | decide | omega) (by decide) (by simp [Value.category]) rfl dX12_readNot_56 (SX12_isMarked  M5 61) (fun M7 v8 => ?_)
        refine g_if_eq (tgt := 93) rfl dX12_readNot_59 (fun c => ?_) (fun c => ?_)
        · exact GO.pick [0, 2] rfl <| SX12_readNot_b93 dE hD rE hE  M7 x2
        · exact GO.pick [0, 1, 2] rfl <| SX12_readNot_b62 dE hD rE hE  M7 x1 x2
    · refine g_iload_n 2 rfl rfl dX12_readNot_11 ?_
      refine g_bipush (v := 6) (by decide) dX12_readNot_12 ?_
      refine g_icmp_ne (tgt := 22) rfl dX12_readNot_14 (fun c => ?_) (fun c => ?_)
      · exact GO.pick [0, 1, 2] rfl <| SX12_readNot_b22 dE hD rE hE  (fX12_readNot_b2 rE n) hrec2 M1 x1 x2
      · refine g_aload_n 0 rfl rfl dX12_readNot_17 ?_
        refine g_iconst (v := 2) (by decide) dX12_readNot_18 ?_
        refine g_callVV (y := miX12_wrong) (As := [.int 2]) (rest := []) clX12 kd_87 rfl moX12_wrong rfl mlX12_210 (by first | decide | omega) (by decide) (by simp [Value.category]) rfl dX12_readNot_19 (SX12_wrong  M1 2) (fun M9 => ?_)
        exact GO.pick [0, 1, 2] rfl <| SX12_readNot_b22 dE hD rE hE  (fX12_readNot_b2 rE n) hrec2 M9 x1 x2
def fX12_readNot (rE : Mem → Int32 → RS) (M : Mem) (x1 : Int32) : RS := fX12_readNot_b2 rE  FU M x1 0
theorem SX12_readNot (dE : Nat) (hD : 10 ≤ dE) (rE : Mem → Int32 → RS) (hE : ∀ (M : Mem) (x1 : Int32), CTO dE miX12_readExpression 0 0 [.ref 87, .int x1] M (rE M x1)) (M : Mem) (x1 : Int32) : CTO (dE + 4) miX12_readNot 0 0 [.ref 87, .int x1] M (fX12_readNot rE  M x1) := by
  refine CTO.of (by decide) (by simp [lg_sl, Value.category]) ?_
  show GO miX12_readNot (dE + 4) 0 0 0 0 0 [(0, .ref 87), (1, .int x1)] [] M (fX12_readNot_b2 rE  FU M x1 0)
  refine g_iconst (v := 0) (by decide) dX12_readNot_0 ?_
  refine g_istore_n (L' := [(2, .int 0), (0, .ref 87), (1, .int x1)]) (by decide) rfl rfl dX12_readNot_1 ?_
  exact GO.pick [1, 2, 0] rfl <| SX12_readNot_b2 dE hD rE hE  FU M x1 0
def fX12_readAnd_b5 (rE : Mem → Int32 → RS) : Nat → Mem → Int32 → RS
  | 0 => fun _ _ => none
  | n + 1 => fun M x1 => bI (fX12_is 14 M) (fun M3 v4 => if v4 = 0 then some (M3, .inr none) else bV (fX12_stepOn M3) (fun M5 => bV (fX12_readNot rE M5 x1) (fun M7 => bV (fX12_lay M7 (-26)) (fun M9 => (fX12_readAnd_b5 rE n) M9 x1))))
theorem SX12_readAnd_b5 (dE : Nat) (hD : 10 ≤ dE) (rE : Mem → Int32 → RS) (hE : ∀ (M : Mem) (x1 : Int32), CTO dE miX12_readExpression 0 0 [.ref 87, .int x1] M (rE M x1)) (n : Nat) : ∀ (M : Mem) (x1 : Int32), GO miX12_readAnd (dE + 5) 0 0 0 0 5 [(0, .ref 87), (1, .int x1)] [] M (fX12_readAnd_b5 rE n M x1) := by
  induction n with
  | zero => intro M x1 ; exact GO.none
  | succ n hrec5 =>
    intro M x1 
    show GO miX12_readAnd (dE + 5) 0 0 0 0 5 [(0, .ref 87), (1, .int x1)] [] M (bI (fX12_is 14 M) (fun M3 v4 => if v4 = 0 then some (M3, .inr none) else bV (fX12_stepOn M3) (fun M5 => bV (fX12_readNot rE M5 x1) (fun M7 => bV (fX12_lay M7 (-26)) (fun M9 => (fX12_readAnd_b5 rE n) M9 x1)))))
    refine g_aload_n 0 rfl rfl dX12_readAnd_5 ?_
    refine g_ldcS (j := 14) (by decide) dX12_readAnd_6 ?_
    refine g_callVI (y := miX12_is) (As := [.ref (1000 + 14)]) (rest := []) clX12 kd_87 rfl moX12_is rfl mlX12_203 (by first | decide | omega) (by decide) (by simp [Value.category]) rfl dX12_readAnd_8 (SX12_is 14 (by decide) M) (fun M3 v4 => ?_)
    refine g_if_eq (tgt := 32) rfl dX12_readAnd_11 (fun c => ?_) (fun c => ?_)
    · exact g_vreturn rfl (by decide) (by decide) dX12_readAnd_32
    · refine g_aload_n 0 rfl rfl dX12_readAnd_14 ?_
      refine g_callVV (y := miX12_stepOn) (As := []) (rest := []) clX12 kd_87 rfl moX12_stepOn rfl mlX12_214 (by first | decide | omega) (by decide) (by simp [Value.category]) rfl dX12_readAnd_15 (SX12_stepOn  M3) (fun M5 => ?_)
      refine g_aload_n 0 rfl rfl dX12_readAnd_18 ?_
      refine g_iload_n 1 rfl rfl dX12_readAnd_19 ?_
      refine g_callVV (y := miX12_readNot) (As := [.int x1]) (rest := []) clX12 kd_87 rfl moX12_readNot rfl mlX12_251 (by first | decide | omega) (by decide) (by simp [Value.category]) rfl dX12_readAnd_20 (SX12_readNot dE hD rE hE  M5 x1) (fun M7 => ?_)
      refine g_aload_n 0 rfl rfl dX12_readAnd_23 ?_
      refine g_bipush (v := (-26)) (by decide) dX12_readAnd_24 ?_
      refine g_callVV (y := miX12_lay) (As := [.int (-26)]) (rest := []) clX12 kd_87 rfl moX12_lay rfl mlX12_227 (by first | decide | omega) (by decide) (by simp [Value.category]) rfl dX12_readAnd_26 (SX12_lay  M7 (-26)) (fun M9 => ?_)
      refine g_goto (tgt := 5) rfl dX12_readAnd_29 ?_
      exact GO.pick [0, 1] rfl <| hrec5 M9 x1
def fX12_readAnd (rE : Mem → Int32 → RS) (M : Mem) (x1 : Int32) : RS := bV (fX12_readNot rE M x1) (fun M1 => fX12_readAnd_b5 rE  FU M1 x1)
theorem SX12_readAnd (dE : Nat) (hD : 10 ≤ dE) (rE : Mem → Int32 → RS) (hE : ∀ (M : Mem) (x1 : Int32), CTO dE miX12_readExpression 0 0 [.ref 87, .int x1] M (rE M x1)) (M : Mem) (x1 : Int32) : CTO (dE + 5) miX12_readAnd 0 0 [.ref 87, .int x1] M (fX12_readAnd rE  M x1) := by
  refine CTO.of (by decide) (by simp [lg_sl, Value.category]) ?_
  show GO miX12_readAnd (dE + 5) 0 0 0 0 0 [(0, .ref 87), (1, .int x1)] [] M (bV (fX12_readNot rE M x1) (fun M1 => fX12_readAnd_b5 rE  FU M1 x1))
  refine g_aload_n 0 rfl rfl dX12_readAnd_0 ?_
  refine g_iload_n 1 rfl rfl dX12_readAnd_1 ?_
  refine g_callVV (y := miX12_readNot) (As := [.int x1]) (rest := []) clX12 kd_87 rfl moX12_readNot rfl mlX12_251 (by first | decide | omega) (by decide) (by simp [Value.category]) rfl dX12_readAnd_2 (SX12_readNot dE hD rE hE  M x1) (fun M1 => ?_)
  exact GO.pick [0, 1] rfl <| SX12_readAnd_b5 dE hD rE hE  FU M1 x1
def fX12_readExpression_b67 (rE : Mem → Int32 → RS) : Nat → Mem → Int32 → RS
  | 0 => fun _ _ => none
  | n + 1 => fun M x1 => bI (fX12_is 13 M) (fun M9 v10 => if v10 = 0 then some (M9, .inr none) else bV (fX12_stepOn M9) (fun M11 => bV (fX12_readAnd rE M11 x1) (fun M13 => bV (fX12_lay M13 (-27)) (fun M15 => (fX12_readExpression_b67 rE n) M15 x1))))
theorem SX12_readExpression_b67 (dE : Nat) (hD : 10 ≤ dE) (rE : Mem → Int32 → RS) (hE : ∀ (M : Mem) (x1 : Int32), CTO dE miX12_readExpression 0 0 [.ref 87, .int x1] M (rE M x1)) (n : Nat) : ∀ (M : Mem) (x1 : Int32), GO miX12_readExpression (dE + 6) 0 0 0 0 67 [(0, .ref 87), (1, .int x1)] [] M (fX12_readExpression_b67 rE n M x1) := by
  induction n with
  | zero => intro M x1 ; exact GO.none
  | succ n hrec67 =>
    intro M x1 
    show GO miX12_readExpression (dE + 6) 0 0 0 0 67 [(0, .ref 87), (1, .int x1)] [] M (bI (fX12_is 13 M) (fun M9 v10 => if v10 = 0 then some (M9, .inr none) else bV (fX12_stepOn M9) (fun M11 => bV (fX12_readAnd rE M11 x1) (fun M13 => bV (fX12_lay M13 (-27)) (fun M15 => (fX12_readExpression_b67 rE n) M15 x1)))))
    refine g_aload_n 0 rfl rfl dX12_readExpression_67 ?_
    refine g_ldcwS (j := 13) (by decide) dX12_readExpression_68 ?_
    refine g_callVI (y := miX12_is) (As := [.ref (1000 + 13)]) (rest := []) clX12 kd_87 rfl moX12_is rfl mlX12_203 (by first | decide | omega) (by decide) (by simp [Value.category]) rfl dX12_readExpression_71 (SX12_is 13 (by decide) M) (fun M9 v10 => ?_)
    refine g_if_eq (tgt := 95) rfl dX12_readExpression_74 (fun c => ?_) (fun c => ?_)
    · exact g_vreturn rfl (by decide) (by decide) dX12_readExpression_95
    · refine g_aload_n 0 rfl rfl dX12_readExpression_77 ?_
      refine g_callVV (y := miX12_stepOn) (As := []) (rest := []) clX12 kd_87 rfl moX12_stepOn rfl mlX12_214 (by first | decide | omega) (by decide) (by simp [Value.category]) rfl dX12_readExpression_78 (SX12_stepOn  M9) (fun M11 => ?_)
      refine g_aload_n 0 rfl rfl dX12_readExpression_81 ?_
      refine g_iload_n 1 rfl rfl dX12_readExpression_82 ?_
      refine g_callVV (y := miX12_readAnd) (As := [.int x1]) (rest := []) clX12 kd_87 rfl moX12_readAnd rfl mlX12_256 (by first | decide | omega) (by decide) (by simp [Value.category]) rfl dX12_readExpression_83 (SX12_readAnd dE hD rE hE  M11 x1) (fun M13 => ?_)
      refine g_aload_n 0 rfl rfl dX12_readExpression_86 ?_
      refine g_bipush (v := (-27)) (by decide) dX12_readExpression_87 ?_
      refine g_callVV (y := miX12_lay) (As := [.int (-27)]) (rest := []) clX12 kd_87 rfl moX12_lay rfl mlX12_227 (by first | decide | omega) (by decide) (by simp [Value.category]) rfl dX12_readExpression_89 (SX12_lay  M13 (-27)) (fun M15 => ?_)
      refine g_goto (tgt := 67) rfl dX12_readExpression_92 ?_
      exact GO.pick [0, 1] rfl <| hrec67 M15 x1
def fX12_readExpression_b62 (rE : Mem → Int32 → RS) (M : Mem) (x1 : Int32) : RS := bV (fX12_readAnd rE M x1) (fun M7 => fX12_readExpression_b67 rE  FU M7 x1)
theorem SX12_readExpression_b62 (dE : Nat) (hD : 10 ≤ dE) (rE : Mem → Int32 → RS) (hE : ∀ (M : Mem) (x1 : Int32), CTO dE miX12_readExpression 0 0 [.ref 87, .int x1] M (rE M x1)) (M : Mem) (x1 : Int32) : GO miX12_readExpression (dE + 6) 0 0 0 0 62 [(0, .ref 87), (1, .int x1)] [] M (fX12_readExpression_b62 rE M x1) := by
  show GO miX12_readExpression (dE + 6) 0 0 0 0 62 [(0, .ref 87), (1, .int x1)] [] M (bV (fX12_readAnd rE M x1) (fun M7 => fX12_readExpression_b67 rE  FU M7 x1))
  refine g_aload_n 0 rfl rfl dX12_readExpression_62 ?_
  refine g_iload_n 1 rfl rfl dX12_readExpression_63 ?_
  refine g_callVV (y := miX12_readAnd) (As := [.int x1]) (rest := []) clX12 kd_87 rfl moX12_readAnd rfl mlX12_256 (by first | decide | omega) (by decide) (by simp [Value.category]) rfl dX12_readExpression_64 (SX12_readAnd dE hD rE hE  M x1) (fun M7 => ?_)
  exact GO.pick [0, 1] rfl <| SX12_readExpression_b67 dE hD rE hE  FU M7 x1
def fX12_readExpression_b38 (rE : Mem → Int32 → RS) (M : Mem) (x1 : Int32) (s0 : Int32) : RS := if s0 = 0 then bV (fX12_wrong M 1) (fun M5 => fX12_readExpression_b62 rE  M5 x1) else if x1 = 6 then bV (fX12_wrong M 2) (fun M3 => fX12_readExpression_b62 rE  M3 x1) else fX12_readExpression_b62 rE  M x1
theorem SX12_readExpression_b38 (dE : Nat) (hD : 10 ≤ dE) (rE : Mem → Int32 → RS) (hE : ∀ (M : Mem) (x1 : Int32), CTO dE miX12_readExpression 0 0 [.ref 87, .int x1] M (rE M x1)) (M : Mem) (x1 : Int32) (s0 : Int32) : GO miX12_readExpression (dE + 6) 0 0 0 0 38 [(0, .ref 87), (1, .int x1)] [.int s0] M (fX12_readExpression_b38 rE M x1 s0) := by
  show GO miX12_readExpression (dE + 6) 0 0 0 0 38 [(0, .ref 87), (1, .int x1)] [.int s0] M (if s0 = 0 then bV (fX12_wrong M 1) (fun M5 => fX12_readExpression_b62 rE  M5 x1) else if x1 = 6 then bV (fX12_wrong M 2) (fun M3 => fX12_readExpression_b62 rE  M3 x1) else fX12_readExpression_b62 rE  M x1)
  refine g_istore_n (L' := [(2, .int s0), (0, .ref 87), (1, .int x1)]) (by decide) rfl rfl dX12_readExpression_38 ?_
  refine g_iload_n 0 rfl rfl dX12_readExpression_39 ?_
  refine g_if_ne (tgt := 51) rfl dX12_readExpression_40 (fun c => ?_) (fun c => ?_)
  · refine g_iload_n 2 rfl rfl dX12_readExpression_51 ?_
    refine g_bipush (v := 6) (by decide) dX12_readExpression_52 ?_
    refine g_icmp_ne (tgt := 62) rfl dX12_readExpression_54 (fun c => ?_) (fun c => ?_)
    · exact GO.pick [1, 2] rfl <| SX12_readExpression_b62 dE hD rE hE  M x1
    · refine g_aload_n 1 rfl rfl dX12_readExpression_57 ?_
      refine g_iconst (v := 2) (by decide) dX12_readExpression_58 ?_
      refine g_callVV (y := miX12_wrong) (As := [.int 2]) (rest := []) clX12 kd_87 rfl moX12_wrong rfl mlX12_210 (by first | decide | omega) (by decide) (by simp [Value.category]) rfl dX12_readExpression_59 (SX12_wrong  M 2) (fun M3 => ?_)
      exact GO.pick [1, 2] rfl <| SX12_readExpression_b62 dE hD rE hE  M3 x1
  · refine g_aload_n 1 rfl rfl dX12_readExpression_43 ?_
    refine g_iconst (v := 1) (by decide) dX12_readExpression_44 ?_
    refine g_callVV (y := miX12_wrong) (As := [.int 1]) (rest := []) clX12 kd_87 rfl moX12_wrong rfl mlX12_210 (by first | decide | omega) (by decide) (by simp [Value.category]) rfl dX12_readExpression_45 (SX12_wrong  M 1) (fun M5 => ?_)
    refine g_goto (tgt := 62) rfl dX12_readExpression_48 ?_
    exact GO.pick [1, 2] rfl <| SX12_readExpression_b62 dE hD rE hE  M5 x1
def fX12_readExpression_b33 (rE : Mem → Int32 → RS) (M : Mem) (x1 : Int32) : RS := fX12_readExpression_b38 rE  M x1 1
theorem SX12_readExpression_b33 (dE : Nat) (hD : 10 ≤ dE) (rE : Mem → Int32 → RS) (hE : ∀ (M : Mem) (x1 : Int32), CTO dE miX12_readExpression 0 0 [.ref 87, .int x1] M (rE M x1)) (M : Mem) (x1 : Int32) : GO miX12_readExpression (dE + 6) 0 0 0 0 33 [(0, .ref 87), (1, .int x1)] [] M (fX12_readExpression_b33 rE M x1) := by
  show GO miX12_readExpression (dE + 6) 0 0 0 0 33 [(0, .ref 87), (1, .int x1)] [] M (fX12_readExpression_b38 rE  M x1 1)
  refine g_iconst (v := 1) (by decide) dX12_readExpression_33 ?_
  refine g_goto (tgt := 38) rfl dX12_readExpression_34 ?_
  exact GO.pick [0, 1] rfl <| SX12_readExpression_b38 dE hD rE hE  M x1 1
def fX12_readExpressionF (rE : Mem → Int32 → RS) (M : Mem) (x1 : Int32) : RS := if (gi M 87 23) = 0 then if (gi M 87 19) = 2 then fX12_readExpression_b33 rE  M x1 else if (gi M 87 19) = 1 then fX12_readExpression_b33 rE  M x1 else bI (fX12_isMarked M 40) (fun M1 v2 => if v2 = 0 then fX12_readExpression_b38 rE  M1 x1 0 else fX12_readExpression_b33 rE  M1 x1) else some (M, .inr none)
theorem SX12_readExpressionF (dE : Nat) (hD : 10 ≤ dE) (rE : Mem → Int32 → RS) (hE : ∀ (M : Mem) (x1 : Int32), CTO dE miX12_readExpression 0 0 [.ref 87, .int x1] M (rE M x1)) (M : Mem) (x1 : Int32) : CTO (dE + 6) miX12_readExpression 0 0 [.ref 87, .int x1] M (fX12_readExpressionF rE  M x1) := by
  refine CTO.of (by decide) (by simp [lg_sl, Value.category]) ?_
  show GO miX12_readExpression (dE + 6) 0 0 0 0 0 [(0, .ref 87), (1, .int x1)] [] M (if (gi M 87 23) = 0 then if (gi M 87 19) = 2 then fX12_readExpression_b33 rE  M x1 else if (gi M 87 19) = 1 then fX12_readExpression_b33 rE  M x1 else bI (fX12_isMarked M 40) (fun M1 v2 => if v2 = 0 then fX12_readExpression_b38 rE  M1 x1 0 else fX12_readExpression_b33 rE  M1 x1) else some (M, .inr none))
  refine g_aload_n 0 rfl rfl dX12_readExpression_0 ?_
  refine g_getI (k := 23) clX12 kd_87 (by decide) rfl flX12_189 dX12_readExpression_1 ?_
  refine g_if_eq (tgt := 8) rfl dX12_readExpression_4 (fun c => ?_) (fun c => ?_)
  · refine g_aload_n 0 rfl rfl dX12_readExpression_8 ?_
    refine g_getI (k := 19) clX12 kd_87 (by decide) rfl flX12_163 dX12_readExpression_9 ?_
    refine g_iconst (v := 2) (by decide) dX12_readExpression_12 ?_
    refine g_icmp_eq (tgt := 33) rfl dX12_readExpression_13 (fun c => ?_) (fun c => ?_)
    · exact GO.pick [0, 1] rfl <| SX12_readExpression_b33 dE hD rE hE  M x1
    · refine g_aload_n 0 rfl rfl dX12_readExpression_16 ?_
      refine g_getI (k := 19) clX12 kd_87 (by decide) rfl flX12_163 dX12_readExpression_17 ?_
      refine g_iconst (v := 1) (by decide) dX12_readExpression_20 ?_
      refine g_icmp_eq (tgt := 33) rfl dX12_readExpression_21 (fun c => ?_) (fun c => ?_)
      · exact GO.pick [0, 1] rfl <| SX12_readExpression_b33 dE hD rE hE  M x1
      · refine g_aload_n 0 rfl rfl dX12_readExpression_24 ?_
        refine g_bipush (v := 40) (by decide) dX12_readExpression_25 ?_
        refine g_callVI (y := miX12_isMarked) (As := [.int 40]) (rest := []) clX12 kd_87 rfl moX12_isMarked rfl mlX12_207 (by first | decide | omega) (by decide) (by simp [Value.category]) rfl dX12_readExpression_27 (SX12_isMarked  M 40) (fun M1 v2 => ?_)
        refine g_if_eq (tgt := 37) rfl dX12_readExpression_30 (fun c => ?_) (fun c => ?_)
        · refine g_iconst (v := 0) (by decide) dX12_readExpression_37 ?_
          exact GO.pick [0, 1] rfl <| SX12_readExpression_b38 dE hD rE hE  M1 x1 0
        · exact GO.pick [0, 1] rfl <| SX12_readExpression_b33 dE hD rE hE  M1 x1
  · exact g_vreturn rfl (by decide) (by decide) dX12_readExpression_7
def fX12_readExpression : Nat → Mem → Int32 → RS
  | 0 => fun _ _ => none
  | n + 1 => fun M x1 => fX12_readExpressionF (fX12_readExpression n) M x1
theorem SX12_readExpression (n : Nat) : ∀ (M : Mem) (x1 : Int32), CTO (10 + 6 * n) miX12_readExpression 0 0 [.ref 87, .int x1] M (fX12_readExpression n M x1) := by
  induction n with
  | zero => intro M x1 M1 r e; cases e
  | succ n ih =>
    intro M x1
    exact SX12_readExpressionF (10 + 6 * n) (by omega) (fX12_readExpression n) ih M x1

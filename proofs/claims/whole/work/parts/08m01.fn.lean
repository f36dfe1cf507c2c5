def fX12_another_b18 (M : Mem)  : RS := if (gi M 87 23) = 0 then bV (fX12_stepOn M) (fun M4 => some (M4, .inr (some (.int 1)))) else some (M, .inr (some (.int 0)))
theorem SX12_another_b18 (M : Mem)  : GO miX12_another (2) 0 0 0 0 18 [(0, .ref 87)] [] M (fX12_another_b18 M ) := by
  show GO miX12_another (2) 0 0 0 0 18 [(0, .ref 87)] [] M (if (gi M 87 23) = 0 then bV (fX12_stepOn M) (fun M4 => some (M4, .inr (some (.int 1)))) else some (M, .inr (some (.int 0))))
  refine g_aload_n 0 rfl rfl dX12_another_18 ?_
  refine g_getI (k := 23) clX12 kd_87 (by decide) rfl flX12_189 dX12_another_19 ?_
  refine g_if_eq (tgt := 27) rfl dX12_another_22 (fun c => ?_) (fun c => ?_)
  · refine g_aload_n 0 rfl rfl dX12_another_27 ?_
    refine g_callVV (y := miX12_stepOn) (As := []) (rest := []) clX12 kd_87 rfl moX12_stepOn rfl mlX12_214 (by first | decide | omega) (by decide) (by simp [Value.category]) rfl dX12_another_28 (SX12_stepOn  M) (fun M4 => ?_)
    refine g_iconst (v := 1) (by decide) dX12_another_31 ?_
    exact g_zreturn rfl (by decide) (by decide) dX12_another_32 (by decide)
  · refine g_iconst (v := 0) (by decide) dX12_another_25 ?_
    exact g_zreturn rfl (by decide) (by decide) dX12_another_26 (by decide)
def fX12_another (M : Mem) (x1 : Int32) (x2 : Int32) : RS := chk (inb (8 + x1) 16) (if (gi M 90 (ix (8 + x1))) = x2 then bV (fX12_wrong M 2) (fun M2 => fX12_another_b18  M2) else fX12_another_b18  M)
theorem SX12_another (M : Mem) (x1 : Int32) (x2 : Int32) : CTO (2) miX12_another 0 0 [.ref 87, .int x1, .int x2] M (fX12_another  M x1 x2) := by
  refine CTO.of (by decide) (by simp [lg_sl, Value.category]) ?_
  show GO miX12_another (2) 0 0 0 0 0 [(0, .ref 87), (1, .int x1), (2, .int x2)] [] M (chk (inb (8 + x1) 16) (if (gi M 90 (ix (8 + x1))) = x2 then bV (fX12_wrong M 2) (fun M2 => fX12_another_b18  M2) else fX12_another_b18  M))
  refine g_aload_n 0 rfl rfl dX12_another_0 ?_
  refine g_getR (k := 4) (b := 90) clX12 kd_87 (by decide) rfl rfl flX12_35 dX12_another_1 ?_
  refine g_bipush (v := 8) (by decide) dX12_another_4 ?_
  refine g_iload_n 1 rfl rfl dX12_another_6 ?_
  refine g_iadd dX12_another_7 ?_
  refine g_ald kd_90 dX12_another_8 (fun hi1 => ?_)
  refine g_iload_n 2 rfl rfl dX12_another_9 ?_
  refine g_icmp_ne (tgt := 18) rfl dX12_another_10 (fun c => ?_) (fun c => ?_)
  · exact GO.pick [0] rfl <| SX12_another_b18  M
  · refine g_aload_n 0 rfl rfl dX12_another_13 ?_
    refine g_iconst (v := 2) (by decide) dX12_another_14 ?_
    refine g_callVV (y := miX12_wrong) (As := [.int 2]) (rest := []) clX12 kd_87 rfl moX12_wrong rfl mlX12_210 (by first | decide | omega) (by decide) (by simp [Value.category]) rfl dX12_another_15 (SX12_wrong  M 2) (fun M2 => ?_)
    exact GO.pick [0] rfl <| SX12_another_b18  M2
def fX12_sayHouse (M : Mem)  : RS := bI (fX12_another M 0 8) (fun M1 v2 => if v2 = 0 then some (M1, .inr none) else bI (fX12_readNumber M1 0 9) (fun M3 v4 => chk (inb (8 + (gi M1 90 8)) 16) (wr (si M3 91 (ix (8 + (gi M1 90 8))) v4) (fun M6 => bI (fX12_readNumber M6 0 9) (fun M7 v8 => chk (inb (8 + (gi M1 90 8)) 16) (wr (si M7 92 (ix (8 + (gi M1 90 8))) v8) (fun M10 => bI (fX12_readNumber M10 0 2) (fun M11 v12 => chk (inb (8 + (gi M1 90 8)) 16) (wr (si M11 93 (ix (8 + (gi M1 90 8))) v12) (fun M14 => wr (si M14 90 8 ((gi M14 90 8) + 1)) (fun M15 => some (M15, .inr none))))))))))))
theorem SX12_sayHouse (M : Mem)  : CTO (3) miX12_sayHouse 0 0 [.ref 87] M (fX12_sayHouse  M ) := by
  refine CTO.of (by decide) (by simp [lg_sl, Value.category]) ?_
  show GO miX12_sayHouse (3) 0 0 0 0 0 [(0, .ref 87)] [] M (bI (fX12_another M 0 8) (fun M1 v2 => if v2 = 0 then some (M1, .inr none) else bI (fX12_readNumber M1 0 9) (fun M3 v4 => chk (inb (8 + (gi M1 90 8)) 16) (wr (si M3 91 (ix (8 + (gi M1 90 8))) v4) (fun M6 => bI (fX12_readNumber M6 0 9) (fun M7 v8 => chk (inb (8 + (gi M1 90 8)) 16) (wr (si M7 92 (ix (8 + (gi M1 90 8))) v8) (fun M10 => bI (fX12_readNumber M10 0 2) (fun M11 v12 => chk (inb (8 + (gi M1 90 8)) 16) (wr (si M11 93 (ix (8 + (gi M1 90 8))) v12) (fun M14 => wr (si M14 90 8 ((gi M14 90 8) + 1)) (fun M15 => some (M15, .inr none)))))))))))))
  refine g_aload_n 0 rfl rfl dX12_sayHouse_0 ?_
  refine g_iconst (v := 0) (by decide) dX12_sayHouse_1 ?_
  refine g_bipush (v := 8) (by decide) dX12_sayHouse_2 ?_
  refine g_callVI (y := miX12_another) (As := [.int 0, .int 8]) (rest := []) clX12 kd_87 rfl moX12_another rfl mlX12_261 (by first | decide | omega) (by decide) (by simp [Value.category]) rfl dX12_sayHouse_4 (SX12_another  M 0 8) (fun M1 v2 => ?_)
  refine g_if_ne (tgt := 11) rfl dX12_sayHouse_7 (fun c => ?_) (fun c => ?_)
  · refine g_bipush (v := 8) (by decide) dX12_sayHouse_11 ?_
    refine g_aload_n 0 rfl rfl dX12_sayHouse_13 ?_
    refine g_getR (k := 4) (b := 90) clX12 kd_87 (by decide) rfl rfl flX12_35 dX12_sayHouse_14 ?_
    refine g_bipush (v := 8) (by decide) dX12_sayHouse_17 ?_
    refine g_aldL (j := 8) kd_90 (by decide) (by decide) dX12_sayHouse_19 ?_
    refine g_iadd dX12_sayHouse_20 ?_
    refine g_istore_n (L' := [(1, .int (8 + (gi M1 90 8))), (0, .ref 87)]) (by decide) rfl rfl dX12_sayHouse_21 ?_
    refine g_aload_n 1 rfl rfl dX12_sayHouse_22 ?_
    refine g_getR (k := 5) (b := 91) clX12 kd_87 (by decide) rfl rfl flX12_39 dX12_sayHouse_23 ?_
    refine g_iload_n 0 rfl rfl dX12_sayHouse_26 ?_
    refine g_aload_n 1 rfl rfl dX12_sayHouse_27 ?_
    refine g_iconst (v := 0) (by decide) dX12_sayHouse_28 ?_
    refine g_bipush (v := 9) (by decide) dX12_sayHouse_29 ?_
    refine g_callVI (y := miX12_readNumber) (As := [.int 0, .int 9]) (rest := [.int (8 + (gi M1 90 8)), .ref 91]) clX12 kd_87 rfl moX12_readNumber rfl mlX12_224 (by first | decide | omega) (by decide) (by simp [Value.category]) rfl dX12_sayHouse_31 (SX12_readNumber  M1 0 9) (fun M3 v4 => ?_)
    refine g_ast kd_91 dX12_sayHouse_34 (fun hi5 => ?_)
    refine GO.wr (fun M6 => ?_)
    refine g_aload_n 1 rfl rfl dX12_sayHouse_35 ?_
    refine g_getR (k := 6) (b := 92) clX12 kd_87 (by decide) rfl rfl flX12_42 dX12_sayHouse_36 ?_
    refine g_iload_n 0 rfl rfl dX12_sayHouse_39 ?_
    refine g_aload_n 1 rfl rfl dX12_sayHouse_40 ?_
    refine g_iconst (v := 0) (by decide) dX12_sayHouse_41 ?_
    refine g_bipush (v := 9) (by decide) dX12_sayHouse_42 ?_
    refine g_callVI (y := miX12_readNumber) (As := [.int 0, .int 9]) (rest := [.int (8 + (gi M1 90 8)), .ref 92]) clX12 kd_87 rfl moX12_readNumber rfl mlX12_224 (by first | decide | omega) (by decide) (by simp [Value.category]) rfl dX12_sayHouse_44 (SX12_readNumber  M6 0 9) (fun M7 v8 => ?_)
    refine g_ast kd_92 dX12_sayHouse_47 (fun hi9 => ?_)
    refine GO.wr (fun M10 => ?_)
    refine g_aload_n 1 rfl rfl dX12_sayHouse_48 ?_
    refine g_getR (k := 7) (b := 93) clX12 kd_87 (by decide) rfl rfl flX12_44 dX12_sayHouse_49 ?_
    refine g_iload_n 0 rfl rfl dX12_sayHouse_52 ?_
    refine g_aload_n 1 rfl rfl dX12_sayHouse_53 ?_
    refine g_iconst (v := 0) (by decide) dX12_sayHouse_54 ?_
    refine g_iconst (v := 2) (by decide) dX12_sayHouse_55 ?_
    refine g_callVI (y := miX12_readNumber) (As := [.int 0, .int 2]) (rest := [.int (8 + (gi M1 90 8)), .ref 93]) clX12 kd_87 rfl moX12_readNumber rfl mlX12_224 (by first | decide | omega) (by decide) (by simp [Value.category]) rfl dX12_sayHouse_56 (SX12_readNumber  M10 0 2) (fun M11 v12 => ?_)
    refine g_ast kd_93 dX12_sayHouse_59 (fun hi13 => ?_)
    refine GO.wr (fun M14 => ?_)
    refine g_aload_n 1 rfl rfl dX12_sayHouse_60 ?_
    refine g_getR (k := 4) (b := 90) clX12 kd_87 (by decide) rfl rfl flX12_35 dX12_sayHouse_61 ?_
    refine g_bipush (v := 8) (by decide) dX12_sayHouse_64 ?_
    refine g_dup2_ri dX12_sayHouse_66 ?_
    refine g_aldL (j := 8) kd_90 (by decide) (by decide) dX12_sayHouse_67 ?_
    refine g_iconst (v := 1) (by decide) dX12_sayHouse_68 ?_
    refine g_iadd dX12_sayHouse_69 ?_
    refine g_astL (j := 8) kd_90 (by decide) (by decide) dX12_sayHouse_70 ?_
    refine GO.wr (fun M15 => ?_)
    exact g_vreturn rfl (by decide) (by decide) dX12_sayHouse_71
  · exact g_vreturn rfl (by decide) (by decide) dX12_sayHouse_10
def fX12_sayPlot_b98 (rec51 : Mem → Int32 → Int32 → RS) (M : Mem) (x1 : Int32) (x2 : Int32) : RS := rec51 M x1 (x2 + 1)
theorem SX12_sayPlot_b98 (rec51 : Mem → Int32 → Int32 → RS) (hrec51 : ∀ (M : Mem) (x1 : Int32) (x2 : Int32), GO miX12_sayPlot (3) 0 0 0 0 51 [(0, .ref 87), (1, .int x1), (2, .int x2)] [] M (rec51 M x1 x2)) (M : Mem) (x1 : Int32) (x2 : Int32) : GO miX12_sayPlot (3) 0 0 0 0 98 [(0, .ref 87), (1, .int x1), (2, .int x2)] [] M (fX12_sayPlot_b98 rec51 M x1 x2) := by
  show GO miX12_sayPlot (3) 0 0 0 0 98 [(0, .ref 87), (1, .int x1), (2, .int x2)] [] M (rec51 M x1 (x2 + 1))
  refine g_iinc (v := x2 + 1) (L' := [(2, .int (x2 + 1)), (0, .ref 87), (1, .int x1)]) 2 rfl rfl (by decide) rfl dX12_sayPlot_98 ?_
  refine g_goto (tgt := 51) rfl dX12_sayPlot_101 ?_
  exact GO.pick [1, 2, 0] rfl <| hrec51 M x1 (x2 + 1)
def fX12_sayPlot_b115 (M : Mem) (x1 : Int32) : RS := bI (fX12_readNumber M 0 9) (fun M19 v20 => chk (inb x1 18) (wr (si M19 96 (ix x1) v20) (fun M22 => wr (si M22 90 9 ((gi M22 90 9) + 1)) (fun M23 => some (M23, .inr none)))))
theorem SX12_sayPlot_b115 (M : Mem) (x1 : Int32) : GO miX12_sayPlot (3) 0 0 0 0 115 [(0, .ref 87), (1, .int x1)] [] M (fX12_sayPlot_b115 M x1) := by
  show GO miX12_sayPlot (3) 0 0 0 0 115 [(0, .ref 87), (1, .int x1)] [] M (bI (fX12_readNumber M 0 9) (fun M19 v20 => chk (inb x1 18) (wr (si M19 96 (ix x1) v20) (fun M22 => wr (si M22 90 9 ((gi M22 90 9) + 1)) (fun M23 => some (M23, .inr none))))))
  refine g_aload_n 0 rfl rfl dX12_sayPlot_115 ?_
  refine g_getR (k := 10) (b := 96) clX12 kd_87 (by decide) rfl rfl flX12_52 dX12_sayPlot_116 ?_
  refine g_iload_n 1 rfl rfl dX12_sayPlot_119 ?_
  refine g_aload_n 0 rfl rfl dX12_sayPlot_120 ?_
  refine g_iconst (v := 0) (by decide) dX12_sayPlot_121 ?_
  refine g_bipush (v := 9) (by decide) dX12_sayPlot_122 ?_
  refine g_callVI (y := miX12_readNumber) (As := [.int 0, .int 9]) (rest := [.int x1, .ref 96]) clX12 kd_87 rfl moX12_readNumber rfl mlX12_224 (by first | decide | omega) (by decide) (by simp [Value.category]) rfl dX12_sayPlot_124 (SX12_readNumber  M 0 9) (fun M19 v20 => ?_)
  refine g_ast kd_96 dX12_sayPlot_127 (fun hi21 => ?_)
  refine GO.wr (fun M22 => ?_)
  refine g_aload_n 0 rfl rfl dX12_sayPlot_128 ?_
  refine g_getR (k := 4) (b := 90) clX12 kd_87 (by decide) rfl rfl flX12_35 dX12_sayPlot_129 ?_
  refine g_bipush (v := 9) (by decide) dX12_sayPlot_132 ?_
  refine g_dup2_ri dX12_sayPlot_134 ?_
  refine g_aldL (j := 9) kd_90 (by decide) (by decide) dX12_sayPlot_135 ?_
  refine g_iconst (v := 1) (by decide) dX12_sayPlot_136 ?_
  refine g_iadd dX12_sayPlot_137 ?_
  refine g_astL (j := 9) kd_90 (by decide) (by decide) dX12_sayPlot_138 ?_
  refine GO.wr (fun M23 => ?_)
  exact g_vreturn rfl (by decide) (by decide) dX12_sayPlot_139
def fX12_sayPlot_b104 (M : Mem) (x1 : Int32) : RS := if (gi M 87 23) = 0 then bV (fX12_stepOn M) (fun M17 => fX12_sayPlot_b115  M17 x1) else fX12_sayPlot_b115  M x1
theorem SX12_sayPlot_b104 (M : Mem) (x1 : Int32) : GO miX12_sayPlot (3) 0 0 0 0 104 [(0, .ref 87), (1, .int x1)] [] M (fX12_sayPlot_b104 M x1) := by
  show GO miX12_sayPlot (3) 0 0 0 0 104 [(0, .ref 87), (1, .int x1)] [] M (if (gi M 87 23) = 0 then bV (fX12_stepOn M) (fun M17 => fX12_sayPlot_b115  M17 x1) else fX12_sayPlot_b115  M x1)
  refine g_aload_n 0 rfl rfl dX12_sayPlot_104 ?_
  refine g_getI (k := 23) clX12 kd_87 (by decide) rfl flX12_189 dX12_sayPlot_105 ?_
  refine g_if_ne (tgt := 115) rfl dX12_sayPlot_108 (fun c => ?_) (fun c => ?_)
  · exact GO.pick [0, 1] rfl <| SX12_sayPlot_b115  M x1
  · refine g_aload_n 0 rfl rfl dX12_sayPlot_111 ?_
    refine g_callVV (y := miX12_stepOn) (As := []) (rest := []) clX12 kd_87 rfl moX12_stepOn rfl mlX12_214 (by first | decide | omega) (by decide) (by simp [Value.category]) rfl dX12_sayPlot_112 (SX12_stepOn  M) (fun M17 => ?_)
    exact GO.pick [0, 1] rfl <| SX12_sayPlot_b115  M17 x1
def fX12_sayPlot_b51 : Nat → Mem → Int32 → Int32 → RS
  | 0 => fun _ _ _ => none
  | n + 1 => fun M x1 x2 => if (gi M 87 23) = 0 then if x2 < x1 then chk (inb x2 18) (chk (inb x1 18) (if (gi M 94 (ix x2)) = (gi M 94 (ix x1)) then chk (inb x2 18) (chk (inb x1 18) (if (gi M 95 (ix x2)) = (gi M 95 (ix x1)) then bV (fX12_wrong M 4) (fun M15 => fX12_sayPlot_b98 (fX12_sayPlot_b51 n) M15 x1 x2) else fX12_sayPlot_b98 (fX12_sayPlot_b51 n) M x1 x2)) else fX12_sayPlot_b98 (fX12_sayPlot_b51 n) M x1 x2)) else fX12_sayPlot_b104  M x1 else fX12_sayPlot_b104  M x1
theorem SX12_sayPlot_b51 (n : Nat) : ∀ (M : Mem) (x1 : Int32) (x2 : Int32), GO miX12_sayPlot (3) 0 0 0 0 51 [(0, .ref 87), (1, .int x1), (2, .int x2)] [] M (fX12_sayPlot_b51 n M x1 x2) := by
  induction n with
  | zero => intro M x1 x2 ; exact GO.none
  | succ n hrec51 =>
    intro M x1 x2 
    show GO miX12_sayPlot (3) 0 0 0 0 51 [(0, .ref 87), (1, .int x1), (2, .int x2)] [] M (if (gi M 87 23) = 0 then if x2 < x1 then chk (inb x2 18) (chk (inb x1 18) (if (gi M 94 (ix x2)) = (gi M 94 (ix x1)) then chk (inb x2 18) (chk (inb x1 18) (if (gi M 95 (ix x2)) = (gi M 95 (ix x1)) then bV (fX12_wrong M 4) (fun M15 => fX12_sayPlot_b98 (fX12_sayPlot_b51 n) M15 x1 x2) else fX12_sayPlot_b98 (fX12_sayPlot_b51 n) M x1 x2)) else fX12_sayPlot_b98 (fX12_sayPlot_b51 n) M x1 x2)) else fX12_sayPlot_b104  M x1 else fX12_sayPlot_b104  M x1)
    refine g_aload_n 0 rfl rfl dX12_sayPlot_51 ?_
    refine g_getI (k := 23) clX12 kd_87 (by decide) rfl flX12_189 dX12_sayPlot_52 ?_
    refine g_if_ne (tgt := 104) rfl dX12_sayPlot_55 (fun c => ?_) (fun c => ?_)
    · exact GO.pick [0, 1] rfl <| SX12_sayPlot_b104  M x1
    · refine g_iload_n 2 rfl rfl dX12_sayPlot_58 ?_
      refine g_iload_n 1 rfl rfl dX12_sayPlot_59 ?_
      refine g_icmp_ge (tgt := 104) rfl dX12_sayPlot_60 (fun c => ?_) (fun c => ?_)
      · exact GO.pick [0, 1] rfl <| SX12_sayPlot_b104  M x1
      · refine g_aload_n 0 rfl rfl dX12_sayPlot_63 ?_
        refine g_getR (k := 8) (b := 94) clX12 kd_87 (by decide) rfl rfl flX12_46 dX12_sayPlot_64 ?_
        refine g_iload_n 2 rfl rfl dX12_sayPlot_67 ?_
        refine g_ald kd_94 dX12_sayPlot_68 (fun hi11 => ?_)
        refine g_aload_n 0 rfl rfl dX12_sayPlot_69 ?_
        refine g_getR (k := 8) (b := 94) clX12 kd_87 (by decide) rfl rfl flX12_46 dX12_sayPlot_70 ?_
        refine g_iload_n 1 rfl rfl dX12_sayPlot_73 ?_
        refine g_ald kd_94 dX12_sayPlot_74 (fun hi12 => ?_)
        refine g_icmp_ne (tgt := 98) rfl dX12_sayPlot_75 (fun c => ?_) (fun c => ?_)
        · exact GO.pick [0, 1, 2] rfl <| SX12_sayPlot_b98  (fX12_sayPlot_b51 n) hrec51 M x1 x2
        · refine g_aload_n 0 rfl rfl dX12_sayPlot_78 ?_
          refine g_getR (k := 9) (b := 95) clX12 kd_87 (by decide) rfl rfl flX12_49 dX12_sayPlot_79 ?_
          refine g_iload_n 2 rfl rfl dX12_sayPlot_82 ?_
          refine g_ald kd_95 dX12_sayPlot_83 (fun hi13 => ?_)
          refine g_aload_n 0 rfl rfl dX12_sayPlot_84 ?_
          refine g_getR (k := 9) (b := 95) clX12 kd_87 (by decide) rfl rfl flX12_49 dX12_sayPlot_85 ?_
          refine g_iload_n 1 rfl rfl dX12_sayPlot_88 ?_
          refine g_ald kd_95 dX12_sayPlot_89 (fun hi14 => ?_)
          refine g_icmp_ne (tgt := 98) rfl dX12_sayPlot_90 (fun c => ?_) (fun c => ?_)
          · exact GO.pick [0, 1, 2] rfl <| SX12_sayPlot_b98  (fX12_sayPlot_b51 n) hrec51 M x1 x2
          · refine g_aload_n 0 rfl rfl dX12_sayPlot_93 ?_
            refine g_iconst (v := 4) (by decide) dX12_sayPlot_94 ?_
            refine g_callVV (y := miX12_wrong) (As := [.int 4]) (rest := []) clX12 kd_87 rfl moX12_wrong rfl mlX12_210 (by first | decide | omega) (by decide) (by simp [Value.category]) rfl dX12_sayPlot_95 (SX12_wrong  M 4) (fun M15 => ?_)
            exact GO.pick [0, 1, 2] rfl <| SX12_sayPlot_b98  (fX12_sayPlot_b51 n) hrec51 M15 x1 x2
def fX12_sayPlot (M : Mem)  : RS := bI (fX12_another M 1 9) (fun M1 v2 => if v2 = 0 then some (M1, .inr none) else bI (fX12_readNumber M1 0 20) (fun M3 v4 => chk (inb (9 + (gi M1 90 9)) 18) (wr (si M3 94 (ix (9 + (gi M1 90 9))) v4) (fun M6 => bI (fX12_numberNow M6 0 20) (fun M7 v8 => chk (inb (9 + (gi M1 90 9)) 18) (wr (si M7 95 (ix (9 + (gi M1 90 9))) v8) (fun M10 => fX12_sayPlot_b51  FU M10 (9 + (gi M1 90 9)) 9)))))))
theorem SX12_sayPlot (M : Mem)  : CTO (3) miX12_sayPlot 0 0 [.ref 87] M (fX12_sayPlot  M ) := by
  refine CTO.of (by decide) (by simp [lg_sl, Value.category]) ?_
  show GO miX12_sayPlot (3) 0 0 0 0 0 [(0, .ref 87)] [] M (bI (fX12_another M 1 9) (fun M1 v2 => if v2 = 0 then some (M1, .inr none) else bI (fX12_readNumber M1 0 20) (fun M3 v4 => chk (inb (9 + (gi M1 90 9)) 18) (wr (si M3 94 (ix (9 + (gi M1 90 9))) v4) (fun M6 => bI (fX12_numberNow M6 0 20) (fun M7 v8 => chk (inb (9 + (gi M1 90 9)) 18) (wr (si M7 95 (ix (9 + (gi M1 90 9))) v8) (fun M10 => fX12_sayPlot_b51  FU M10 (9 + (gi M1 90 9)) 9))))))))
  refine g_aload_n 0 rfl rfl dX12_sayPlot_0 ?_
  refine g_iconst (v := 1) (by decide) dX12_sayPlot_1 ?_
  refine g_bipush (v := 9) (by decide) dX12_sayPlot_2 ?_
  refine g_callVI (y := miX12_another) (As := [.int 1, .int 9]) (rest := []) clX12 kd_87 rfl moX12_another rfl mlX12_261 (by first | decide | omega) (by decide) (by simp [Value.category]) rfl dX12_sayPlot_4 (SX12_another  M 1 9) (fun M1 v2 => ?_)
  refine g_if_ne (tgt := 11) rfl dX12_sayPlot_7 (fun c => ?_) (fun c => ?_)
  · refine g_bipush (v := 9) (by decide) dX12_sayPlot_11 ?_
    refine g_aload_n 0 rfl rfl dX12_sayPlot_13 ?_
    refine g_getR (k := 4) (b := 90) clX12 kd_87 (by decide) rfl rfl flX12_35 dX12_sayPlot_14 ?_
    refine g_bipush (v := 9) (by decide) dX12_sayPlot_17 ?_
    refine g_aldL (j := 9) kd_90 (by decide) (by decide) dX12_sayPlot_19 ?_
    refine g_iadd dX12_sayPlot_20 ?_
    refine g_istore_n (L' := [(1, .int (9 + (gi M1 90 9))), (0, .ref 87)]) (by decide) rfl rfl dX12_sayPlot_21 ?_
    refine g_aload_n 1 rfl rfl dX12_sayPlot_22 ?_
    refine g_getR (k := 8) (b := 94) clX12 kd_87 (by decide) rfl rfl flX12_46 dX12_sayPlot_23 ?_
    refine g_iload_n 0 rfl rfl dX12_sayPlot_26 ?_
    refine g_aload_n 1 rfl rfl dX12_sayPlot_27 ?_
    refine g_iconst (v := 0) (by decide) dX12_sayPlot_28 ?_
    refine g_bipush (v := 20) (by decide) dX12_sayPlot_29 ?_
    refine g_callVI (y := miX12_readNumber) (As := [.int 0, .int 20]) (rest := [.int (9 + (gi M1 90 9)), .ref 94]) clX12 kd_87 rfl moX12_readNumber rfl mlX12_224 (by first | decide | omega) (by decide) (by simp [Value.category]) rfl dX12_sayPlot_31 (SX12_readNumber  M1 0 20) (fun M3 v4 => ?_)
    refine g_ast kd_94 dX12_sayPlot_34 (fun hi5 => ?_)
    refine GO.wr (fun M6 => ?_)
    refine g_aload_n 1 rfl rfl dX12_sayPlot_35 ?_
    refine g_getR (k := 9) (b := 95) clX12 kd_87 (by decide) rfl rfl flX12_49 dX12_sayPlot_36 ?_
    refine g_iload_n 0 rfl rfl dX12_sayPlot_39 ?_
    refine g_aload_n 1 rfl rfl dX12_sayPlot_40 ?_
    refine g_iconst (v := 0) (by decide) dX12_sayPlot_41 ?_
    refine g_bipush (v := 20) (by decide) dX12_sayPlot_42 ?_
    refine g_callVI (y := miX12_numberNow) (As := [.int 0, .int 20]) (rest := [.int (9 + (gi M1 90 9)), .ref 95]) clX12 kd_87 rfl moX12_numberNow rfl mlX12_217 (by first | decide | omega) (by decide) (by simp [Value.category]) rfl dX12_sayPlot_44 (SX12_numberNow  M6 0 20) (fun M7 v8 => ?_)
    refine g_ast kd_95 dX12_sayPlot_47 (fun hi9 => ?_)
    refine GO.wr (fun M10 => ?_)
    refine g_bipush (v := 9) (by decide) dX12_sayPlot_48 ?_
    refine g_istore_n (L' := [(2, .int 9), (1, .int (9 + (gi M1 90 9))), (0, .ref 87)]) (by decide) rfl rfl dX12_sayPlot_50 ?_
    exact GO.pick [2, 1, 0] rfl <| SX12_sayPlot_b51  FU M10 (9 + (gi M1 90 9)) 9
  · exact g_vreturn rfl (by decide) (by decide) dX12_sayPlot_10
def fX12_sayRain_b48 (rec2 : Mem → Int32 → RS) (M : Mem) (x1 : Int32) : RS := bI (fX12_numberNow M 0 9) (fun M3 v4 => if (gi M3 87 23) = 0 then bV (fX12_stepOn M3) (fun M5 => chk (inb (10 + (gi M5 90 10)) 20) (wr (si M5 97 (ix (10 + (gi M5 90 10))) v4) (fun M8 => wr (si M8 90 10 ((gi M8 90 10) + 1)) (fun M9 => rec2 M9 x1)))) else some (M3, .inr none))
theorem SX12_sayRain_b48 (rec2 : Mem → Int32 → RS) (hrec2 : ∀ (M : Mem) (x1 : Int32), GO miX12_sayRain (2) 0 0 0 0 2 [(0, .ref 87), (1, .int x1)] [] M (rec2 M x1)) (M : Mem) (x1 : Int32) : GO miX12_sayRain (2) 0 0 0 0 48 [(0, .ref 87), (1, .int x1)] [] M (fX12_sayRain_b48 rec2 M x1) := by
  show GO miX12_sayRain (2) 0 0 0 0 48 [(0, .ref 87), (1, .int x1)] [] M (bI (fX12_numberNow M 0 9) (fun M3 v4 => if (gi M3 87 23) = 0 then bV (fX12_stepOn M3) (fun M5 => chk (inb (10 + (gi M5 90 10)) 20) (wr (si M5 97 (ix (10 + (gi M5 90 10))) v4) (fun M8 => wr (si M8 90 10 ((gi M8 90 10) + 1)) (fun M9 => rec2 M9 x1)))) else some (M3, .inr none)))
  refine g_aload_n 0 rfl rfl dX12_sayRain_48 ?_
  refine g_iconst (v := 0) (by decide) dX12_sayRain_49 ?_
  refine g_bipush (v := 9) (by decide) dX12_sayRain_50 ?_
  refine g_callVI (y := miX12_numberNow) (As := [.int 0, .int 9]) (rest := []) clX12 kd_87 rfl moX12_numberNow rfl mlX12_217 (by first | decide | omega) (by decide) (by simp [Value.category]) rfl dX12_sayRain_52 (SX12_numberNow  M 0 9) (fun M3 v4 => ?_)
  refine g_istore_n (L' := [(2, .int v4), (0, .ref 87), (1, .int x1)]) (by decide) rfl rfl dX12_sayRain_55 ?_
  refine g_aload_n 1 rfl rfl dX12_sayRain_56 ?_
  refine g_getI (k := 23) clX12 kd_87 (by decide) rfl flX12_189 dX12_sayRain_57 ?_
  refine g_if_eq (tgt := 64) rfl dX12_sayRain_60 (fun c => ?_) (fun c => ?_)
  · refine g_aload_n 1 rfl rfl dX12_sayRain_64 ?_
    refine g_callVV (y := miX12_stepOn) (As := []) (rest := []) clX12 kd_87 rfl moX12_stepOn rfl mlX12_214 (by first | decide | omega) (by decide) (by simp [Value.category]) rfl dX12_sayRain_65 (SX12_stepOn  M3) (fun M5 => ?_)
    refine g_aload_n 1 rfl rfl dX12_sayRain_68 ?_
    refine g_getR (k := 11) (b := 97) clX12 kd_87 (by decide) rfl rfl flX12_55 dX12_sayRain_69 ?_
    refine g_bipush (v := 10) (by decide) dX12_sayRain_72 ?_
    refine g_aload_n 1 rfl rfl dX12_sayRain_74 ?_
    refine g_getR (k := 4) (b := 90) clX12 kd_87 (by decide) rfl rfl flX12_35 dX12_sayRain_75 ?_
    refine g_bipush (v := 10) (by decide) dX12_sayRain_78 ?_
    refine g_aldL (j := 10) kd_90 (by decide) (by decide) dX12_sayRain_80 ?_
    refine g_iadd dX12_sayRain_81 ?_
    refine g_iload_n 0 rfl rfl dX12_sayRain_82 ?_
    refine g_ast kd_97 dX12_sayRain_83 (fun hi7 => ?_)
    refine GO.wr (fun M8 => ?_)
    refine g_aload_n 1 rfl rfl dX12_sayRain_84 ?_
    refine g_getR (k := 4) (b := 90) clX12 kd_87 (by decide) rfl rfl flX12_35 dX12_sayRain_85 ?_
    refine g_bipush (v := 10) (by decide) dX12_sayRain_88 ?_
    refine g_dup2_ri dX12_sayRain_90 ?_
    refine g_aldL (j := 10) kd_90 (by decide) (by decide) dX12_sayRain_91 ?_
    refine g_iconst (v := 1) (by decide) dX12_sayRain_92 ?_
    refine g_iadd dX12_sayRain_93 ?_
    refine g_astL (j := 10) kd_90 (by decide) (by decide) dX12_sayRain_94 ?_
    refine GO.wr (fun M9 => ?_)
    refine g_goto (tgt := 2) rfl dX12_sayRain_95 ?_
    exact GO.pick [1, 2] rfl <| hrec2 M9 x1
  · exact g_vreturn rfl (by decide) (by decide) dX12_sayRain_63
def fX12_sayRain_b21 (rec2 : Mem → Int32 → RS) (M : Mem)  : RS := if (gi M 87 19) = 2 then if (gi M 90 10) = 10 then bV (fX12_wrong M 2) (fun M1 => fX12_sayRain_b48 rec2 M1 0) else fX12_sayRain_b48 rec2 M 0 else fX12_sayRain_b48 rec2 M 0
theorem SX12_sayRain_b21 (rec2 : Mem → Int32 → RS) (hrec2 : ∀ (M : Mem) (x1 : Int32), GO miX12_sayRain (2) 0 0 0 0 2 [(0, .ref 87), (1, .int x1)] [] M (rec2 M x1)) (M : Mem)  : GO miX12_sayRain (2) 0 0 0 0 21 [(0, .ref 87)] [] M (fX12_sayRain_b21 rec2 M ) := by
  show GO miX12_sayRain (2) 0 0 0 0 21 [(0, .ref 87)] [] M (if (gi M 87 19) = 2 then if (gi M 90 10) = 10 then bV (fX12_wrong M 2) (fun M1 => fX12_sayRain_b48 rec2 M1 0) else fX12_sayRain_b48 rec2 M 0 else fX12_sayRain_b48 rec2 M 0)
  refine g_iconst (v := 0) (by decide) dX12_sayRain_21 ?_
  refine g_istore_n (L' := [(1, .int 0), (0, .ref 87)]) (by decide) rfl rfl dX12_sayRain_22 ?_
  refine g_aload_n 1 rfl rfl dX12_sayRain_23 ?_
  refine g_getI (k := 19) clX12 kd_87 (by decide) rfl flX12_163 dX12_sayRain_24 ?_
  refine g_iconst (v := 2) (by decide) dX12_sayRain_27 ?_
  refine g_icmp_ne (tgt := 48) rfl dX12_sayRain_28 (fun c => ?_) (fun c => ?_)
  · exact GO.pick [1, 0] rfl <| SX12_sayRain_b48  rec2 hrec2 M 0
  · refine g_aload_n 1 rfl rfl dX12_sayRain_31 ?_
    refine g_getR (k := 4) (b := 90) clX12 kd_87 (by decide) rfl rfl flX12_35 dX12_sayRain_32 ?_
    refine g_bipush (v := 10) (by decide) dX12_sayRain_35 ?_
    refine g_aldL (j := 10) kd_90 (by decide) (by decide) dX12_sayRain_37 ?_
    refine g_bipush (v := 10) (by decide) dX12_sayRain_38 ?_
    refine g_icmp_ne (tgt := 48) rfl dX12_sayRain_40 (fun c => ?_) (fun c => ?_)
    · exact GO.pick [1, 0] rfl <| SX12_sayRain_b48  rec2 hrec2 M 0
    · refine g_aload_n 1 rfl rfl dX12_sayRain_43 ?_
      refine g_iconst (v := 2) (by decide) dX12_sayRain_44 ?_
      refine g_callVV (y := miX12_wrong) (As := [.int 2]) (rest := []) clX12 kd_87 rfl moX12_wrong rfl mlX12_210 (by first | decide | omega) (by decide) (by simp [Value.category]) rfl dX12_sayRain_45 (SX12_wrong  M 2) (fun M1 => ?_)
      exact GO.pick [1, 0] rfl <| SX12_sayRain_b48  rec2 hrec2 M1 0
def fX12_sayRain_b2 : Nat → Mem → Int32 → RS
  | 0 => fun _ _ => none
  | n + 1 => fun M x1 => if (gi M 87 23) = 0 then if x1 = 0 then if (gi M 87 19) = 2 then fX12_sayRain_b21 (fX12_sayRain_b2 n) M else some (M, .inr none) else fX12_sayRain_b21 (fX12_sayRain_b2 n) M else some (M, .inr none)
theorem SX12_sayRain_b2 (n : Nat) : ∀ (M : Mem) (x1 : Int32), GO miX12_sayRain (2) 0 0 0 0 2 [(0, .ref 87), (1, .int x1)] [] M (fX12_sayRain_b2 n M x1) := by
  induction n with
  | zero => intro M x1 ; exact GO.none
  | succ n hrec2 =>
    intro M x1 
    show GO miX12_sayRain (2) 0 0 0 0 2 [(0, .ref 87), (1, .int x1)] [] M (if (gi M 87 23) = 0 then if x1 = 0 then if (gi M 87 19) = 2 then fX12_sayRain_b21 (fX12_sayRain_b2 n) M else some (M, .inr none) else fX12_sayRain_b21 (fX12_sayRain_b2 n) M else some (M, .inr none))
    refine g_aload_n 0 rfl rfl dX12_sayRain_2 ?_
    refine g_getI (k := 23) clX12 kd_87 (by decide) rfl flX12_189 dX12_sayRain_3 ?_
    refine g_if_ne (tgt := 98) rfl dX12_sayRain_6 (fun c => ?_) (fun c => ?_)
    · exact g_vreturn rfl (by decide) (by decide) dX12_sayRain_98
    · refine g_iload_n 1 rfl rfl dX12_sayRain_9 ?_
      refine g_if_ne (tgt := 21) rfl dX12_sayRain_10 (fun c => ?_) (fun c => ?_)
      · exact GO.pick [0] rfl <| SX12_sayRain_b21  (fX12_sayRain_b2 n) hrec2 M
      · refine g_aload_n 0 rfl rfl dX12_sayRain_13 ?_
        refine g_getI (k := 19) clX12 kd_87 (by decide) rfl flX12_163 dX12_sayRain_14 ?_
        refine g_iconst (v := 2) (by decide) dX12_sayRain_17 ?_
        refine g_icmp_ne (tgt := 98) rfl dX12_sayRain_18 (fun c => ?_) (fun c => ?_)
        · exact g_vreturn rfl (by decide) (by decide) dX12_sayRain_98
        · exact GO.pick [0] rfl <| SX12_sayRain_b21  (fX12_sayRain_b2 n) hrec2 M
def fX12_sayRain (M : Mem)  : RS := fX12_sayRain_b2  FU M 1
theorem SX12_sayRain (M : Mem)  : CTO (2) miX12_sayRain 0 0 [.ref 87] M (fX12_sayRain  M ) := by
  refine CTO.of (by decide) (by simp [lg_sl, Value.category]) ?_
  show GO miX12_sayRain (2) 0 0 0 0 0 [(0, .ref 87)] [] M (fX12_sayRain_b2  FU M 1)
  refine g_iconst (v := 1) (by decide) dX12_sayRain_0 ?_
  refine g_istore_n (L' := [(1, .int 1), (0, .ref 87)]) (by decide) rfl rfl dX12_sayRain_1 ?_
  exact GO.pick [1, 0] rfl <| SX12_sayRain_b2  FU M 1
def fX12_sayRule_b21 (M : Mem) (s0 : Nat) : RS := wr (sb M 5 (vaB s0)) (fun M2 => bV (fX12_readExpression FR M2 0) (fun M3 => some (M3, .inr none)))
theorem SX12_sayRule_b21 (M : Mem) (s0 : Nat) (hs0 : s0 ∈ [88, 89]) : GO miX12_sayRule (71) 0 0 0 0 21 [(0, .ref 87)] [.ref s0, .ref 87] M (fX12_sayRule_b21 M s0) := by
  show GO miX12_sayRule (71) 0 0 0 0 21 [(0, .ref 87)] [.ref s0, .ref 87] M (wr (sb M 5 (vaB s0)) (fun M2 => bV (fX12_readExpression FR M2 0) (fun M3 => some (M3, .inr none))))
  refine g_putR_X12_values hs0 flX12_32 dX12_sayRule_21 ?_
  refine GO.wr (fun M2 => ?_)
  refine g_aload_n 0 rfl rfl dX12_sayRule_24 ?_
  refine g_iconst (v := 0) (by decide) dX12_sayRule_25 ?_
  refine g_callVV (y := miX12_readExpression) (As := [.int 0]) (rest := []) clX12 kd_87 rfl moX12_readExpression rfl mlX12_237 (by first | decide | omega) (by decide) (by simp [Value.category]) rfl dX12_sayRule_26 (SX12_readExpression FR  M2 0) (fun M3 => ?_)
  exact g_vreturn rfl (by decide) (by decide) dX12_sayRule_29
def fX12_sayRule (M : Mem) (x1 : Int32) : RS := chk (isZ x1) (wr (si M 87 26 x1) (fun M1 => if x1 = 0 then fX12_sayRule_b21  M1 88 else fX12_sayRule_b21  M1 89))
theorem SX12_sayRule (M : Mem) (x1 : Int32) : CTO (71) miX12_sayRule 0 0 [.ref 87, .int x1] M (fX12_sayRule  M x1) := by
  refine CTO.of (by decide) (by simp [lg_sl, Value.category]) ?_
  show GO miX12_sayRule (71) 0 0 0 0 0 [(0, .ref 87), (1, .int x1)] [] M (chk (isZ x1) (wr (si M 87 26 x1) (fun M1 => if x1 = 0 then fX12_sayRule_b21  M1 88 else fX12_sayRule_b21  M1 89)))
  refine g_aload_n 0 rfl rfl dX12_sayRule_0 ?_
  refine g_iload_n 1 rfl rfl dX12_sayRule_1 ?_
  refine GO.chk fun hz => ?_
  refine g_putZ (k := 26) clX12 kd_87 (by decide) rfl (by decide) rfl hz flX12_220 dX12_sayRule_2 ?_
  refine GO.wr (fun M1 => ?_)
  refine g_aload_n 0 rfl rfl dX12_sayRule_5 ?_
  refine g_iload_n 1 rfl rfl dX12_sayRule_6 ?_
  refine g_if_eq (tgt := 17) rfl dX12_sayRule_7 (fun c => ?_) (fun c => ?_)
  · refine g_aload_n 0 rfl rfl dX12_sayRule_17 ?_
    refine g_getR (k := 0) (b := 88) clX12 kd_87 (by decide) rfl rfl flX12_21 dX12_sayRule_18 ?_
    exact GO.pick [0] rfl <| SX12_sayRule_b21  M1 88 (by decide)
  · refine g_aload_n 0 rfl rfl dX12_sayRule_10 ?_
    refine g_getR (k := 1) (b := 89) clX12 kd_87 (by decide) rfl rfl flX12_29 dX12_sayRule_11 ?_
    refine g_goto (tgt := 21) rfl dX12_sayRule_14 ?_
    exact GO.pick [0] rfl <| SX12_sayRule_b21  M1 89 (by decide)
def fX12_readLine_b226 (M : Mem) (x1 : Int32) (x2 : Int32) : RS := bV (fX12_mark M 59) (fun M25 => some (M25, .inr (some (.int (x1 ||| x2)))))
theorem SX12_readLine_b226 (M : Mem) (x1 : Int32) (x2 : Int32) : GO miX12_readLine (72) 0 0 0 0 226 [(0, .ref 87), (1, .int x1), (2, .int x2)] [] M (fX12_readLine_b226 M x1 x2) := by
  show GO miX12_readLine (72) 0 0 0 0 226 [(0, .ref 87), (1, .int x1), (2, .int x2)] [] M (bV (fX12_mark M 59) (fun M25 => some (M25, .inr (some (.int (x1 ||| x2))))))
  refine g_aload_n 0 rfl rfl dX12_readLine_226 ?_
  refine g_bipush (v := 59) (by decide) dX12_readLine_227 ?_
  refine g_callVV (y := miX12_mark) (As := [.int 59]) (rest := []) clX12 kd_87 rfl moX12_mark rfl mlX12_234 (by first | decide | omega) (by decide) (by simp [Value.category]) rfl dX12_readLine_229 (SX12_mark  M 59) (fun M25 => ?_)
  refine g_iload_n 1 rfl rfl dX12_readLine_232 ?_
  refine g_iload_n 2 rfl rfl dX12_readLine_233 ?_
  refine g_ior dX12_readLine_234 ?_
  exact g_ireturn rfl (by decide) (by decide) dX12_readLine_235 rfl rfl
def fX12_readLine_b181 (M : Mem) (x1 : Int32) (x2 : Int32) (s0 : Int32) : RS := bV (fX12_sayRule M s0) (fun M38 => fX12_readLine_b226  M38 x1 x2)
theorem SX12_readLine_b181 (M : Mem) (x1 : Int32) (x2 : Int32) (s0 : Int32) : GO miX12_readLine (72) 0 0 0 0 181 [(0, .ref 87), (1, .int x1), (2, .int x2)] [.int s0, .ref 87] M (fX12_readLine_b181 M x1 x2 s0) := by
  show GO miX12_readLine (72) 0 0 0 0 181 [(0, .ref 87), (1, .int x1), (2, .int x2)] [.int s0, .ref 87] M (bV (fX12_sayRule M s0) (fun M38 => fX12_readLine_b226  M38 x1 x2))
  refine g_callVV (y := miX12_sayRule) (As := [.int s0]) (rest := []) clX12 kd_87 rfl moX12_sayRule rfl mlX12_276 (by first | decide | omega) (by decide) (by simp [Value.category]) rfl dX12_readLine_181 (SX12_sayRule  M s0) (fun M38 => ?_)
  refine g_goto (tgt := 226) rfl dX12_readLine_184 ?_
  exact GO.pick [0, 1, 2] rfl <| SX12_readLine_b226  M38 x1 x2
def fX12_readLine_b99 (M : Mem) (x1 : Int32) (x2 : Int32) : RS := if x2 = 1 then bI (fX12_readNumber M 0 20) (fun M32 v33 => wr (si M32 90 12 v33) (fun M34 => bI (fX12_readNumber M34 0 20) (fun M35 v36 => wr (si M35 90 13 v36) (fun M37 => fX12_readLine_b226  M37 x1 x2)))) else if x2 = 2 then bV (fX12_sayRain M) (fun M30 => fX12_readLine_b226  M30 x1 x2) else if x2 = 4 then bI (fX12_readNumber M 0 20) (fun M27 v28 => wr (si M27 90 11 v28) (fun M29 => fX12_readLine_b226  M29 x1 x2)) else if x2 = 16 then fX12_readLine_b181  M x1 x2 1 else fX12_readLine_b181  M x1 x2 0
theorem SX12_readLine_b99 (M : Mem) (x1 : Int32) (x2 : Int32) : GO miX12_readLine (72) 0 0 0 0 99 [(0, .ref 87), (1, .int x1), (2, .int x2)] [] M (fX12_readLine_b99 M x1 x2) := by
  show GO miX12_readLine (72) 0 0 0 0 99 [(0, .ref 87), (1, .int x1), (2, .int x2)] [] M (if x2 = 1 then bI (fX12_readNumber M 0 20) (fun M32 v33 => wr (si M32 90 12 v33) (fun M34 => bI (fX12_readNumber M34 0 20) (fun M35 v36 => wr (si M35 90 13 v36) (fun M37 => fX12_readLine_b226  M37 x1 x2)))) else if x2 = 2 then bV (fX12_sayRain M) (fun M30 => fX12_readLine_b226  M30 x1 x2) else if x2 = 4 then bI (fX12_readNumber M 0 20) (fun M27 v28 => wr (si M27 90 11 v28) (fun M29 => fX12_readLine_b226  M29 x1 x2)) else if x2 = 16 then fX12_readLine_b181  M x1 x2 1 else fX12_readLine_b181  M x1 x2 0)
  refine g_iload_n 2 rfl rfl dX12_readLine_99 ?_
  refine g_iconst (v := 1) (by decide) dX12_readLine_100 ?_
  refine g_icmp_ne (tgt := 135) rfl dX12_readLine_101 (fun c => ?_) (fun c => ?_)
  · refine g_iload_n 2 rfl rfl dX12_readLine_135 ?_
    refine g_iconst (v := 2) (by decide) dX12_readLine_136 ?_
    refine g_icmp_ne (tgt := 147) rfl dX12_readLine_137 (fun c => ?_) (fun c => ?_)
    · refine g_iload_n 2 rfl rfl dX12_readLine_147 ?_
      refine g_iconst (v := 4) (by decide) dX12_readLine_148 ?_
      refine g_icmp_ne (tgt := 169) rfl dX12_readLine_149 (fun c => ?_) (fun c => ?_)
      · refine g_aload_n 0 rfl rfl dX12_readLine_169 ?_
        refine g_iload_n 2 rfl rfl dX12_readLine_170 ?_
        refine g_bipush (v := 16) (by decide) dX12_readLine_171 ?_
        refine g_icmp_ne (tgt := 180) rfl dX12_readLine_173 (fun c => ?_) (fun c => ?_)
        · refine g_iconst (v := 0) (by decide) dX12_readLine_180 ?_
          exact GO.pick [0, 1, 2] rfl <| SX12_readLine_b181  M x1 x2 0
        · refine g_iconst (v := 1) (by decide) dX12_readLine_176 ?_
          refine g_goto (tgt := 181) rfl dX12_readLine_177 ?_
          exact GO.pick [0, 1, 2] rfl <| SX12_readLine_b181  M x1 x2 1
      · refine g_aload_n 0 rfl rfl dX12_readLine_152 ?_
        refine g_getR (k := 4) (b := 90) clX12 kd_87 (by decide) rfl rfl flX12_35 dX12_readLine_153 ?_
        refine g_bipush (v := 11) (by decide) dX12_readLine_156 ?_
        refine g_aload_n 0 rfl rfl dX12_readLine_158 ?_
        refine g_iconst (v := 0) (by decide) dX12_readLine_159 ?_
        refine g_bipush (v := 20) (by decide) dX12_readLine_160 ?_
        refine g_callVI (y := miX12_readNumber) (As := [.int 0, .int 20]) (rest := [.int 11, .ref 90]) clX12 kd_87 rfl moX12_readNumber rfl mlX12_224 (by first | decide | omega) (by decide) (by simp [Value.category]) rfl dX12_readLine_162 (SX12_readNumber  M 0 20) (fun M27 v28 => ?_)
        refine g_astL (j := 11) kd_90 (by decide) (by decide) dX12_readLine_165 ?_
        refine GO.wr (fun M29 => ?_)
        refine g_goto (tgt := 226) rfl dX12_readLine_166 ?_
        exact GO.pick [0, 1, 2] rfl <| SX12_readLine_b226  M29 x1 x2
    · refine g_aload_n 0 rfl rfl dX12_readLine_140 ?_
      refine g_callVV (y := miX12_sayRain) (As := []) (rest := []) clX12 kd_87 rfl moX12_sayRain rfl mlX12_273 (by first | decide | omega) (by decide) (by simp [Value.category]) rfl dX12_readLine_141 (SX12_sayRain  M) (fun M30 => ?_)
      refine g_goto (tgt := 226) rfl dX12_readLine_144 ?_
      exact GO.pick [0, 1, 2] rfl <| SX12_readLine_b226  M30 x1 x2
  · refine g_aload_n 0 rfl rfl dX12_readLine_104 ?_
    refine g_getR (k := 4) (b := 90) clX12 kd_87 (by decide) rfl rfl flX12_35 dX12_readLine_105 ?_
    refine g_bipush (v := 12) (by decide) dX12_readLine_108 ?_
    refine g_aload_n 0 rfl rfl dX12_readLine_110 ?_
    refine g_iconst (v := 0) (by decide) dX12_readLine_111 ?_
    refine g_bipush (v := 20) (by decide) dX12_readLine_112 ?_
    refine g_callVI (y := miX12_readNumber) (As := [.int 0, .int 20]) (rest := [.int 12, .ref 90]) clX12 kd_87 rfl moX12_readNumber rfl mlX12_224 (by first | decide | omega) (by decide) (by simp [Value.category]) rfl dX12_readLine_114 (SX12_readNumber  M 0 20) (fun M32 v33 => ?_)
    refine g_astL (j := 12) kd_90 (by decide) (by decide) dX12_readLine_117 ?_
    refine GO.wr (fun M34 => ?_)
    refine g_aload_n 0 rfl rfl dX12_readLine_118 ?_
    refine g_getR (k := 4) (b := 90) clX12 kd_87 (by decide) rfl rfl flX12_35 dX12_readLine_119 ?_
    refine g_bipush (v := 13) (by decide) dX12_readLine_122 ?_
    refine g_aload_n 0 rfl rfl dX12_readLine_124 ?_
    refine g_iconst (v := 0) (by decide) dX12_readLine_125 ?_
    refine g_bipush (v := 20) (by decide) dX12_readLine_126 ?_
    refine g_callVI (y := miX12_readNumber) (As := [.int 0, .int 20]) (rest := [.int 13, .ref 90]) clX12 kd_87 rfl moX12_readNumber rfl mlX12_224 (by first | decide | omega) (by decide) (by simp [Value.category]) rfl dX12_readLine_128 (SX12_readNumber  M34 0 20) (fun M35 v36 => ?_)
    refine g_astL (j := 13) kd_90 (by decide) (by decide) dX12_readLine_131 ?_
    refine GO.wr (fun M37 => ?_)
    refine g_goto (tgt := 226) rfl dX12_readLine_132 ?_
    exact GO.pick [0, 1, 2] rfl <| SX12_readLine_b226  M37 x1 x2
def fX12_readLine_b84 (M : Mem) (x1 : Int32) (x2 : Int32) : RS := if 0 < x2 then if (gi M 87 23) = 0 then bV (fX12_stepOn M) (fun M23 => fX12_readLine_b99  M23 x1 x2) else fX12_readLine_b99  M x1 x2 else bI (fX12_is 7 M) (fun M13 v14 => if v14 = 0 then bI (fX12_is 8 M13) (fun M15 v16 => if v16 = 0 then bV (fX12_wrong M15 1) (fun M17 => fX12_readLine_b226  M17 x1 x2) else bV (fX12_sayPlot M15) (fun M19 => fX12_readLine_b226  M19 x1 x2)) else bV (fX12_sayHouse M13) (fun M21 => fX12_readLine_b226  M21 x1 x2))
theorem SX12_readLine_b84 (M : Mem) (x1 : Int32) (x2 : Int32) : GO miX12_readLine (72) 0 0 0 0 84 [(0, .ref 87), (1, .int x1), (2, .int x2)] [] M (fX12_readLine_b84 M x1 x2) := by
  show GO miX12_readLine (72) 0 0 0 0 84 [(0, .ref 87), (1, .int x1), (2, .int x2)] [] M (if 0 < x2 then if (gi M 87 23) = 0 then bV (fX12_stepOn M) (fun M23 => fX12_readLine_b99  M23 x1 x2) else fX12_readLine_b99  M x1 x2 else bI (fX12_is 7 M) (fun M13 v14 => if v14 = 0 then bI (fX12_is 8 M13) (fun M15 v16 => if v16 = 0 then bV (fX12_wrong M15 1) (fun M17 => fX12_readLine_b226  M17 x1 x2) else bV (fX12_sayPlot M15) (fun M19 => fX12_readLine_b226  M19 x1 x2)) else bV (fX12_sayHouse M13) (fun M21 => fX12_readLine_b226  M21 x1 x2)))
  refine g_iload_n 2 rfl rfl dX12_readLine_84 ?_
  refine g_if_le (tgt := 187) rfl dX12_readLine_85 (fun c => ?_) (fun c => ?_)
  · refine g_aload_n 0 rfl rfl dX12_readLine_187 ?_
    refine g_ldcwS (j := 7) (by decide) dX12_readLine_188 ?_
    refine g_callVI (y := miX12_is) (As := [.ref (1000 + 7)]) (rest := []) clX12 kd_87 rfl moX12_is rfl mlX12_203 (by first | decide | omega) (by decide) (by simp [Value.category]) rfl dX12_readLine_191 (SX12_is 7 (by decide) M) (fun M13 v14 => ?_)
    refine g_if_eq (tgt := 204) rfl dX12_readLine_194 (fun c => ?_) (fun c => ?_)
    · refine g_aload_n 0 rfl rfl dX12_readLine_204 ?_
      refine g_ldcwS (j := 8) (by decide) dX12_readLine_205 ?_
      refine g_callVI (y := miX12_is) (As := [.ref (1000 + 8)]) (rest := []) clX12 kd_87 rfl moX12_is rfl mlX12_203 (by first | decide | omega) (by decide) (by simp [Value.category]) rfl dX12_readLine_208 (SX12_is 8 (by decide) M13) (fun M15 v16 => ?_)
      refine g_if_eq (tgt := 221) rfl dX12_readLine_211 (fun c => ?_) (fun c => ?_)
      · refine g_aload_n 0 rfl rfl dX12_readLine_221 ?_
        refine g_iconst (v := 1) (by decide) dX12_readLine_222 ?_
        refine g_callVV (y := miX12_wrong) (As := [.int 1]) (rest := []) clX12 kd_87 rfl moX12_wrong rfl mlX12_210 (by first | decide | omega) (by decide) (by simp [Value.category]) rfl dX12_readLine_223 (SX12_wrong  M15 1) (fun M17 => ?_)
        exact GO.pick [0, 1, 2] rfl <| SX12_readLine_b226  M17 x1 x2
      · refine g_aload_n 0 rfl rfl dX12_readLine_214 ?_
        refine g_callVV (y := miX12_sayPlot) (As := []) (rest := []) clX12 kd_87 rfl moX12_sayPlot rfl mlX12_287 (by first | decide | omega) (by decide) (by simp [Value.category]) rfl dX12_readLine_215 (SX12_sayPlot  M15) (fun M19 => ?_)
        refine g_goto (tgt := 226) rfl dX12_readLine_218 ?_
        exact GO.pick [0, 1, 2] rfl <| SX12_readLine_b226  M19 x1 x2
    · refine g_aload_n 0 rfl rfl dX12_readLine_197 ?_
      refine g_callVV (y := miX12_sayHouse) (As := []) (rest := []) clX12 kd_87 rfl moX12_sayHouse rfl mlX12_282 (by first | decide | omega) (by decide) (by simp [Value.category]) rfl dX12_readLine_198 (SX12_sayHouse  M13) (fun M21 => ?_)
      refine g_goto (tgt := 226) rfl dX12_readLine_201 ?_
      exact GO.pick [0, 1, 2] rfl <| SX12_readLine_b226  M21 x1 x2
  · refine g_aload_n 0 rfl rfl dX12_readLine_88 ?_
    refine g_getI (k := 23) clX12 kd_87 (by decide) rfl flX12_189 dX12_readLine_89 ?_
    refine g_if_ne (tgt := 99) rfl dX12_readLine_92 (fun c => ?_) (fun c => ?_)
    · exact GO.pick [0, 1, 2] rfl <| SX12_readLine_b99  M x1 x2
    · refine g_aload_n 0 rfl rfl dX12_readLine_95 ?_
      refine g_callVV (y := miX12_stepOn) (As := []) (rest := []) clX12 kd_87 rfl moX12_stepOn rfl mlX12_214 (by first | decide | omega) (by decide) (by simp [Value.category]) rfl dX12_readLine_96 (SX12_stepOn  M) (fun M23 => ?_)
      exact GO.pick [0, 1, 2] rfl <| SX12_readLine_b99  M23 x1 x2
def fX12_readLine_b72 (M : Mem) (x1 : Int32) (s0 : Int32) : RS := if (s0 &&& x1) = 0 then fX12_readLine_b84  M x1 s0 else bV (fX12_wrong M 5) (fun M11 => fX12_readLine_b84  M11 x1 s0)
theorem SX12_readLine_b72 (M : Mem) (x1 : Int32) (s0 : Int32) : GO miX12_readLine (72) 0 0 0 0 72 [(0, .ref 87), (1, .int x1)] [.int s0] M (fX12_readLine_b72 M x1 s0) := by
  show GO miX12_readLine (72) 0 0 0 0 72 [(0, .ref 87), (1, .int x1)] [.int s0] M (if (s0 &&& x1) = 0 then fX12_readLine_b84  M x1 s0 else bV (fX12_wrong M 5) (fun M11 => fX12_readLine_b84  M11 x1 s0))
  refine g_istore_n (L' := [(2, .int s0), (0, .ref 87), (1, .int x1)]) (by decide) rfl rfl dX12_readLine_72 ?_
  refine g_iload_n 0 rfl rfl dX12_readLine_73 ?_
  refine g_iload_n 2 rfl rfl dX12_readLine_74 ?_
  refine g_iand dX12_readLine_75 ?_
  refine g_if_eq (tgt := 84) rfl dX12_readLine_76 (fun c => ?_) (fun c => ?_)
  · exact GO.pick [1, 2, 0] rfl <| SX12_readLine_b84  M x1 s0
  · refine g_aload_n 1 rfl rfl dX12_readLine_79 ?_
    refine g_iconst (v := 5) (by decide) dX12_readLine_80 ?_
    refine g_callVV (y := miX12_wrong) (As := [.int 5]) (rest := []) clX12 kd_87 rfl moX12_wrong rfl mlX12_210 (by first | decide | omega) (by decide) (by simp [Value.category]) rfl dX12_readLine_81 (SX12_wrong  M 5) (fun M11 => ?_)
    exact GO.pick [1, 2, 0] rfl <| SX12_readLine_b84  M11 x1 s0
def fX12_readLine (M : Mem) (x1 : Int32) : RS := bI (fX12_is 9 M) (fun M1 v2 => if v2 = 0 then bI (fX12_is 5 M1) (fun M3 v4 => if v4 = 0 then bI (fX12_is 10 M3) (fun M5 v6 => if v6 = 0 then bI (fX12_is 11 M5) (fun M7 v8 => if v8 = 0 then bI (fX12_is 12 M7) (fun M9 v10 => if v10 = 0 then fX12_readLine_b72  M9 x1 0 else fX12_readLine_b72  M9 x1 16) else fX12_readLine_b72  M7 x1 8) else fX12_readLine_b72  M5 x1 4) else fX12_readLine_b72  M3 x1 2) else fX12_readLine_b72  M1 x1 1)
theorem SX12_readLine (M : Mem) (x1 : Int32) : CTO (72) miX12_readLine 0 0 [.ref 87, .int x1] M (fX12_readLine  M x1) := by
  refine CTO.of (by decide) (by simp [lg_sl, Value.category]) ?_
  show GO miX12_readLine (72) 0 0 0 0 0 [(0, .ref 87), (1, .int x1)] [] M (bI (fX12_is 9 M) (fun M1 v2 => if v2 = 0 then bI (fX12_is 5 M1) (fun M3 v4 => if v4 = 0 then bI (fX12_is 10 M3) (fun M5 v6 => if v6 = 0 then bI (fX12_is 11 M5) (fun M7 v8 => if v8 = 0 then bI (fX12_is 12 M7) (fun M9 v10 => if v10 = 0 then fX12_readLine_b72  M9 x1 0 else fX12_readLine_b72  M9 x1 16) else fX12_readLine_b72  M7 x1 8) else fX12_readLine_b72  M5 x1 4) else fX12_readLine_b72  M3 x1 2) else fX12_readLine_b72  M1 x1 1))
  refine g_aload_n 0 rfl rfl dX12_readLine_0 ?_
  refine g_ldcwS (j := 9) (by decide) dX12_readLine_1 ?_
  refine g_callVI (y := miX12_is) (As := [.ref (1000 + 9)]) (rest := []) clX12 kd_87 rfl moX12_is rfl mlX12_203 (by first | decide | omega) (by decide) (by simp [Value.category]) rfl dX12_readLine_4 (SX12_is 9 (by decide) M) (fun M1 v2 => ?_)
  refine g_if_eq (tgt := 14) rfl dX12_readLine_7 (fun c => ?_) (fun c => ?_)
  · refine g_aload_n 0 rfl rfl dX12_readLine_14 ?_
    refine g_ldcS (j := 5) (by decide) dX12_readLine_15 ?_
    refine g_callVI (y := miX12_is) (As := [.ref (1000 + 5)]) (rest := []) clX12 kd_87 rfl moX12_is rfl mlX12_203 (by first | decide | omega) (by decide) (by simp [Value.category]) rfl dX12_readLine_17 (SX12_is 5 (by decide) M1) (fun M3 v4 => ?_)
    refine g_if_eq (tgt := 27) rfl dX12_readLine_20 (fun c => ?_) (fun c => ?_)
    · refine g_aload_n 0 rfl rfl dX12_readLine_27 ?_
      refine g_ldcwS (j := 10) (by decide) dX12_readLine_28 ?_
      refine g_callVI (y := miX12_is) (As := [.ref (1000 + 10)]) (rest := []) clX12 kd_87 rfl moX12_is rfl mlX12_203 (by first | decide | omega) (by decide) (by simp [Value.category]) rfl dX12_readLine_31 (SX12_is 10 (by decide) M3) (fun M5 v6 => ?_)
      refine g_if_eq (tgt := 41) rfl dX12_readLine_34 (fun c => ?_) (fun c => ?_)
      · refine g_aload_n 0 rfl rfl dX12_readLine_41 ?_
        refine g_ldcwS (j := 11) (by decide) dX12_readLine_42 ?_
        refine g_callVI (y := miX12_is) (As := [.ref (1000 + 11)]) (rest := []) clX12 kd_87 rfl moX12_is rfl mlX12_203 (by first | decide | omega) (by decide) (by simp [Value.category]) rfl dX12_readLine_45 (SX12_is 11 (by decide) M5) (fun M7 v8 => ?_)
        refine g_if_eq (tgt := 56) rfl dX12_readLine_48 (fun c => ?_) (fun c => ?_)
        · refine g_aload_n 0 rfl rfl dX12_readLine_56 ?_
          refine g_ldcwS (j := 12) (by decide) dX12_readLine_57 ?_
          refine g_callVI (y := miX12_is) (As := [.ref (1000 + 12)]) (rest := []) clX12 kd_87 rfl moX12_is rfl mlX12_203 (by first | decide | omega) (by decide) (by simp [Value.category]) rfl dX12_readLine_60 (SX12_is 12 (by decide) M7) (fun M9 v10 => ?_)
          refine g_if_eq (tgt := 71) rfl dX12_readLine_63 (fun c => ?_) (fun c => ?_)
          · refine g_iconst (v := 0) (by decide) dX12_readLine_71 ?_
            exact GO.pick [0, 1] rfl <| SX12_readLine_b72  M9 x1 0
          · refine g_bipush (v := 16) (by decide) dX12_readLine_66 ?_
            refine g_goto (tgt := 72) rfl dX12_readLine_68 ?_
            exact GO.pick [0, 1] rfl <| SX12_readLine_b72  M9 x1 16
        · refine g_bipush (v := 8) (by decide) dX12_readLine_51 ?_
          refine g_goto (tgt := 72) rfl dX12_readLine_53 ?_
          exact GO.pick [0, 1] rfl <| SX12_readLine_b72  M7 x1 8
      · refine g_iconst (v := 4) (by decide) dX12_readLine_37 ?_
        refine g_goto (tgt := 72) rfl dX12_readLine_38 ?_
        exact GO.pick [0, 1] rfl <| SX12_readLine_b72  M5 x1 4
    · refine g_iconst (v := 2) (by decide) dX12_readLine_23 ?_
      refine g_goto (tgt := 72) rfl dX12_readLine_24 ?_
      exact GO.pick [0, 1] rfl <| SX12_readLine_b72  M3 x1 2
  · refine g_iconst (v := 1) (by decide) dX12_readLine_10 ?_
    refine g_goto (tgt := 72) rfl dX12_readLine_11 ?_
    exact GO.pick [0, 1] rfl <| SX12_readLine_b72  M1 x1 1
def fX12_takeHalf_b2 (a0 : Nat) : Nat → Mem → Int32 → RS
  | 0 => fun _ _ => none
  | n + 1 => fun M x1 => if x1 < ((Int32.ofNat ((kd a0).2)) / 2) then chk (inb (((Int32.ofNat ((kd a0).2)) / 2) + x1) ((kd a0).2)) (chk (inb x1 ((kd a0).2)) (wr (si M a0 (ix x1) (gi M a0 (ix (((Int32.ofNat ((kd a0).2)) / 2) + x1)))) (fun M3 => (fX12_takeHalf_b2 a0 n) M3 (x1 + 1)))) else some (M, .inr none)
theorem SX12_takeHalf_b2 (a0 : Nat) (h0 : a0 ∈ [90, 91, 92, 93, 94, 95, 96, 97, 98, 99]) (n : Nat) : ∀ (M : Mem) (x1 : Int32), GO miX12_takeHalf (0) 0 0 0 0 2 [(0, .ref a0), (1, .int x1)] [] M (fX12_takeHalf_b2 a0 n M x1) := by
  induction n with
  | zero => intro M x1 ; exact GO.none
  | succ n hrec2 =>
    intro M x1 
    show GO miX12_takeHalf (0) 0 0 0 0 2 [(0, .ref a0), (1, .int x1)] [] M (if x1 < ((Int32.ofNat ((kd a0).2)) / 2) then chk (inb (((Int32.ofNat ((kd a0).2)) / 2) + x1) ((kd a0).2)) (chk (inb x1 ((kd a0).2)) (wr (si M a0 (ix x1) (gi M a0 (ix (((Int32.ofNat ((kd a0).2)) / 2) + x1)))) (fun M3 => (fX12_takeHalf_b2 a0 n) M3 (x1 + 1)))) else some (M, .inr none))
    refine g_iload_n 1 rfl rfl dX12_takeHalf_2 ?_
    refine g_aload_n 0 rfl rfl dX12_takeHalf_3 ?_
    refine g_alen (v := Int32.ofNat ((kd a0).2)) (kv_d90_91_92_93_94_95_96_97_98_99_0 _ h0) (by decide) rfl dX12_takeHalf_4 ?_
    refine g_iconst (v := 2) (by decide) dX12_takeHalf_5 ?_
    refine g_idiv (by decide) dX12_takeHalf_6 ?_
    refine g_icmp_ge (tgt := 27) rfl dX12_takeHalf_7 (fun c => ?_) (fun c => ?_)
    · exact g_vreturn rfl (by decide) (by decide) dX12_takeHalf_27
    · refine g_aload_n 0 rfl rfl dX12_takeHalf_10 ?_
      refine g_iload_n 1 rfl rfl dX12_takeHalf_11 ?_
      refine g_aload_n 0 rfl rfl dX12_takeHalf_12 ?_
      refine g_aload_n 0 rfl rfl dX12_takeHalf_13 ?_
      refine g_alen (v := Int32.ofNat ((kd a0).2)) (kv_d90_91_92_93_94_95_96_97_98_99_0 _ h0) (by decide) rfl dX12_takeHalf_14 ?_
      refine g_iconst (v := 2) (by decide) dX12_takeHalf_15 ?_
      refine g_idiv (by decide) dX12_takeHalf_16 ?_
      refine g_iload_n 1 rfl rfl dX12_takeHalf_17 ?_
      refine g_iadd dX12_takeHalf_18 ?_
      refine g_ald (kv_d90_91_92_93_94_95_96_97_98_99_0 _ h0) dX12_takeHalf_19 (fun hi1 => ?_)
      refine g_ast (kv_d90_91_92_93_94_95_96_97_98_99_0 _ h0) dX12_takeHalf_20 (fun hi2 => ?_)
      refine GO.wr (fun M3 => ?_)
      refine g_iinc (v := x1 + 1) (L' := [(1, .int (x1 + 1)), (0, .ref a0)]) 1 rfl rfl (by decide) rfl dX12_takeHalf_21 ?_
      refine g_goto (tgt := 2) rfl dX12_takeHalf_24 ?_
      exact GO.pick [1, 0] rfl <| hrec2 M3 (x1 + 1)
def fX12_takeHalf (a0 : Nat) (M : Mem)  : RS := fX12_takeHalf_b2 a0 FU M 0
theorem SX12_takeHalf (a0 : Nat) (h0 : a0 ∈ [90, 91, 92, 93, 94, 95, 96, 97, 98, 99]) (M : Mem)  : CTO (0) miX12_takeHalf 0 0 [.ref a0] M (fX12_takeHalf a0 M ) := by
  refine CTO.of (by decide) (by simp [lg_sl, Value.category]) ?_
  show GO miX12_takeHalf (0) 0 0 0 0 0 [(0, .ref a0)] [] M (fX12_takeHalf_b2 a0 FU M 0)
  refine g_iconst (v := 0) (by decide) dX12_takeHalf_0 ?_
  refine g_istore_n (L' := [(1, .int 0), (0, .ref a0)]) (by decide) rfl rfl dX12_takeHalf_1 ?_
  exact GO.pick [1, 0] rfl <| SX12_takeHalf_b2 a0 h0 FU M 0
def fX12_ownerOf_b2 : Nat → Mem → Int32 → Int32 → RS
  | 0 => fun _ _ _ => none
  | n + 1 => fun M x1 x2 => if x2 < (gi M 90 0) then chk (inb x2 8) (if (gi M 103 (ix x2)) = x1 then some (M, .inr (some (.int x2))) else (fX12_ownerOf_b2 n) M x1 (x2 + 1)) else some (M, .inr (some (.int (-1))))
theorem SX12_ownerOf_b2 (n : Nat) : ∀ (M : Mem) (x1 : Int32) (x2 : Int32), GO miX12_ownerOf (0) 0 0 0 0 2 [(0, .ref 87), (1, .int x1), (2, .int x2)] [] M (fX12_ownerOf_b2 n M x1 x2) := by
  induction n with
  | zero => intro M x1 x2 ; exact GO.none
  | succ n hrec2 =>
    intro M x1 x2 
    show GO miX12_ownerOf (0) 0 0 0 0 2 [(0, .ref 87), (1, .int x1), (2, .int x2)] [] M (if x2 < (gi M 90 0) then chk (inb x2 8) (if (gi M 103 (ix x2)) = x1 then some (M, .inr (some (.int x2))) else (fX12_ownerOf_b2 n) M x1 (x2 + 1)) else some (M, .inr (some (.int (-1)))))
    refine g_iload_n 2 rfl rfl dX12_ownerOf_2 ?_
    refine g_aload_n 0 rfl rfl dX12_ownerOf_3 ?_
    refine g_getR (k := 4) (b := 90) clX12 kd_87 (by decide) rfl rfl flX12_35 dX12_ownerOf_4 ?_
    refine g_iconst (v := 0) (by decide) dX12_ownerOf_7 ?_
    refine g_aldL (j := 0) kd_90 (by decide) (by decide) dX12_ownerOf_8 ?_
    refine g_icmp_ge (tgt := 30) rfl dX12_ownerOf_9 (fun c => ?_) (fun c => ?_)
    · refine g_iconst (v := (-1)) (by decide) dX12_ownerOf_30 ?_
      exact g_ireturn rfl (by decide) (by decide) dX12_ownerOf_31 rfl rfl
    · refine g_aload_n 0 rfl rfl dX12_ownerOf_12 ?_
      refine g_getR (k := 28) (b := 103) clX12 kd_87 (by decide) rfl rfl flX12_76 dX12_ownerOf_13 ?_
      refine g_iload_n 2 rfl rfl dX12_ownerOf_16 ?_
      refine g_ald kd_103 dX12_ownerOf_17 (fun hi1 => ?_)
      refine g_iload_n 1 rfl rfl dX12_ownerOf_18 ?_
      refine g_icmp_ne (tgt := 24) rfl dX12_ownerOf_19 (fun c => ?_) (fun c => ?_)
      · refine g_iinc (v := x2 + 1) (L' := [(2, .int (x2 + 1)), (0, .ref 87), (1, .int x1)]) 2 rfl rfl (by decide) rfl dX12_ownerOf_24 ?_
        refine g_goto (tgt := 2) rfl dX12_ownerOf_27 ?_
        exact GO.pick [1, 2, 0] rfl <| hrec2 M x1 (x2 + 1)
      · refine g_iload_n 2 rfl rfl dX12_ownerOf_22 ?_
        exact g_ireturn rfl (by decide) (by decide) dX12_ownerOf_23 rfl rfl
def fX12_ownerOf (M : Mem) (x1 : Int32) : RS := fX12_ownerOf_b2  FU M x1 0
theorem SX12_ownerOf (M : Mem) (x1 : Int32) : CTO (0) miX12_ownerOf 0 0 [.ref 87, .int x1] M (fX12_ownerOf  M x1) := by
  refine CTO.of (by decide) (by simp [lg_sl, Value.category]) ?_
  show GO miX12_ownerOf (0) 0 0 0 0 0 [(0, .ref 87), (1, .int x1)] [] M (fX12_ownerOf_b2  FU M x1 0)
  refine g_iconst (v := 0) (by decide) dX12_ownerOf_0 ?_
  refine g_istore_n (L' := [(2, .int 0), (0, .ref 87), (1, .int x1)]) (by decide) rfl rfl dX12_ownerOf_1 ?_
  exact GO.pick [1, 2, 0] rfl <| SX12_ownerOf_b2  FU M x1 0
def fX12_strengthOf (M : Mem) (x1 : Int32) : RS := bI (fX12_isOf M (gi M 87 35) x1) (fun M1 v2 => if v2 = 0 then chk (inb x1 16) (some (M1, .inr (some (.int (gi M1 91 (ix x1)))))) else chk (inb x1 16) (some (M1, .inr (some (.int (gi M1 92 (ix x1)))))))
theorem SX12_strengthOf (M : Mem) (x1 : Int32) : CTO (1) miX12_strengthOf 0 0 [.ref 87, .int x1] M (fX12_strengthOf  M x1) := by
  refine CTO.of (by decide) (by simp [lg_sl, Value.category]) ?_
  show GO miX12_strengthOf (1) 0 0 0 0 0 [(0, .ref 87), (1, .int x1)] [] M (bI (fX12_isOf M (gi M 87 35) x1) (fun M1 v2 => if v2 = 0 then chk (inb x1 16) (some (M1, .inr (some (.int (gi M1 91 (ix x1)))))) else chk (inb x1 16) (some (M1, .inr (some (.int (gi M1 92 (ix x1))))))))
  refine g_aload_n 0 rfl rfl dX12_strengthOf_0 ?_
  refine g_getI (k := 35) clX12 kd_87 (by decide) rfl flX12_314 dX12_strengthOf_1 ?_
  refine g_iload_n 1 rfl rfl dX12_strengthOf_4 ?_
  refine g_callSI (y := miX12_isOf) (As := [.int (gi M 87 35), .int x1]) (rest := []) moX12_isOf rfl mlX12_333 (by first | decide | omega) (by decide) (by simp [Value.category]) rfl dX12_strengthOf_5 (SX12_isOf  M (gi M 87 35) x1) (fun M1 v2 => ?_)
  refine g_if_eq (tgt := 20) rfl dX12_strengthOf_8 (fun c => ?_) (fun c => ?_)
  · refine g_aload_n 0 rfl rfl dX12_strengthOf_20 ?_
    refine g_getR (k := 5) (b := 91) clX12 kd_87 (by decide) rfl rfl flX12_39 dX12_strengthOf_21 ?_
    refine g_iload_n 1 rfl rfl dX12_strengthOf_24 ?_
    refine g_ald kd_91 dX12_strengthOf_25 (fun hi3 => ?_)
    exact g_ireturn rfl (by decide) (by decide) dX12_strengthOf_26 rfl rfl
  · refine g_aload_n 0 rfl rfl dX12_strengthOf_11 ?_
    refine g_getR (k := 6) (b := 92) clX12 kd_87 (by decide) rfl rfl flX12_42 dX12_strengthOf_12 ?_
    refine g_iload_n 1 rfl rfl dX12_strengthOf_15 ?_
    refine g_ald kd_92 dX12_strengthOf_16 (fun hi4 => ?_)
    refine g_goto (tgt := 26) rfl dX12_strengthOf_17 ?_
    exact g_ireturn rfl (by decide) (by decide) dX12_strengthOf_26 rfl rfl
def fX12_walkOf (M : Mem) (x1 : Int32) : RS := chk (inb x1 18) (chk (inb x1 18) (some (M, .inr (some (.int ((if 0 ≤ ((gi M 94 (ix x1)) - (gi M 87 36)) then ((gi M 94 (ix x1)) - (gi M 87 36)) else 0 - ((gi M 94 (ix x1)) - (gi M 87 36))) + (if 0 ≤ ((gi M 95 (ix x1)) - (gi M 87 37)) then ((gi M 95 (ix x1)) - (gi M 87 37)) else 0 - ((gi M 95 (ix x1)) - (gi M 87 37)))))))))
theorem SX12_walkOf (M : Mem) (x1 : Int32) : CTO (1) miX12_walkOf 0 0 [.ref 87, .int x1] M (fX12_walkOf  M x1) := by
  refine CTO.of (by decide) (by simp [lg_sl, Value.category]) ?_
  show GO miX12_walkOf (1) 0 0 0 0 0 [(0, .ref 87), (1, .int x1)] [] M (chk (inb x1 18) (chk (inb x1 18) (some (M, .inr (some (.int ((if 0 ≤ ((gi M 94 (ix x1)) - (gi M 87 36)) then ((gi M 94 (ix x1)) - (gi M 87 36)) else 0 - ((gi M 94 (ix x1)) - (gi M 87 36))) + (if 0 ≤ ((gi M 95 (ix x1)) - (gi M 87 37)) then ((gi M 95 (ix x1)) - (gi M 87 37)) else 0 - ((gi M 95 (ix x1)) - (gi M 87 37))))))))))
  refine g_aload_n 0 rfl rfl dX12_walkOf_0 ?_
  refine g_getR (k := 8) (b := 94) clX12 kd_87 (by decide) rfl rfl flX12_46 dX12_walkOf_1 ?_
  refine g_iload_n 1 rfl rfl dX12_walkOf_4 ?_
  refine g_ald kd_94 dX12_walkOf_5 (fun hi1 => ?_)
  refine g_aload_n 0 rfl rfl dX12_walkOf_6 ?_
  refine g_getI (k := 36) clX12 kd_87 (by decide) rfl flX12_134 dX12_walkOf_7 ?_
  refine g_isub dX12_walkOf_10 ?_
  refine g_mabs mlX12_336 ms_abs mt_Math mc_abs (by first | decide | omega) (by decide) (by simp [Value.category]) dX12_walkOf_11 ?_
  refine g_aload_n 0 rfl rfl dX12_walkOf_14 ?_
  refine g_getR (k := 9) (b := 95) clX12 kd_87 (by decide) rfl rfl flX12_49 dX12_walkOf_15 ?_
  refine g_iload_n 1 rfl rfl dX12_walkOf_18 ?_
  refine g_ald kd_95 dX12_walkOf_19 (fun hi2 => ?_)
  refine g_aload_n 0 rfl rfl dX12_walkOf_20 ?_
  refine g_getI (k := 37) clX12 kd_87 (by decide) rfl flX12_137 dX12_walkOf_21 ?_
  refine g_isub dX12_walkOf_24 ?_
  refine g_mabs mlX12_336 ms_abs mt_Math mc_abs (by first | decide | omega) (by decide) (by simp [Value.category]) dX12_walkOf_25 ?_
  refine g_iadd dX12_walkOf_28 ?_
  exact g_ireturn rfl (by decide) (by decide) dX12_walkOf_29 rfl rfl
def fX12_askOf_b67 (M : Mem) (s0 : Int32) (s1 : Int32) : RS := chk (inb s1 7) (wr (si M 106 (ix s1) s0) (fun M14 => some (M14, .inr none)))
theorem SX12_askOf_b67 (M : Mem) (s0 : Int32) (s1 : Int32) : GO miX12_askOf (2) 0 0 0 0 67 [] [.int s0, .int s1, .ref 106] M (fX12_askOf_b67 M s0 s1) := by
  show GO miX12_askOf (2) 0 0 0 0 67 [] [.int s0, .int s1, .ref 106] M (chk (inb s1 7) (wr (si M 106 (ix s1) s0) (fun M14 => some (M14, .inr none))))
  refine g_ast kd_106 dX12_askOf_67 (fun hi13 => ?_)
  refine GO.wr (fun M14 => ?_)
  exact g_vreturn rfl (by decide) (by decide) dX12_askOf_68
def fX12_askOf (M : Mem) (x1 : Int32) (x2 : Int32) : RS := bI (fX12_strengthOf M x1) (fun M1 v2 => wr (si M1 106 0 v2) (fun M3 => chk (inb x1 16) (wr (si M3 106 1 (gi M3 93 (ix x1))) (fun M5 => chk (inb x2 18) (wr (si M5 106 2 (gi M5 96 (ix x2))) (fun M7 => bI (fX12_walkOf M7 x2) (fun M8 v9 => wr (si M8 106 3 v9) (fun M10 => bI (fX12_isOf M10 (gi M10 87 35) x1) (fun M11 v12 => if v12 = 0 then fX12_askOf_b67  M11 0 4 else fX12_askOf_b67  M11 1 4)))))))))
theorem SX12_askOf (M : Mem) (x1 : Int32) (x2 : Int32) : CTO (2) miX12_askOf 0 0 [.ref 87, .int x1, .int x2] M (fX12_askOf  M x1 x2) := by
  refine CTO.of (by decide) (by simp [lg_sl, Value.category]) ?_
  show GO miX12_askOf (2) 0 0 0 0 0 [(0, .ref 87), (1, .int x1), (2, .int x2)] [] M (bI (fX12_strengthOf M x1) (fun M1 v2 => wr (si M1 106 0 v2) (fun M3 => chk (inb x1 16) (wr (si M3 106 1 (gi M3 93 (ix x1))) (fun M5 => chk (inb x2 18) (wr (si M5 106 2 (gi M5 96 (ix x2))) (fun M7 => bI (fX12_walkOf M7 x2) (fun M8 v9 => wr (si M8 106 3 v9) (fun M10 => bI (fX12_isOf M10 (gi M10 87 35) x1) (fun M11 v12 => if v12 = 0 then fX12_askOf_b67  M11 0 4 else fX12_askOf_b67  M11 1 4))))))))))
  refine g_aload_n 0 rfl rfl dX12_askOf_0 ?_
  refine g_getR (k := 40) (b := 106) clX12 kd_87 (by decide) rfl rfl flX12_85 dX12_askOf_1 ?_
  refine g_iconst (v := 0) (by decide) dX12_askOf_4 ?_
  refine g_aload_n 0 rfl rfl dX12_askOf_5 ?_
  refine g_iload_n 1 rfl rfl dX12_askOf_6 ?_
  refine g_callVI (y := miX12_strengthOf) (As := [.int x1]) (rest := [.int 0, .ref 106]) clX12 kd_87 rfl moX12_strengthOf rfl mlX12_339 (by first | decide | omega) (by decide) (by simp [Value.category]) rfl dX12_askOf_7 (SX12_strengthOf  M x1) (fun M1 v2 => ?_)
  refine g_astL (j := 0) kd_106 (by decide) (by decide) dX12_askOf_10 ?_
  refine GO.wr (fun M3 => ?_)
  refine g_aload_n 0 rfl rfl dX12_askOf_11 ?_
  refine g_getR (k := 40) (b := 106) clX12 kd_87 (by decide) rfl rfl flX12_85 dX12_askOf_12 ?_
  refine g_iconst (v := 1) (by decide) dX12_askOf_15 ?_
  refine g_aload_n 0 rfl rfl dX12_askOf_16 ?_
  refine g_getR (k := 7) (b := 93) clX12 kd_87 (by decide) rfl rfl flX12_44 dX12_askOf_17 ?_
  refine g_iload_n 1 rfl rfl dX12_askOf_20 ?_
  refine g_ald kd_93 dX12_askOf_21 (fun hi4 => ?_)
  refine g_astL (j := 1) kd_106 (by decide) (by decide) dX12_askOf_22 ?_
  refine GO.wr (fun M5 => ?_)
  refine g_aload_n 0 rfl rfl dX12_askOf_23 ?_
  refine g_getR (k := 40) (b := 106) clX12 kd_87 (by decide) rfl rfl flX12_85 dX12_askOf_24 ?_
  refine g_iconst (v := 2) (by decide) dX12_askOf_27 ?_
  refine g_aload_n 0 rfl rfl dX12_askOf_28 ?_
  refine g_getR (k := 10) (b := 96) clX12 kd_87 (by decide) rfl rfl flX12_52 dX12_askOf_29 ?_
  refine g_iload_n 2 rfl rfl dX12_askOf_32 ?_
  refine g_ald kd_96 dX12_askOf_33 (fun hi6 => ?_)
  refine g_astL (j := 2) kd_106 (by decide) (by decide) dX12_askOf_34 ?_
  refine GO.wr (fun M7 => ?_)
  refine g_aload_n 0 rfl rfl dX12_askOf_35 ?_
  refine g_getR (k := 40) (b := 106) clX12 kd_87 (by decide) rfl rfl flX12_85 dX12_askOf_36 ?_
  refine g_iconst (v := 3) (by decide) dX12_askOf_39 ?_
  refine g_aload_n 0 rfl rfl dX12_askOf_40 ?_
  refine g_iload_n 2 rfl rfl dX12_askOf_41 ?_
  refine g_callVI (y := miX12_walkOf) (As := [.int x2]) (rest := [.int 3, .ref 106]) clX12 kd_87 rfl moX12_walkOf rfl mlX12_342 (by first | decide | omega) (by decide) (by simp [Value.category]) rfl dX12_askOf_42 (SX12_walkOf  M7 x2) (fun M8 v9 => ?_)
  refine g_astL (j := 3) kd_106 (by decide) (by decide) dX12_askOf_45 ?_
  refine GO.wr (fun M10 => ?_)
  refine g_aload_n 0 rfl rfl dX12_askOf_46 ?_
  refine g_getR (k := 40) (b := 106) clX12 kd_87 (by decide) rfl rfl flX12_85 dX12_askOf_47 ?_
  refine g_iconst (v := 4) (by decide) dX12_askOf_50 ?_
  refine g_aload_n 0 rfl rfl dX12_askOf_51 ?_
  refine g_getI (k := 35) clX12 kd_87 (by decide) rfl flX12_314 dX12_askOf_52 ?_
  refine g_iload_n 1 rfl rfl dX12_askOf_55 ?_
  refine g_callSI (y := miX12_isOf) (As := [.int (gi M10 87 35), .int x1]) (rest := [.int 4, .ref 106]) moX12_isOf rfl mlX12_333 (by first | decide | omega) (by decide) (by simp [Value.category]) rfl dX12_askOf_56 (SX12_isOf  M10 (gi M10 87 35) x1) (fun M11 v12 => ?_)
  refine g_if_eq (tgt := 66) rfl dX12_askOf_59 (fun c => ?_) (fun c => ?_)
  · refine g_iconst (v := 0) (by decide) dX12_askOf_66 ?_
    exact GO.pick [] rfl <| SX12_askOf_b67  M11 0 4
  · refine g_iconst (v := 1) (by decide) dX12_askOf_62 ?_
    refine g_goto (tgt := 67) rfl dX12_askOf_63 ?_
    exact GO.pick [] rfl <| SX12_askOf_b67  M11 1 4
def fX12_reckon_b112 (M : Mem)  : RS := some (M, .inr (some (.int 1)))
theorem SX12_reckon_b112 (M : Mem)  : GO miX12_reckon (0) 0 0 0 0 112 [] [] M (fX12_reckon_b112 M ) := by
  show GO miX12_reckon (0) 0 0 0 0 112 [] [] M (some (M, .inr (some (.int 1))))
  refine g_iconst (v := 1) (by decide) dX12_reckon_112 ?_
  refine g_goto (tgt := 117) rfl dX12_reckon_113 ?_
  exact g_ireturn rfl (by decide) (by decide) dX12_reckon_117 rfl rfl
def fX12_reckon (M : Mem) (x0 : Int32) (x1 : Int32) (x2 : Int32) : RS := if x0 = (-26) then if x1 = 0 then some (M, .inr (some (.int 0))) else if x2 = 0 then some (M, .inr (some (.int 0))) else some (M, .inr (some (.int 1))) else if x0 = (-25) then if x1 = x2 then some (M, .inr (some (.int 1))) else some (M, .inr (some (.int 0))) else if x0 = (-24) then if x1 < x2 then some (M, .inr (some (.int 1))) else some (M, .inr (some (.int 0))) else if x0 = (-23) then if x2 = 0 then some (M, .inr (some (.int 0))) else chk (!decide (x2 = 0)) (some (M, .inr (some (.int (x1 / x2))))) else if x0 = (-22) then some (M, .inr (some (.int (x1 * x2)))) else if x0 = (-21) then some (M, .inr (some (.int (x1 - x2)))) else if x0 = (-20) then some (M, .inr (some (.int (x1 + x2)))) else if x1 = 0 then if x2 = 0 then some (M, .inr (some (.int 0))) else fX12_reckon_b112  M else fX12_reckon_b112  M
theorem SX12_reckon (M : Mem) (x0 : Int32) (x1 : Int32) (x2 : Int32) : CTO (0) miX12_reckon 0 0 [.int x0, .int x1, .int x2] M (fX12_reckon  M x0 x1 x2) := by
  refine CTO.of (by decide) (by simp [lg_sl, Value.category]) ?_
  show GO miX12_reckon (0) 0 0 0 0 0 [(0, .int x0), (1, .int x1), (2, .int x2)] [] M (if x0 = (-26) then if x1 = 0 then some (M, .inr (some (.int 0))) else if x2 = 0 then some (M, .inr (some (.int 0))) else some (M, .inr (some (.int 1))) else if x0 = (-25) then if x1 = x2 then some (M, .inr (some (.int 1))) else some (M, .inr (some (.int 0))) else if x0 = (-24) then if x1 < x2 then some (M, .inr (some (.int 1))) else some (M, .inr (some (.int 0))) else if x0 = (-23) then if x2 = 0 then some (M, .inr (some (.int 0))) else chk (!decide (x2 = 0)) (some (M, .inr (some (.int (x1 / x2))))) else if x0 = (-22) then some (M, .inr (some (.int (x1 * x2)))) else if x0 = (-21) then some (M, .inr (some (.int (x1 - x2)))) else if x0 = (-20) then some (M, .inr (some (.int (x1 + x2)))) else if x1 = 0 then if x2 = 0 then some (M, .inr (some (.int 0))) else fX12_reckon_b112  M else fX12_reckon_b112  M)
  refine g_iload_n 0 rfl rfl dX12_reckon_0 ?_
  refine g_tabI (tgt := 90) (off := 89) (-26) rfl (by decide) (by decide) (by decide) dX12_reckon_1 ?_ (fun cm26 => ?_)
  · refine g_iload_n 1 rfl rfl dX12_reckon_90 ?_
    refine g_if_eq (tgt := 102) rfl dX12_reckon_91 (fun c => ?_) (fun c => ?_)
    · refine g_iconst (v := 0) (by decide) dX12_reckon_102 ?_
      exact g_ireturn rfl (by decide) (by decide) dX12_reckon_103 rfl rfl
    · refine g_iload_n 2 rfl rfl dX12_reckon_94 ?_
      refine g_if_eq (tgt := 102) rfl dX12_reckon_95 (fun c => ?_) (fun c => ?_)
      · refine g_iconst (v := 0) (by decide) dX12_reckon_102 ?_
        exact g_ireturn rfl (by decide) (by decide) dX12_reckon_103 rfl rfl
      · refine g_iconst (v := 1) (by decide) dX12_reckon_98 ?_
        refine g_goto (tgt := 103) rfl dX12_reckon_99 ?_
        exact g_ireturn rfl (by decide) (by decide) dX12_reckon_103 rfl rfl
  refine g_tabI (tgt := 79) (off := 78) (-25) rfl (by decide) (by decide) (by decide) dX12_reckon_1 ?_ (fun cm25 => ?_)
  · refine g_iload_n 1 rfl rfl dX12_reckon_79 ?_
    refine g_iload_n 2 rfl rfl dX12_reckon_80 ?_
    refine g_icmp_ne (tgt := 88) rfl dX12_reckon_81 (fun c => ?_) (fun c => ?_)
    · refine g_iconst (v := 0) (by decide) dX12_reckon_88 ?_
      exact g_ireturn rfl (by decide) (by decide) dX12_reckon_89 rfl rfl
    · refine g_iconst (v := 1) (by decide) dX12_reckon_84 ?_
      refine g_goto (tgt := 89) rfl dX12_reckon_85 ?_
      exact g_ireturn rfl (by decide) (by decide) dX12_reckon_89 rfl rfl
  refine g_tabI (tgt := 68) (off := 67) (-24) rfl (by decide) (by decide) (by decide) dX12_reckon_1 ?_ (fun cm24 => ?_)
  · refine g_iload_n 1 rfl rfl dX12_reckon_68 ?_
    refine g_iload_n 2 rfl rfl dX12_reckon_69 ?_
    refine g_icmp_ge (tgt := 77) rfl dX12_reckon_70 (fun c => ?_) (fun c => ?_)
    · refine g_iconst (v := 0) (by decide) dX12_reckon_77 ?_
      exact g_ireturn rfl (by decide) (by decide) dX12_reckon_78 rfl rfl
    · refine g_iconst (v := 1) (by decide) dX12_reckon_73 ?_
      refine g_goto (tgt := 78) rfl dX12_reckon_74 ?_
      exact g_ireturn rfl (by decide) (by decide) dX12_reckon_78 rfl rfl
  refine g_tabI (tgt := 56) (off := 55) (-23) rfl (by decide) (by decide) (by decide) dX12_reckon_1 ?_ (fun cm23 => ?_)
  · refine g_iload_n 2 rfl rfl dX12_reckon_56 ?_
    refine g_if_ne (tgt := 64) rfl dX12_reckon_57 (fun c => ?_) (fun c => ?_)
    · refine g_iload_n 1 rfl rfl dX12_reckon_64 ?_
      refine g_iload_n 2 rfl rfl dX12_reckon_65 ?_
      refine GO.chk fun hy => ?_
      refine g_idiv (by simpa using hy) dX12_reckon_66 ?_
      exact g_ireturn rfl (by decide) (by decide) dX12_reckon_67 rfl rfl
    · refine g_iconst (v := 0) (by decide) dX12_reckon_60 ?_
      refine g_goto (tgt := 67) rfl dX12_reckon_61 ?_
      exact g_ireturn rfl (by decide) (by decide) dX12_reckon_67 rfl rfl
  refine g_tabI (tgt := 52) (off := 51) (-22) rfl (by decide) (by decide) (by decide) dX12_reckon_1 ?_ (fun cm22 => ?_)
  · refine g_iload_n 1 rfl rfl dX12_reckon_52 ?_
    refine g_iload_n 2 rfl rfl dX12_reckon_53 ?_
    refine g_imul dX12_reckon_54 ?_
    exact g_ireturn rfl (by decide) (by decide) dX12_reckon_55 rfl rfl
  refine g_tabI (tgt := 48) (off := 47) (-21) rfl (by decide) (by decide) (by decide) dX12_reckon_1 ?_ (fun cm21 => ?_)
  · refine g_iload_n 1 rfl rfl dX12_reckon_48 ?_
    refine g_iload_n 2 rfl rfl dX12_reckon_49 ?_
    refine g_isub dX12_reckon_50 ?_
    exact g_ireturn rfl (by decide) (by decide) dX12_reckon_51 rfl rfl
  refine g_tabI (tgt := 44) (off := 43) (-20) rfl (by decide) (by decide) (by decide) dX12_reckon_1 ?_ (fun cm20 => ?_)
  · refine g_iload_n 1 rfl rfl dX12_reckon_44 ?_
    refine g_iload_n 2 rfl rfl dX12_reckon_45 ?_
    refine g_iadd dX12_reckon_46 ?_
    exact g_ireturn rfl (by decide) (by decide) dX12_reckon_47 rfl rfl
  refine g_tabZ (tgt := 104) [(-26), (-25), (-24), (-23), (-22), (-21), (-20)] (List.forall_mem_cons.mpr ⟨cm26, (List.forall_mem_cons.mpr ⟨cm25, (List.forall_mem_cons.mpr ⟨cm24, (List.forall_mem_cons.mpr ⟨cm23, (List.forall_mem_cons.mpr ⟨cm22, (List.forall_mem_cons.mpr ⟨cm21, (List.forall_mem_cons.mpr ⟨cm20, (fun _ h => absurd h List.not_mem_nil)⟩)⟩)⟩)⟩)⟩)⟩)⟩) rfl dX12_reckon_1 (by decide) (by decide) ?_
  refine g_iload_n 1 rfl rfl dX12_reckon_104 ?_
  refine g_if_ne (tgt := 112) rfl dX12_reckon_105 (fun c => ?_) (fun c => ?_)
  · exact GO.pick [] rfl <| SX12_reckon_b112  M
  · refine g_iload_n 2 rfl rfl dX12_reckon_108 ?_
    refine g_if_eq (tgt := 116) rfl dX12_reckon_109 (fun c => ?_) (fun c => ?_)
    · refine g_iconst (v := 0) (by decide) dX12_reckon_116 ?_
      exact g_ireturn rfl (by decide) (by decide) dX12_reckon_117 rfl rfl
    · exact GO.pick [] rfl <| SX12_reckon_b112  M
def fX12_valueNow_b119 (a1 : Nat) (rec5 : Mem → Int32 → Int32 → Int32 → RS) (M : Mem) (x2 : Int32) (x3 : Int32) (x4 : Int32) : RS := rec5 M x2 x3 (x4 + 1)
theorem SX12_valueNow_b119 (a1 : Nat) (h1 : a1 ∈ [98, 99]) (rec5 : Mem → Int32 → Int32 → Int32 → RS) (hrec5 : ∀ (M : Mem) (x2 : Int32) (x3 : Int32) (x4 : Int32), GO miX12_valueNow (1) 0 0 0 0 5 [(0, .ref 87), (1, .ref a1), (2, .int x2), (3, .int x3), (4, .int x4)] [] M (rec5 M x2 x3 x4)) (M : Mem) (x2 : Int32) (x3 : Int32) (x4 : Int32) : GO miX12_valueNow (1) 0 0 0 0 119 [(0, .ref 87), (1, .ref a1), (2, .int x2), (3, .int x3), (4, .int x4)] [] M (fX12_valueNow_b119 a1 rec5 M x2 x3 x4) := by
  show GO miX12_valueNow (1) 0 0 0 0 119 [(0, .ref 87), (1, .ref a1), (2, .int x2), (3, .int x3), (4, .int x4)] [] M (rec5 M x2 x3 (x4 + 1))
  refine g_iinc (v := x4 + 1) (L' := [(4, .int (x4 + 1)), (0, .ref 87), (1, .ref a1), (2, .int x2), (3, .int x3)]) 4 rfl rfl (by decide) rfl dX12_valueNow_119 ?_
  refine g_goto (tgt := 5) rfl dX12_valueNow_122 ?_
  exact GO.pick [1, 2, 3, 4, 0] rfl <| hrec5 M x2 x3 (x4 + 1)
def fX12_valueNow_b48 (a1 : Nat) (rec5 : Mem → Int32 → Int32 → Int32 → RS) (M : Mem) (x2 : Int32) (x3 : Int32) (x4 : Int32) (s0 : Int32) (s1 : Int32) : RS := chk (inb s1 64) (wr (si M 107 (ix s1) s0) (fun M13 => fX12_valueNow_b119 a1 rec5 M13 x2 (x3 + 1) x4))
theorem SX12_valueNow_b48 (a1 : Nat) (h1 : a1 ∈ [98, 99]) (rec5 : Mem → Int32 → Int32 → Int32 → RS) (hrec5 : ∀ (M : Mem) (x2 : Int32) (x3 : Int32) (x4 : Int32), GO miX12_valueNow (1) 0 0 0 0 5 [(0, .ref 87), (1, .ref a1), (2, .int x2), (3, .int x3), (4, .int x4)] [] M (rec5 M x2 x3 x4)) (M : Mem) (x2 : Int32) (x3 : Int32) (x4 : Int32) (s0 : Int32) (s1 : Int32) : GO miX12_valueNow (1) 0 0 0 0 48 [(0, .ref 87), (1, .ref a1), (2, .int x2), (3, .int x3), (4, .int x4)] [.int s0, .int s1, .ref 107] M (fX12_valueNow_b48 a1 rec5 M x2 x3 x4 s0 s1) := by
  show GO miX12_valueNow (1) 0 0 0 0 48 [(0, .ref 87), (1, .ref a1), (2, .int x2), (3, .int x3), (4, .int x4)] [.int s0, .int s1, .ref 107] M (chk (inb s1 64) (wr (si M 107 (ix s1) s0) (fun M13 => fX12_valueNow_b119 a1 rec5 M13 x2 (x3 + 1) x4)))
  refine g_ast kd_107 dX12_valueNow_48 (fun hi12 => ?_)
  refine GO.wr (fun M13 => ?_)
  refine g_iinc (v := x3 + 1) (L' := [(3, .int (x3 + 1)), (0, .ref 87), (1, .ref a1), (2, .int x2), (4, .int x4)]) 3 rfl rfl (by decide) rfl dX12_valueNow_49 ?_
  refine g_goto (tgt := 119) rfl dX12_valueNow_52 ?_
  exact GO.pick [1, 2, 3, 0, 4] rfl <| SX12_valueNow_b119 a1 h1 rec5 hrec5 M13 x2 (x3 + 1) x4
def fX12_valueNow_b85 (a1 : Nat) (rec5 : Mem → Int32 → Int32 → Int32 → RS) (M : Mem) (x2 : Int32) (x3 : Int32) (x4 : Int32) (s0 : Int32) (s1 : Int32) : RS := chk (inb s1 64) (wr (si M 107 (ix s1) s0) (fun M11 => fX12_valueNow_b119 a1 rec5 M11 x2 x3 x4))
theorem SX12_valueNow_b85 (a1 : Nat) (h1 : a1 ∈ [98, 99]) (rec5 : Mem → Int32 → Int32 → Int32 → RS) (hrec5 : ∀ (M : Mem) (x2 : Int32) (x3 : Int32) (x4 : Int32), GO miX12_valueNow (1) 0 0 0 0 5 [(0, .ref 87), (1, .ref a1), (2, .int x2), (3, .int x3), (4, .int x4)] [] M (rec5 M x2 x3 x4)) (M : Mem) (x2 : Int32) (x3 : Int32) (x4 : Int32) (s0 : Int32) (s1 : Int32) : GO miX12_valueNow (1) 0 0 0 0 85 [(0, .ref 87), (1, .ref a1), (2, .int x2), (3, .int x3), (4, .int x4)] [.int s0, .int s1, .ref 107] M (fX12_valueNow_b85 a1 rec5 M x2 x3 x4 s0 s1) := by
  show GO miX12_valueNow (1) 0 0 0 0 85 [(0, .ref 87), (1, .ref a1), (2, .int x2), (3, .int x3), (4, .int x4)] [.int s0, .int s1, .ref 107] M (chk (inb s1 64) (wr (si M 107 (ix s1) s0) (fun M11 => fX12_valueNow_b119 a1 rec5 M11 x2 x3 x4)))
  refine g_ast kd_107 dX12_valueNow_85 (fun hi10 => ?_)
  refine GO.wr (fun M11 => ?_)
  refine g_goto (tgt := 119) rfl dX12_valueNow_86 ?_
  exact GO.pick [0, 1, 2, 3, 4] rfl <| SX12_valueNow_b119 a1 h1 rec5 hrec5 M11 x2 x3 x4
def fX12_valueNow_b5 (a1 : Nat) : Nat → Mem → Int32 → Int32 → Int32 → RS
  | 0 => fun _ _ _ _ => none
  | n + 1 => fun M x2 x3 x4 => if x4 < x2 then chk (inb x4 1400) (if (-20) < (gi M a1 (ix x4)) then if (gi M a1 (ix x4)) < 0 then chk (inb ((-1) - (gi M a1 (ix x4))) 7) (fX12_valueNow_b48 a1 (fX12_valueNow_b5 a1 n) M x2 x3 x4 (gi M 106 (ix ((-1) - (gi M a1 (ix x4))))) x3) else fX12_valueNow_b48 a1 (fX12_valueNow_b5 a1 n) M x2 x3 x4 (gi M a1 (ix x4)) x3 else if (gi M a1 (ix x4)) = (-28) then chk (inb (x3 - 1) 64) (if (gi M 107 (ix (x3 - 1))) = 0 then fX12_valueNow_b85 a1 (fX12_valueNow_b5 a1 n) M x2 x3 x4 1 (x3 - 1) else fX12_valueNow_b85 a1 (fX12_valueNow_b5 a1 n) M x2 x3 x4 0 (x3 - 1)) else chk (inb ((x3 + (-1)) - 1) 64) (chk (inb (x3 + (-1)) 64) (bI (fX12_reckon M (gi M a1 (ix x4)) (gi M 107 (ix ((x3 + (-1)) - 1))) (gi M 107 (ix (x3 + (-1))))) (fun M4 v5 => chk (inb ((x3 + (-1)) - 1) 64) (wr (si M4 107 (ix ((x3 + (-1)) - 1)) v5) (fun M7 => fX12_valueNow_b119 a1 (fX12_valueNow_b5 a1 n) M7 x2 (x3 + (-1)) x4)))))) else some (M, .inr (some (.int (gi M 107 0))))
theorem SX12_valueNow_b5 (a1 : Nat) (h1 : a1 ∈ [98, 99]) (n : Nat) : ∀ (M : Mem) (x2 : Int32) (x3 : Int32) (x4 : Int32), GO miX12_valueNow (1) 0 0 0 0 5 [(0, .ref 87), (1, .ref a1), (2, .int x2), (3, .int x3), (4, .int x4)] [] M (fX12_valueNow_b5 a1 n M x2 x3 x4) := by
  induction n with
  | zero => intro M x2 x3 x4 ; exact GO.none
  | succ n hrec5 =>
    intro M x2 x3 x4 
    show GO miX12_valueNow (1) 0 0 0 0 5 [(0, .ref 87), (1, .ref a1), (2, .int x2), (3, .int x3), (4, .int x4)] [] M (if x4 < x2 then chk (inb x4 1400) (if (-20) < (gi M a1 (ix x4)) then if (gi M a1 (ix x4)) < 0 then chk (inb ((-1) - (gi M a1 (ix x4))) 7) (fX12_valueNow_b48 a1 (fX12_valueNow_b5 a1 n) M x2 x3 x4 (gi M 106 (ix ((-1) - (gi M a1 (ix x4))))) x3) else fX12_valueNow_b48 a1 (fX12_valueNow_b5 a1 n) M x2 x3 x4 (gi M a1 (ix x4)) x3 else if (gi M a1 (ix x4)) = (-28) then chk (inb (x3 - 1) 64) (if (gi M 107 (ix (x3 - 1))) = 0 then fX12_valueNow_b85 a1 (fX12_valueNow_b5 a1 n) M x2 x3 x4 1 (x3 - 1) else fX12_valueNow_b85 a1 (fX12_valueNow_b5 a1 n) M x2 x3 x4 0 (x3 - 1)) else chk (inb ((x3 + (-1)) - 1) 64) (chk (inb (x3 + (-1)) 64) (bI (fX12_reckon M (gi M a1 (ix x4)) (gi M 107 (ix ((x3 + (-1)) - 1))) (gi M 107 (ix (x3 + (-1))))) (fun M4 v5 => chk (inb ((x3 + (-1)) - 1) 64) (wr (si M4 107 (ix ((x3 + (-1)) - 1)) v5) (fun M7 => fX12_valueNow_b119 a1 (fX12_valueNow_b5 a1 n) M7 x2 (x3 + (-1)) x4)))))) else some (M, .inr (some (.int (gi M 107 0)))))
    refine g_iload 4 rfl dX12_valueNow_5 ?_
    refine g_iload_n 2 rfl rfl dX12_valueNow_7 ?_
    refine g_icmp_ge (tgt := 125) rfl dX12_valueNow_8 (fun c => ?_) (fun c => ?_)
    · refine g_aload_n 0 rfl rfl dX12_valueNow_125 ?_
      refine g_getR (k := 41) (b := 107) clX12 kd_87 (by decide) rfl rfl flX12_88 dX12_valueNow_126 ?_
      refine g_iconst (v := 0) (by decide) dX12_valueNow_129 ?_
      refine g_aldL (j := 0) kd_107 (by decide) (by decide) dX12_valueNow_130 ?_
      exact g_ireturn rfl (by decide) (by decide) dX12_valueNow_131 rfl rfl
    · refine g_aload_n 1 rfl rfl dX12_valueNow_11 ?_
      refine g_iload 4 rfl dX12_valueNow_12 ?_
      refine g_ald (kv_d98_99_0 _ h1) dX12_valueNow_14 (fun hi1 => ?_)
      refine g_istore (L' := [(5, .int (gi M a1 (ix x4))), (0, .ref 87), (1, .ref a1), (2, .int x2), (3, .int x3), (4, .int x4)]) (by decide) rfl dX12_valueNow_15 ?_
      refine g_iload 0 rfl dX12_valueNow_17 ?_
      refine g_bipush (v := (-20)) (by decide) dX12_valueNow_19 ?_
      refine g_icmp_le (tgt := 55) rfl dX12_valueNow_21 (fun c => ?_) (fun c => ?_)
      · refine g_iload 0 rfl dX12_valueNow_55 ?_
        refine g_bipush (v := (-28)) (by decide) dX12_valueNow_57 ?_
        refine g_icmp_ne (tgt := 89) rfl dX12_valueNow_59 (fun c => ?_) (fun c => ?_)
        · refine g_iinc (v := x3 + (-1)) (L' := [(3, .int (x3 + (-1))), (5, .int (gi M a1 (ix x4))), (0, .ref 87), (1, .ref a1), (2, .int x2), (4, .int x4)]) 4 rfl (congrArg _ (by decide)) (by decide) rfl dX12_valueNow_89 ?_
          refine g_aload_n 2 rfl rfl dX12_valueNow_92 ?_
          refine g_getR (k := 41) (b := 107) clX12 kd_87 (by decide) rfl rfl flX12_88 dX12_valueNow_93 ?_
          refine g_iload_n 0 rfl rfl dX12_valueNow_96 ?_
          refine g_iconst (v := 1) (by decide) dX12_valueNow_97 ?_
          refine g_isub dX12_valueNow_98 ?_
          refine g_iload 1 rfl dX12_valueNow_99 ?_
          refine g_aload_n 2 rfl rfl dX12_valueNow_101 ?_
          refine g_getR (k := 41) (b := 107) clX12 kd_87 (by decide) rfl rfl flX12_88 dX12_valueNow_102 ?_
          refine g_iload_n 0 rfl rfl dX12_valueNow_105 ?_
          refine g_iconst (v := 1) (by decide) dX12_valueNow_106 ?_
          refine g_isub dX12_valueNow_107 ?_
          refine g_ald kd_107 dX12_valueNow_108 (fun hi2 => ?_)
          refine g_aload_n 2 rfl rfl dX12_valueNow_109 ?_
          refine g_getR (k := 41) (b := 107) clX12 kd_87 (by decide) rfl rfl flX12_88 dX12_valueNow_110 ?_
          refine g_iload_n 0 rfl rfl dX12_valueNow_113 ?_
          refine g_ald kd_107 dX12_valueNow_114 (fun hi3 => ?_)
          refine g_callSI (y := miX12_reckon) (As := [.int (gi M a1 (ix x4)), .int (gi M 107 (ix ((x3 + (-1)) - 1))), .int (gi M 107 (ix (x3 + (-1))))]) (rest := [.int ((x3 + (-1)) - 1), .ref 107]) moX12_reckon rfl mlX12_329 (by first | decide | omega) (by decide) (by simp [Value.category]) rfl dX12_valueNow_115 (SX12_reckon  M (gi M a1 (ix x4)) (gi M 107 (ix ((x3 + (-1)) - 1))) (gi M 107 (ix (x3 + (-1))))) (fun M4 v5 => ?_)
          refine g_ast kd_107 dX12_valueNow_118 (fun hi6 => ?_)
          refine GO.wr (fun M7 => ?_)
          exact GO.pick [2, 3, 4, 0, 5] rfl <| SX12_valueNow_b119 a1 h1 (fX12_valueNow_b5 a1 n) hrec5 M7 x2 (x3 + (-1)) x4
        · refine g_aload_n 1 rfl rfl dX12_valueNow_62 ?_
          refine g_getR (k := 41) (b := 107) clX12 kd_87 (by decide) rfl rfl flX12_88 dX12_valueNow_63 ?_
          refine g_iload_n 4 rfl rfl dX12_valueNow_66 ?_
          refine g_iconst (v := 1) (by decide) dX12_valueNow_67 ?_
          refine g_isub dX12_valueNow_68 ?_
          refine g_aload_n 1 rfl rfl dX12_valueNow_69 ?_
          refine g_getR (k := 41) (b := 107) clX12 kd_87 (by decide) rfl rfl flX12_88 dX12_valueNow_70 ?_
          refine g_iload_n 4 rfl rfl dX12_valueNow_73 ?_
          refine g_iconst (v := 1) (by decide) dX12_valueNow_74 ?_
          refine g_isub dX12_valueNow_75 ?_
          refine g_ald kd_107 dX12_valueNow_76 (fun hi8 => ?_)
          refine g_if_eq (tgt := 84) rfl dX12_valueNow_77 (fun c => ?_) (fun c => ?_)
          · refine g_iconst (v := 1) (by decide) dX12_valueNow_84 ?_
            exact GO.pick [1, 2, 3, 4, 5] rfl <| SX12_valueNow_b85 a1 h1 (fX12_valueNow_b5 a1 n) hrec5 M x2 x3 x4 1 (x3 - 1)
          · refine g_iconst (v := 0) (by decide) dX12_valueNow_80 ?_
            refine g_goto (tgt := 85) rfl dX12_valueNow_81 ?_
            exact GO.pick [1, 2, 3, 4, 5] rfl <| SX12_valueNow_b85 a1 h1 (fX12_valueNow_b5 a1 n) hrec5 M x2 x3 x4 0 (x3 - 1)
      · refine g_aload_n 1 rfl rfl dX12_valueNow_24 ?_
        refine g_getR (k := 41) (b := 107) clX12 kd_87 (by decide) rfl rfl flX12_88 dX12_valueNow_25 ?_
        refine g_iload_n 4 rfl rfl dX12_valueNow_28 ?_
        refine g_iload 0 rfl dX12_valueNow_29 ?_
        refine g_if_lt (tgt := 39) rfl dX12_valueNow_31 (fun c => ?_) (fun c => ?_)
        · refine g_aload_n 1 rfl rfl dX12_valueNow_39 ?_
          refine g_getR (k := 40) (b := 106) clX12 kd_87 (by decide) rfl rfl flX12_85 dX12_valueNow_40 ?_
          refine g_iconst (v := (-1)) (by decide) dX12_valueNow_43 ?_
          refine g_iload 0 rfl dX12_valueNow_44 ?_
          refine g_isub dX12_valueNow_46 ?_
          refine g_ald kd_106 dX12_valueNow_47 (fun hi9 => ?_)
          exact GO.pick [1, 2, 3, 4, 5] rfl <| SX12_valueNow_b48 a1 h1 (fX12_valueNow_b5 a1 n) hrec5 M x2 x3 x4 (gi M 106 (ix ((-1) - (gi M a1 (ix x4))))) x3
        · refine g_iload 0 rfl dX12_valueNow_34 ?_
          refine g_goto (tgt := 48) rfl dX12_valueNow_36 ?_
          exact GO.pick [1, 2, 3, 4, 5] rfl <| SX12_valueNow_b48 a1 h1 (fX12_valueNow_b5 a1 n) hrec5 M x2 x3 x4 (gi M a1 (ix x4)) x3
def fX12_valueNow (a1 : Nat) (M : Mem) (x2 : Int32) : RS := fX12_valueNow_b5 a1 FU M x2 0 0
theorem SX12_valueNow (a1 : Nat) (h1 : a1 ∈ [98, 99]) (M : Mem) (x2 : Int32) : CTO (1) miX12_valueNow 0 0 [.ref 87, .ref a1, .int x2] M (fX12_valueNow a1 M x2) := by
  refine CTO.of (by decide) (by simp [lg_sl, Value.category]) ?_
  show GO miX12_valueNow (1) 0 0 0 0 0 [(0, .ref 87), (1, .ref a1), (2, .int x2)] [] M (fX12_valueNow_b5 a1 FU M x2 0 0)
  refine g_iconst (v := 0) (by decide) dX12_valueNow_0 ?_
  refine g_istore_n (L' := [(3, .int 0), (0, .ref 87), (1, .ref a1), (2, .int x2)]) (by decide) rfl rfl dX12_valueNow_1 ?_
  refine g_iconst (v := 0) (by decide) dX12_valueNow_2 ?_
  refine g_istore (L' := [(4, .int 0), (3, .int 0), (0, .ref 87), (1, .ref a1), (2, .int x2)]) (by decide) rfl dX12_valueNow_3 ?_
  exact GO.pick [2, 3, 4, 1, 0] rfl <| SX12_valueNow_b5 a1 h1 FU M x2 0 0
def fX12_worthOf (M : Mem) (x1 : Int32) (x2 : Int32) : RS := if (gi M 90 6) = 0 then chk (inb x2 18) (bI (fX12_walkOf M x2) (fun M6 v7 => some (M6, .inr (some (.int ((2 * (gi M 96 (ix x2))) - v7)))))) else bV (fX12_askOf M x1 x2) (fun M1 => bI (fX12_valueNow 98 M1 (gi M1 90 6)) (fun M3 v4 => some (M3, .inr (some (.int v4)))))
theorem SX12_worthOf (M : Mem) (x1 : Int32) (x2 : Int32) : CTO (3) miX12_worthOf 0 0 [.ref 87, .int x1, .int x2] M (fX12_worthOf  M x1 x2) := by
  refine CTO.of (by decide) (by simp [lg_sl, Value.category]) ?_
  show GO miX12_worthOf (3) 0 0 0 0 0 [(0, .ref 87), (1, .int x1), (2, .int x2)] [] M (if (gi M 90 6) = 0 then chk (inb x2 18) (bI (fX12_walkOf M x2) (fun M6 v7 => some (M6, .inr (some (.int ((2 * (gi M 96 (ix x2))) - v7)))))) else bV (fX12_askOf M x1 x2) (fun M1 => bI (fX12_valueNow 98 M1 (gi M1 90 6)) (fun M3 v4 => some (M3, .inr (some (.int v4))))))
  refine g_aload_n 0 rfl rfl dX12_worthOf_0 ?_
  refine g_getR (k := 4) (b := 90) clX12 kd_87 (by decide) rfl rfl flX12_35 dX12_worthOf_1 ?_
  refine g_bipush (v := 6) (by decide) dX12_worthOf_4 ?_
  refine g_aldL (j := 6) kd_90 (by decide) (by decide) dX12_worthOf_6 ?_
  refine g_if_ne (tgt := 25) rfl dX12_worthOf_7 (fun c => ?_) (fun c => ?_)
  · refine g_aload_n 0 rfl rfl dX12_worthOf_25 ?_
    refine g_iload_n 1 rfl rfl dX12_worthOf_26 ?_
    refine g_iload_n 2 rfl rfl dX12_worthOf_27 ?_
    refine g_callVV (y := miX12_askOf) (As := [.int x1, .int x2]) (rest := []) clX12 kd_87 rfl moX12_askOf rfl mlX12_345 (by first | decide | omega) (by decide) (by simp [Value.category]) rfl dX12_worthOf_28 (SX12_askOf  M x1 x2) (fun M1 => ?_)
    refine g_aload_n 0 rfl rfl dX12_worthOf_31 ?_
    refine g_aload_n 0 rfl rfl dX12_worthOf_32 ?_
    refine g_getR (k := 12) (b := 98) clX12 kd_87 (by decide) rfl rfl flX12_57 dX12_worthOf_33 ?_
    refine g_aload_n 0 rfl rfl dX12_worthOf_36 ?_
    refine g_getR (k := 4) (b := 90) clX12 kd_87 (by decide) rfl rfl flX12_35 dX12_worthOf_37 ?_
    refine g_bipush (v := 6) (by decide) dX12_worthOf_40 ?_
    refine g_aldL (j := 6) kd_90 (by decide) (by decide) dX12_worthOf_42 ?_
    refine g_callVI (y := miX12_valueNow) (As := [.ref 98, .int (gi M1 90 6)]) (rest := []) clX12 kd_87 rfl moX12_valueNow rfl mlX12_349 (by first | decide | omega) (by decide) (by simp [Value.category]) rfl dX12_worthOf_43 (SX12_valueNow 98 (by decide) M1 (gi M1 90 6)) (fun M3 v4 => ?_)
    exact g_ireturn rfl (by decide) (by decide) dX12_worthOf_46 rfl rfl
  · refine g_iconst (v := 2) (by decide) dX12_worthOf_10 ?_
    refine g_aload_n 0 rfl rfl dX12_worthOf_11 ?_
    refine g_getR (k := 10) (b := 96) clX12 kd_87 (by decide) rfl rfl flX12_52 dX12_worthOf_12 ?_
    refine g_iload_n 2 rfl rfl dX12_worthOf_15 ?_
    refine g_ald kd_96 dX12_worthOf_16 (fun hi5 => ?_)
    refine g_imul dX12_worthOf_17 ?_
    refine g_aload_n 0 rfl rfl dX12_worthOf_18 ?_
    refine g_iload_n 2 rfl rfl dX12_worthOf_19 ?_
    refine g_callVI (y := miX12_walkOf) (As := [.int x2]) (rest := [.int (2 * (gi M 96 (ix x2)))]) clX12 kd_87 rfl moX12_walkOf rfl mlX12_342 (by first | decide | omega) (by decide) (by simp [Value.category]) rfl dX12_worthOf_20 (SX12_walkOf  M x2) (fun M6 v7 => ?_)
    refine g_isub dX12_worthOf_23 ?_
    exact g_ireturn rfl (by decide) (by decide) dX12_worthOf_24 rfl rfl
def fX12_takeShares_b114 (rec23 : Mem → Int32 → RS) (rec59 : Mem → Int32 → Int32 → Int32 → Int32 → Int32 → RS) (M : Mem) (x1 : Int32) (x2 : Int32) (x3 : Int32) (x4 : Int32) (x5 : Int32) : RS := rec59 M x1 x2 x3 x4 (x5 + 1)
theorem SX12_takeShares_b114 (rec23 : Mem → Int32 → RS) (hrec23 : ∀ (M : Mem) (x1 : Int32), GO miX12_takeShares (4) 0 0 0 0 23 [(0, .ref 87), (1, .int x1)] [] M (rec23 M x1)) (rec59 : Mem → Int32 → Int32 → Int32 → Int32 → Int32 → RS) (hrec59 : ∀ (M : Mem) (x1 : Int32) (x2 : Int32) (x3 : Int32) (x4 : Int32) (x5 : Int32), GO miX12_takeShares (4) 0 0 0 0 59 [(0, .ref 87), (1, .int x1), (2, .int x2), (3, .int x3), (4, .int x4), (5, .int x5)] [] M (rec59 M x1 x2 x3 x4 x5)) (M : Mem) (x1 : Int32) (x2 : Int32) (x3 : Int32) (x4 : Int32) (x5 : Int32) : GO miX12_takeShares (4) 0 0 0 0 114 [(0, .ref 87), (1, .int x1), (2, .int x2), (3, .int x3), (4, .int x4), (5, .int x5)] [] M (fX12_takeShares_b114 rec23 rec59 M x1 x2 x3 x4 x5) := by
  show GO miX12_takeShares (4) 0 0 0 0 114 [(0, .ref 87), (1, .int x1), (2, .int x2), (3, .int x3), (4, .int x4), (5, .int x5)] [] M (rec59 M x1 x2 x3 x4 (x5 + 1))
  refine g_iinc (v := x5 + 1) (L' := [(5, .int (x5 + 1)), (0, .ref 87), (1, .int x1), (2, .int x2), (3, .int x3), (4, .int x4)]) 5 rfl rfl (by decide) rfl dX12_takeShares_114 ?_
  refine g_goto (tgt := 59) rfl dX12_takeShares_117 ?_
  exact GO.pick [1, 2, 3, 4, 5, 0] rfl <| hrec59 M x1 x2 x3 x4 (x5 + 1)
def fX12_takeShares_b107 (rec23 : Mem → Int32 → RS) (rec59 : Mem → Int32 → Int32 → Int32 → Int32 → Int32 → RS) (M : Mem) (x1 : Int32) (x2 : Int32) (x5 : Int32) (x6 : Int32) : RS := fX12_takeShares_b114 rec23 rec59 M x1 x2 x5 x6 x5
theorem SX12_takeShares_b107 (rec23 : Mem → Int32 → RS) (hrec23 : ∀ (M : Mem) (x1 : Int32), GO miX12_takeShares (4) 0 0 0 0 23 [(0, .ref 87), (1, .int x1)] [] M (rec23 M x1)) (rec59 : Mem → Int32 → Int32 → Int32 → Int32 → Int32 → RS) (hrec59 : ∀ (M : Mem) (x1 : Int32) (x2 : Int32) (x3 : Int32) (x4 : Int32) (x5 : Int32), GO miX12_takeShares (4) 0 0 0 0 59 [(0, .ref 87), (1, .int x1), (2, .int x2), (3, .int x3), (4, .int x4), (5, .int x5)] [] M (rec59 M x1 x2 x3 x4 x5)) (M : Mem) (x1 : Int32) (x2 : Int32) (x5 : Int32) (x6 : Int32) : GO miX12_takeShares (4) 0 0 0 0 107 [(0, .ref 87), (1, .int x1), (2, .int x2), (5, .int x5), (6, .int x6)] [] M (fX12_takeShares_b107 rec23 rec59 M x1 x2 x5 x6) := by
  show GO miX12_takeShares (4) 0 0 0 0 107 [(0, .ref 87), (1, .int x1), (2, .int x2), (5, .int x5), (6, .int x6)] [] M (fX12_takeShares_b114 rec23 rec59 M x1 x2 x5 x6 x5)
  refine g_iload 3 rfl dX12_takeShares_107 ?_
  refine g_istore_n (L' := [(3, .int x5), (0, .ref 87), (1, .int x1), (2, .int x2), (5, .int x5), (6, .int x6)]) (by decide) rfl rfl dX12_takeShares_109 ?_
  refine g_iload 5 rfl dX12_takeShares_110 ?_
  refine g_istore (L' := [(4, .int x6), (3, .int x5), (0, .ref 87), (1, .int x1), (2, .int x2), (5, .int x5), (6, .int x6)]) (by decide) rfl dX12_takeShares_112 ?_
  exact GO.pick [2, 3, 4, 1, 0, 5] rfl <| SX12_takeShares_b114  rec23 hrec23 rec59 hrec59 M x1 x2 x5 x6 x5
def fX12_takeShares_b127 (rec23 : Mem → Int32 → RS) (M : Mem) (x1 : Int32) : RS := rec23 M (x1 + 1)
theorem SX12_takeShares_b127 (rec23 : Mem → Int32 → RS) (hrec23 : ∀ (M : Mem) (x1 : Int32), GO miX12_takeShares (4) 0 0 0 0 23 [(0, .ref 87), (1, .int x1)] [] M (rec23 M x1)) (M : Mem) (x1 : Int32) : GO miX12_takeShares (4) 0 0 0 0 127 [(0, .ref 87), (1, .int x1)] [] M (fX12_takeShares_b127 rec23 M x1) := by
  show GO miX12_takeShares (4) 0 0 0 0 127 [(0, .ref 87), (1, .int x1)] [] M (rec23 M (x1 + 1))
  refine g_iinc (v := x1 + 1) (L' := [(1, .int (x1 + 1)), (0, .ref 87)]) 1 rfl rfl (by decide) rfl dX12_takeShares_127 ?_
  refine g_goto (tgt := 23) rfl dX12_takeShares_130 ?_
  exact GO.pick [1, 0] rfl <| hrec23 M (x1 + 1)
def fX12_takeShares_b59 (rec23 : Mem → Int32 → RS) : Nat → Mem → Int32 → Int32 → Int32 → Int32 → Int32 → RS
  | 0 => fun _ _ _ _ _ _ => none
  | n + 1 => fun M x1 x2 x3 x4 x5 => if x5 < (gi M 90 1) then bI (fX12_ownerOf M x5) (fun M6 v7 => if v7 = (-1) then bI (fX12_worthOf M6 x2 x5) (fun M8 v9 => if x3 = (-1) then fX12_takeShares_b107 rec23 (fX12_takeShares_b59 rec23 n) M8 x1 x2 x5 v9 else if x4 < v9 then fX12_takeShares_b107 rec23 (fX12_takeShares_b59 rec23 n) M8 x1 x2 x5 v9 else fX12_takeShares_b114 rec23 (fX12_takeShares_b59 rec23 n) M8 x1 x2 x3 x4 x5) else fX12_takeShares_b114 rec23 (fX12_takeShares_b59 rec23 n) M6 x1 x2 x3 x4 x5) else chk (inb x2 8) (wr (si M 103 (ix x2) x3) (fun M5 => fX12_takeShares_b127 rec23 M5 x1))
theorem SX12_takeShares_b59 (rec23 : Mem → Int32 → RS) (hrec23 : ∀ (M : Mem) (x1 : Int32), GO miX12_takeShares (4) 0 0 0 0 23 [(0, .ref 87), (1, .int x1)] [] M (rec23 M x1)) (n : Nat) : ∀ (M : Mem) (x1 : Int32) (x2 : Int32) (x3 : Int32) (x4 : Int32) (x5 : Int32), GO miX12_takeShares (4) 0 0 0 0 59 [(0, .ref 87), (1, .int x1), (2, .int x2), (3, .int x3), (4, .int x4), (5, .int x5)] [] M (fX12_takeShares_b59 rec23 n M x1 x2 x3 x4 x5) := by
  induction n with
  | zero => intro M x1 x2 x3 x4 x5 ; exact GO.none
  | succ n hrec59 =>
    intro M x1 x2 x3 x4 x5 
    show GO miX12_takeShares (4) 0 0 0 0 59 [(0, .ref 87), (1, .int x1), (2, .int x2), (3, .int x3), (4, .int x4), (5, .int x5)] [] M (if x5 < (gi M 90 1) then bI (fX12_ownerOf M x5) (fun M6 v7 => if v7 = (-1) then bI (fX12_worthOf M6 x2 x5) (fun M8 v9 => if x3 = (-1) then fX12_takeShares_b107 rec23 (fX12_takeShares_b59 rec23 n) M8 x1 x2 x5 v9 else if x4 < v9 then fX12_takeShares_b107 rec23 (fX12_takeShares_b59 rec23 n) M8 x1 x2 x5 v9 else fX12_takeShares_b114 rec23 (fX12_takeShares_b59 rec23 n) M8 x1 x2 x3 x4 x5) else fX12_takeShares_b114 rec23 (fX12_takeShares_b59 rec23 n) M6 x1 x2 x3 x4 x5) else chk (inb x2 8) (wr (si M 103 (ix x2) x3) (fun M5 => fX12_takeShares_b127 rec23 M5 x1)))
    refine g_iload 5 rfl dX12_takeShares_59 ?_
    refine g_aload_n 0 rfl rfl dX12_takeShares_61 ?_
    refine g_getR (k := 4) (b := 90) clX12 kd_87 (by decide) rfl rfl flX12_35 dX12_takeShares_62 ?_
    refine g_iconst (v := 1) (by decide) dX12_takeShares_65 ?_
    refine g_aldL (j := 1) kd_90 (by decide) (by decide) dX12_takeShares_66 ?_
    refine g_icmp_ge (tgt := 120) rfl dX12_takeShares_67 (fun c => ?_) (fun c => ?_)
    · refine g_aload_n 0 rfl rfl dX12_takeShares_120 ?_
      refine g_getR (k := 28) (b := 103) clX12 kd_87 (by decide) rfl rfl flX12_76 dX12_takeShares_121 ?_
      refine g_iload_n 2 rfl rfl dX12_takeShares_124 ?_
      refine g_iload_n 3 rfl rfl dX12_takeShares_125 ?_
      refine g_ast kd_103 dX12_takeShares_126 (fun hi4 => ?_)
      refine GO.wr (fun M5 => ?_)
      exact GO.pick [0, 1] rfl <| SX12_takeShares_b127  rec23 hrec23 M5 x1
    · refine g_aload_n 0 rfl rfl dX12_takeShares_70 ?_
      refine g_iload 5 rfl dX12_takeShares_71 ?_
      refine g_callVI (y := miX12_ownerOf) (As := [.int x5]) (rest := []) clX12 kd_87 rfl moX12_ownerOf rfl mlX12_359 (by first | decide | omega) (by decide) (by simp [Value.category]) rfl dX12_takeShares_73 (SX12_ownerOf  M x5) (fun M6 v7 => ?_)
      refine g_iconst (v := (-1)) (by decide) dX12_takeShares_76 ?_
      refine g_icmp_eq (tgt := 83) rfl dX12_takeShares_77 (fun c => ?_) (fun c => ?_)
      · refine g_aload_n 0 rfl rfl dX12_takeShares_83 ?_
        refine g_iload_n 2 rfl rfl dX12_takeShares_84 ?_
        refine g_iload 5 rfl dX12_takeShares_85 ?_
        refine g_callVI (y := miX12_worthOf) (As := [.int x2, .int x5]) (rest := []) clX12 kd_87 rfl moX12_worthOf rfl mlX12_362 (by first | decide | omega) (by decide) (by simp [Value.category]) rfl dX12_takeShares_87 (SX12_worthOf  M6 x2 x5) (fun M8 v9 => ?_)
        refine g_istore (L' := [(6, .int v9), (0, .ref 87), (1, .int x1), (2, .int x2), (3, .int x3), (4, .int x4), (5, .int x5)]) (by decide) rfl dX12_takeShares_90 ?_
        refine g_iload_n 4 rfl rfl dX12_takeShares_92 ?_
        refine g_iconst (v := (-1)) (by decide) dX12_takeShares_93 ?_
        refine g_icmp_eq (tgt := 107) rfl dX12_takeShares_94 (fun c => ?_) (fun c => ?_)
        · exact GO.pick [1, 2, 3, 6, 0] rfl <| SX12_takeShares_b107  rec23 hrec23 (fX12_takeShares_b59 rec23 n) hrec59 M8 x1 x2 x5 v9
        · refine g_iload 0 rfl dX12_takeShares_97 ?_
          refine g_iload 5 rfl dX12_takeShares_99 ?_
          refine g_icmp_gt (tgt := 107) rfl dX12_takeShares_101 (fun c => ?_) (fun c => ?_)
          · exact GO.pick [1, 2, 3, 6, 0] rfl <| SX12_takeShares_b107  rec23 hrec23 (fX12_takeShares_b59 rec23 n) hrec59 M8 x1 x2 x5 v9
          · refine g_goto (tgt := 114) rfl dX12_takeShares_104 ?_
            exact GO.pick [1, 2, 3, 4, 5, 6] rfl <| SX12_takeShares_b114  rec23 hrec23 (fX12_takeShares_b59 rec23 n) hrec59 M8 x1 x2 x3 x4 x5
      · refine g_goto (tgt := 114) rfl dX12_takeShares_80 ?_
        exact GO.pick [0, 1, 2, 3, 4, 5] rfl <| SX12_takeShares_b114  rec23 hrec23 (fX12_takeShares_b59 rec23 n) hrec59 M6 x1 x2 x3 x4 x5
def fX12_takeShares_b23 : Nat → Mem → Int32 → RS
  | 0 => fun _ _ => none
  | n + 1 => fun M x1 => if x1 < (gi M 90 0) then chk (inb x1 8) (if (gi M 104 (ix x1)) = (gi M 87 42) then fX12_takeShares_b127 (fX12_takeShares_b23 n) M x1 else fX12_takeShares_b59 (fX12_takeShares_b23 n) FU M x1 (gi M 104 (ix x1)) (-1) 0 0) else some (M, .inr none)
theorem SX12_takeShares_b23 (n : Nat) : ∀ (M : Mem) (x1 : Int32), GO miX12_takeShares (4) 0 0 0 0 23 [(0, .ref 87), (1, .int x1)] [] M (fX12_takeShares_b23 n M x1) := by
  induction n with
  | zero => intro M x1 ; exact GO.none
  | succ n hrec23 =>
    intro M x1 
    show GO miX12_takeShares (4) 0 0 0 0 23 [(0, .ref 87), (1, .int x1)] [] M (if x1 < (gi M 90 0) then chk (inb x1 8) (if (gi M 104 (ix x1)) = (gi M 87 42) then fX12_takeShares_b127 (fX12_takeShares_b23 n) M x1 else fX12_takeShares_b59 (fX12_takeShares_b23 n) FU M x1 (gi M 104 (ix x1)) (-1) 0 0) else some (M, .inr none))
    refine g_iload_n 1 rfl rfl dX12_takeShares_23 ?_
    refine g_aload_n 0 rfl rfl dX12_takeShares_24 ?_
    refine g_getR (k := 4) (b := 90) clX12 kd_87 (by decide) rfl rfl flX12_35 dX12_takeShares_25 ?_
    refine g_iconst (v := 0) (by decide) dX12_takeShares_28 ?_
    refine g_aldL (j := 0) kd_90 (by decide) (by decide) dX12_takeShares_29 ?_
    refine g_icmp_ge (tgt := 133) rfl dX12_takeShares_30 (fun c => ?_) (fun c => ?_)
    · exact g_vreturn rfl (by decide) (by decide) dX12_takeShares_133
    · refine g_aload_n 0 rfl rfl dX12_takeShares_33 ?_
      refine g_getR (k := 29) (b := 104) clX12 kd_87 (by decide) rfl rfl flX12_79 dX12_takeShares_34 ?_
      refine g_iload_n 1 rfl rfl dX12_takeShares_37 ?_
      refine g_ald kd_104 dX12_takeShares_38 (fun hi3 => ?_)
      refine g_istore_n (L' := [(2, .int (gi M 104 (ix x1))), (0, .ref 87), (1, .int x1)]) (by decide) rfl rfl dX12_takeShares_39 ?_
      refine g_iload_n 0 rfl rfl dX12_takeShares_40 ?_
      refine g_aload_n 1 rfl rfl dX12_takeShares_41 ?_
      refine g_getI (k := 42) clX12 kd_87 (by decide) rfl flX12_91 dX12_takeShares_42 ?_
      refine g_icmp_ne (tgt := 51) rfl dX12_takeShares_45 (fun c => ?_) (fun c => ?_)
      · refine g_iconst (v := (-1)) (by decide) dX12_takeShares_51 ?_
        refine g_istore_n (L' := [(3, .int (-1)), (2, .int (gi M 104 (ix x1))), (0, .ref 87), (1, .int x1)]) (by decide) rfl rfl dX12_takeShares_52 ?_
        refine g_iconst (v := 0) (by decide) dX12_takeShares_53 ?_
        refine g_istore (L' := [(4, .int 0), (3, .int (-1)), (2, .int (gi M 104 (ix x1))), (0, .ref 87), (1, .int x1)]) (by decide) rfl dX12_takeShares_54 ?_
        refine g_iconst (v := 0) (by decide) dX12_takeShares_56 ?_
        refine g_istore (L' := [(5, .int 0), (4, .int 0), (3, .int (-1)), (2, .int (gi M 104 (ix x1))), (0, .ref 87), (1, .int x1)]) (by decide) rfl dX12_takeShares_57 ?_
        exact GO.pick [4, 5, 3, 2, 1, 0] rfl <| SX12_takeShares_b59  (fX12_takeShares_b23 n) hrec23 FU M x1 (gi M 104 (ix x1)) (-1) 0 0
      · refine g_goto (tgt := 127) rfl dX12_takeShares_48 ?_
        exact GO.pick [1, 2] rfl <| SX12_takeShares_b127  (fX12_takeShares_b23 n) hrec23 M x1
def fX12_takeShares_b2 : Nat → Mem → Int32 → RS
  | 0 => fun _ _ => none
  | n + 1 => fun M x1 => if x1 < 8 then chk (inb x1 8) (wr (si M 103 (ix x1) (-1)) (fun M2 => (fX12_takeShares_b2 n) M2 (x1 + 1))) else fX12_takeShares_b23  FU M 0
theorem SX12_takeShares_b2 (n : Nat) : ∀ (M : Mem) (x1 : Int32), GO miX12_takeShares (4) 0 0 0 0 2 [(0, .ref 87), (1, .int x1)] [] M (fX12_takeShares_b2 n M x1) := by
  induction n with
  | zero => intro M x1 ; exact GO.none
  | succ n hrec2 =>
    intro M x1 
    show GO miX12_takeShares (4) 0 0 0 0 2 [(0, .ref 87), (1, .int x1)] [] M (if x1 < 8 then chk (inb x1 8) (wr (si M 103 (ix x1) (-1)) (fun M2 => (fX12_takeShares_b2 n) M2 (x1 + 1))) else fX12_takeShares_b23  FU M 0)
    refine g_iload_n 1 rfl rfl dX12_takeShares_2 ?_
    refine g_bipush (v := 8) (by decide) dX12_takeShares_3 ?_
    refine g_icmp_ge (tgt := 21) rfl dX12_takeShares_5 (fun c => ?_) (fun c => ?_)
    · refine g_iconst (v := 0) (by decide) dX12_takeShares_21 ?_
      refine g_istore_n (L' := [(1, .int 0), (0, .ref 87)]) (by decide) rfl rfl dX12_takeShares_22 ?_
      exact GO.pick [1, 0] rfl <| SX12_takeShares_b23  FU M 0
    · refine g_aload_n 0 rfl rfl dX12_takeShares_8 ?_
      refine g_getR (k := 28) (b := 103) clX12 kd_87 (by decide) rfl rfl flX12_76 dX12_takeShares_9 ?_
      refine g_iload_n 1 rfl rfl dX12_takeShares_12 ?_
      refine g_iconst (v := (-1)) (by decide) dX12_takeShares_13 ?_
      refine g_ast kd_103 dX12_takeShares_14 (fun hi1 => ?_)
      refine GO.wr (fun M2 => ?_)
      refine g_iinc (v := x1 + 1) (L' := [(1, .int (x1 + 1)), (0, .ref 87)]) 1 rfl rfl (by decide) rfl dX12_takeShares_15 ?_
      refine g_goto (tgt := 2) rfl dX12_takeShares_18 ?_
      exact GO.pick [1, 0] rfl <| hrec2 M2 (x1 + 1)
def fX12_takeShares (M : Mem)  : RS := fX12_takeShares_b2  FU M 0
theorem SX12_takeShares (M : Mem)  : CTO (4) miX12_takeShares 0 0 [.ref 87] M (fX12_takeShares  M ) := by
  refine CTO.of (by decide) (by simp [lg_sl, Value.category]) ?_
  show GO miX12_takeShares (4) 0 0 0 0 0 [(0, .ref 87)] [] M (fX12_takeShares_b2  FU M 0)
  refine g_iconst (v := 0) (by decide) dX12_takeShares_0 ?_
  refine g_istore_n (L' := [(1, .int 0), (0, .ref 87)]) (by decide) rfl rfl dX12_takeShares_1 ?_
  exact GO.pick [1, 0] rfl <| SX12_takeShares_b2  FU M 0
def fX12_takeOver_b117 : Nat → Mem → Int32 → RS
  | 0 => fun _ _ => none
  | n + 1 => fun M x1 => if x1 < 8 then chk (inb x1 8) (wr (si M 102 (ix x1) 0) (fun M34 => chk (inb x1 8) (wr (si M34 104 (ix x1) x1) (fun M36 => (fX12_takeOver_b117 n) M36 (x1 + 1))))) else bV (fX12_takeShares M) (fun M28 => wr (si M28 87 38 0) (fun M30 => wr (si M30 87 39 0) (fun M31 => wr (si M31 87 51 0) (fun M32 => some (M32, .inr none)))))
theorem SX12_takeOver_b117 (n : Nat) : ∀ (M : Mem) (x1 : Int32), GO miX12_takeOver (5) 0 0 0 0 117 [(0, .ref 87), (1, .int x1)] [] M (fX12_takeOver_b117 n M x1) := by
  induction n with
  | zero => intro M x1 ; exact GO.none
  | succ n hrec117 =>
    intro M x1 
    show GO miX12_takeOver (5) 0 0 0 0 117 [(0, .ref 87), (1, .int x1)] [] M (if x1 < 8 then chk (inb x1 8) (wr (si M 102 (ix x1) 0) (fun M34 => chk (inb x1 8) (wr (si M34 104 (ix x1) x1) (fun M36 => (fX12_takeOver_b117 n) M36 (x1 + 1))))) else bV (fX12_takeShares M) (fun M28 => wr (si M28 87 38 0) (fun M30 => wr (si M30 87 39 0) (fun M31 => wr (si M31 87 51 0) (fun M32 => some (M32, .inr none))))))
    refine g_iload_n 1 rfl rfl dX12_takeOver_117 ?_
    refine g_bipush (v := 8) (by decide) dX12_takeOver_118 ?_
    refine g_icmp_ge (tgt := 143) rfl dX12_takeOver_120 (fun c => ?_) (fun c => ?_)
    · refine g_aload_n 0 rfl rfl dX12_takeOver_143 ?_
      refine g_callVV (y := miX12_takeShares) (As := []) (rest := []) clX12 kd_87 rfl moX12_takeShares rfl mlX12_317 (by first | decide | omega) (by decide) (by simp [Value.category]) rfl dX12_takeOver_144 (SX12_takeShares  M) (fun M28 => ?_)
      refine g_aload_n 0 rfl rfl dX12_takeOver_147 ?_
      refine g_iconst (v := 0) (by decide) dX12_takeOver_148 ?_
      refine g_putI (k := 38) clX12 kd_87 (by decide) rfl (by decide) rfl flX12_320 dX12_takeOver_149 ?_
      refine GO.wr (fun M30 => ?_)
      refine g_aload_n 0 rfl rfl dX12_takeOver_152 ?_
      refine g_iconst (v := 0) (by decide) dX12_takeOver_153 ?_
      refine g_putI (k := 39) clX12 kd_87 (by decide) rfl (by decide) rfl flX12_323 dX12_takeOver_154 ?_
      refine GO.wr (fun M31 => ?_)
      refine g_aload_n 0 rfl rfl dX12_takeOver_157 ?_
      refine g_iconst (v := 0) (by decide) dX12_takeOver_158 ?_
      refine g_putZ (k := 51) clX12 kd_87 (by decide) rfl (by decide) rfl (by decide) flX12_326 dX12_takeOver_159 ?_
      refine GO.wr (fun M32 => ?_)
      exact g_vreturn rfl (by decide) (by decide) dX12_takeOver_162
    · refine g_aload_n 0 rfl rfl dX12_takeOver_123 ?_
      refine g_getR (k := 27) (b := 102) clX12 kd_87 (by decide) rfl rfl flX12_73 dX12_takeOver_124 ?_
      refine g_iload_n 1 rfl rfl dX12_takeOver_127 ?_
      refine g_iconst (v := 0) (by decide) dX12_takeOver_128 ?_
      refine g_ast kd_102 dX12_takeOver_129 (fun hi33 => ?_)
      refine GO.wr (fun M34 => ?_)
      refine g_aload_n 0 rfl rfl dX12_takeOver_130 ?_
      refine g_getR (k := 29) (b := 104) clX12 kd_87 (by decide) rfl rfl flX12_79 dX12_takeOver_131 ?_
      refine g_iload_n 1 rfl rfl dX12_takeOver_134 ?_
      refine g_iload_n 1 rfl rfl dX12_takeOver_135 ?_
      refine g_ast kd_104 dX12_takeOver_136 (fun hi35 => ?_)
      refine GO.wr (fun M36 => ?_)
      refine g_iinc (v := x1 + 1) (L' := [(1, .int (x1 + 1)), (0, .ref 87)]) 1 rfl rfl (by decide) rfl dX12_takeOver_137 ?_
      refine g_goto (tgt := 117) rfl dX12_takeOver_140 ?_
      exact GO.pick [1, 0] rfl <| hrec117 M36 (x1 + 1)
def fX12_takeOver (M : Mem)  : RS := bV (fX12_takeHalf 90 M) (fun M1 => bV (fX12_takeHalf 91 M1) (fun M3 => bV (fX12_takeHalf 92 M3) (fun M5 => bV (fX12_takeHalf 93 M5) (fun M7 => bV (fX12_takeHalf 94 M7) (fun M9 => bV (fX12_takeHalf 95 M9) (fun M11 => bV (fX12_takeHalf 96 M11) (fun M13 => bV (fX12_takeHalf 97 M13) (fun M15 => bV (fX12_takeHalf 98 M15) (fun M17 => bV (fX12_takeHalf 99 M17) (fun M19 => wr (si M19 87 31 0) (fun M21 => wr (si M21 87 32 0) (fun M22 => wr (si M22 87 33 0) (fun M23 => wr (si M23 87 34 0) (fun M24 => wr (si M24 87 35 0) (fun M25 => wr (si M25 87 36 (gi M25 90 4)) (fun M26 => wr (si M26 87 37 (gi M26 90 5)) (fun M27 => fX12_takeOver_b117  FU M27 0)))))))))))))))))
theorem SX12_takeOver (M : Mem)  : CTO (5) miX12_takeOver 0 0 [.ref 87] M (fX12_takeOver  M ) := by
  refine CTO.of (by decide) (by simp [lg_sl, Value.category]) ?_
  show GO miX12_takeOver (5) 0 0 0 0 0 [(0, .ref 87)] [] M (bV (fX12_takeHalf 90 M) (fun M1 => bV (fX12_takeHalf 91 M1) (fun M3 => bV (fX12_takeHalf 92 M3) (fun M5 => bV (fX12_takeHalf 93 M5) (fun M7 => bV (fX12_takeHalf 94 M7) (fun M9 => bV (fX12_takeHalf 95 M9) (fun M11 => bV (fX12_takeHalf 96 M11) (fun M13 => bV (fX12_takeHalf 97 M13) (fun M15 => bV (fX12_takeHalf 98 M15) (fun M17 => bV (fX12_takeHalf 99 M17) (fun M19 => wr (si M19 87 31 0) (fun M21 => wr (si M21 87 32 0) (fun M22 => wr (si M22 87 33 0) (fun M23 => wr (si M23 87 34 0) (fun M24 => wr (si M24 87 35 0) (fun M25 => wr (si M25 87 36 (gi M25 90 4)) (fun M26 => wr (si M26 87 37 (gi M26 90 5)) (fun M27 => fX12_takeOver_b117  FU M27 0))))))))))))))))))
  refine g_aload_n 0 rfl rfl dX12_takeOver_0 ?_
  refine g_getR (k := 4) (b := 90) clX12 kd_87 (by decide) rfl rfl flX12_35 dX12_takeOver_1 ?_
  refine g_callSV (y := miX12_takeHalf) (As := [.ref 90]) (rest := []) moX12_takeHalf rfl mlX12_299 (by first | decide | omega) (by decide) (by simp [Value.category]) rfl dX12_takeOver_4 (SX12_takeHalf 90 (by decide) M) (fun M1 => ?_)
  refine g_aload_n 0 rfl rfl dX12_takeOver_7 ?_
  refine g_getR (k := 5) (b := 91) clX12 kd_87 (by decide) rfl rfl flX12_39 dX12_takeOver_8 ?_
  refine g_callSV (y := miX12_takeHalf) (As := [.ref 91]) (rest := []) moX12_takeHalf rfl mlX12_299 (by first | decide | omega) (by decide) (by simp [Value.category]) rfl dX12_takeOver_11 (SX12_takeHalf 91 (by decide) M1) (fun M3 => ?_)
  refine g_aload_n 0 rfl rfl dX12_takeOver_14 ?_
  refine g_getR (k := 6) (b := 92) clX12 kd_87 (by decide) rfl rfl flX12_42 dX12_takeOver_15 ?_
  refine g_callSV (y := miX12_takeHalf) (As := [.ref 92]) (rest := []) moX12_takeHalf rfl mlX12_299 (by first | decide | omega) (by decide) (by simp [Value.category]) rfl dX12_takeOver_18 (SX12_takeHalf 92 (by decide) M3) (fun M5 => ?_)
  refine g_aload_n 0 rfl rfl dX12_takeOver_21 ?_
  refine g_getR (k := 7) (b := 93) clX12 kd_87 (by decide) rfl rfl flX12_44 dX12_takeOver_22 ?_
  refine g_callSV (y := miX12_takeHalf) (As := [.ref 93]) (rest := []) moX12_takeHalf rfl mlX12_299 (by first | decide | omega) (by decide) (by simp [Value.category]) rfl dX12_takeOver_25 (SX12_takeHalf 93 (by decide) M5) (fun M7 => ?_)
  refine g_aload_n 0 rfl rfl dX12_takeOver_28 ?_
  refine g_getR (k := 8) (b := 94) clX12 kd_87 (by decide) rfl rfl flX12_46 dX12_takeOver_29 ?_
  refine g_callSV (y := miX12_takeHalf) (As := [.ref 94]) (rest := []) moX12_takeHalf rfl mlX12_299 (by first | decide | omega) (by decide) (by simp [Value.category]) rfl dX12_takeOver_32 (SX12_takeHalf 94 (by decide) M7) (fun M9 => ?_)
  refine g_aload_n 0 rfl rfl dX12_takeOver_35 ?_
  refine g_getR (k := 9) (b := 95) clX12 kd_87 (by decide) rfl rfl flX12_49 dX12_takeOver_36 ?_
  refine g_callSV (y := miX12_takeHalf) (As := [.ref 95]) (rest := []) moX12_takeHalf rfl mlX12_299 (by first | decide | omega) (by decide) (by simp [Value.category]) rfl dX12_takeOver_39 (SX12_takeHalf 95 (by decide) M9) (fun M11 => ?_)
  refine g_aload_n 0 rfl rfl dX12_takeOver_42 ?_
  refine g_getR (k := 10) (b := 96) clX12 kd_87 (by decide) rfl rfl flX12_52 dX12_takeOver_43 ?_
  refine g_callSV (y := miX12_takeHalf) (As := [.ref 96]) (rest := []) moX12_takeHalf rfl mlX12_299 (by first | decide | omega) (by decide) (by simp [Value.category]) rfl dX12_takeOver_46 (SX12_takeHalf 96 (by decide) M11) (fun M13 => ?_)
  refine g_aload_n 0 rfl rfl dX12_takeOver_49 ?_
  refine g_getR (k := 11) (b := 97) clX12 kd_87 (by decide) rfl rfl flX12_55 dX12_takeOver_50 ?_
  refine g_callSV (y := miX12_takeHalf) (As := [.ref 97]) (rest := []) moX12_takeHalf rfl mlX12_299 (by first | decide | omega) (by decide) (by simp [Value.category]) rfl dX12_takeOver_53 (SX12_takeHalf 97 (by decide) M13) (fun M15 => ?_)
  refine g_aload_n 0 rfl rfl dX12_takeOver_56 ?_
  refine g_getR (k := 12) (b := 98) clX12 kd_87 (by decide) rfl rfl flX12_57 dX12_takeOver_57 ?_
  refine g_callSV (y := miX12_takeHalf) (As := [.ref 98]) (rest := []) moX12_takeHalf rfl mlX12_299 (by first | decide | omega) (by decide) (by simp [Value.category]) rfl dX12_takeOver_60 (SX12_takeHalf 98 (by decide) M15) (fun M17 => ?_)
  refine g_aload_n 0 rfl rfl dX12_takeOver_63 ?_
  refine g_getR (k := 13) (b := 99) clX12 kd_87 (by decide) rfl rfl flX12_60 dX12_takeOver_64 ?_
  refine g_callSV (y := miX12_takeHalf) (As := [.ref 99]) (rest := []) moX12_takeHalf rfl mlX12_299 (by first | decide | omega) (by decide) (by simp [Value.category]) rfl dX12_takeOver_67 (SX12_takeHalf 99 (by decide) M17) (fun M19 => ?_)
  refine g_aload_n 0 rfl rfl dX12_takeOver_70 ?_
  refine g_iconst (v := 0) (by decide) dX12_takeOver_71 ?_
  refine g_putI (k := 31) clX12 kd_87 (by decide) rfl (by decide) rfl flX12_303 dX12_takeOver_72 ?_
  refine GO.wr (fun M21 => ?_)
  refine g_aload_n 0 rfl rfl dX12_takeOver_75 ?_
  refine g_iconst (v := 0) (by decide) dX12_takeOver_76 ?_
  refine g_putI (k := 32) clX12 kd_87 (by decide) rfl (by decide) rfl flX12_305 dX12_takeOver_77 ?_
  refine GO.wr (fun M22 => ?_)
  refine g_aload_n 0 rfl rfl dX12_takeOver_80 ?_
  refine g_iconst (v := 0) (by decide) dX12_takeOver_81 ?_
  refine g_putI (k := 33) clX12 kd_87 (by decide) rfl (by decide) rfl flX12_308 dX12_takeOver_82 ?_
  refine GO.wr (fun M23 => ?_)
  refine g_aload_n 0 rfl rfl dX12_takeOver_85 ?_
  refine g_iconst (v := 0) (by decide) dX12_takeOver_86 ?_
  refine g_putI (k := 34) clX12 kd_87 (by decide) rfl (by decide) rfl flX12_311 dX12_takeOver_87 ?_
  refine GO.wr (fun M24 => ?_)
  refine g_aload_n 0 rfl rfl dX12_takeOver_90 ?_
  refine g_iconst (v := 0) (by decide) dX12_takeOver_91 ?_
  refine g_putI (k := 35) clX12 kd_87 (by decide) rfl (by decide) rfl flX12_314 dX12_takeOver_92 ?_
  refine GO.wr (fun M25 => ?_)
  refine g_aload_n 0 rfl rfl dX12_takeOver_95 ?_
  refine g_aload_n 0 rfl rfl dX12_takeOver_96 ?_
  refine g_getR (k := 4) (b := 90) clX12 kd_87 (by decide) rfl rfl flX12_35 dX12_takeOver_97 ?_
  refine g_iconst (v := 4) (by decide) dX12_takeOver_100 ?_
  refine g_aldL (j := 4) kd_90 (by decide) (by decide) dX12_takeOver_101 ?_
  refine g_putI (k := 36) clX12 kd_87 (by decide) rfl (by decide) rfl flX12_134 dX12_takeOver_102 ?_
  refine GO.wr (fun M26 => ?_)
  refine g_aload_n 0 rfl rfl dX12_takeOver_105 ?_
  refine g_aload_n 0 rfl rfl dX12_takeOver_106 ?_
  refine g_getR (k := 4) (b := 90) clX12 kd_87 (by decide) rfl rfl flX12_35 dX12_takeOver_107 ?_
  refine g_iconst (v := 5) (by decide) dX12_takeOver_110 ?_
  refine g_aldL (j := 5) kd_90 (by decide) (by decide) dX12_takeOver_111 ?_
  refine g_putI (k := 37) clX12 kd_87 (by decide) rfl (by decide) rfl flX12_137 dX12_takeOver_112 ?_
  refine GO.wr (fun M27 => ?_)
  refine g_iconst (v := 0) (by decide) dX12_takeOver_115 ?_
  refine g_istore_n (L' := [(1, .int 0), (0, .ref 87)]) (by decide) rfl rfl dX12_takeOver_116 ?_
  exact GO.pick [1, 0] rfl <| SX12_takeOver_b117  FU M27 0
def fX12_island_b17 (M : Mem)  : RS := bI (fX12_fail M 1) (fun M7 v8 => some (M7, .inr (some (.int v8))))
theorem SX12_island_b17 (M : Mem)  : GO miX12_island (73) 0 0 0 0 17 [(0, .ref 87)] [] M (fX12_island_b17 M ) := by
  show GO miX12_island (73) 0 0 0 0 17 [(0, .ref 87)] [] M (bI (fX12_fail M 1) (fun M7 v8 => some (M7, .inr (some (.int v8)))))
  refine g_aload_n 0 rfl rfl dX12_island_17 ?_
  refine g_iconst (v := 1) (by decide) dX12_island_18 ?_
  refine g_callVI (y := miX12_fail) (As := [.int 1]) (rest := []) clX12 kd_87 rfl moX12_fail rfl mlX12_290 (by first | decide | omega) (by decide) (by simp [Value.category]) rfl dX12_island_19 (SX12_fail  M 1) (fun M7 v8 => ?_)
  exact g_ireturn rfl (by decide) (by decide) dX12_island_22 rfl rfl
def fX12_island_b89 (rec50 : Mem → Int32 → RS) (M : Mem) (x2 : Int32) (s0 : Int32) (s1 : Int32) : RS := chk (inb s1 16) (wr (si M 90 (ix s1) s0) (fun M14 => rec50 M14 (x2 + 1)))
theorem SX12_island_b89 (rec50 : Mem → Int32 → RS) (hrec50 : ∀ (M : Mem) (x2 : Int32), GO miX12_island (73) 0 0 0 0 50 [(0, .ref 87), (2, .int x2)] [] M (rec50 M x2)) (M : Mem) (x2 : Int32) (s0 : Int32) (s1 : Int32) : GO miX12_island (73) 0 0 0 0 89 [(0, .ref 87), (2, .int x2)] [.int s0, .int s1, .ref 90] M (fX12_island_b89 rec50 M x2 s0 s1) := by
  show GO miX12_island (73) 0 0 0 0 89 [(0, .ref 87), (2, .int x2)] [.int s0, .int s1, .ref 90] M (chk (inb s1 16) (wr (si M 90 (ix s1) s0) (fun M14 => rec50 M14 (x2 + 1))))
  refine g_ast kd_90 dX12_island_89 (fun hi13 => ?_)
  refine GO.wr (fun M14 => ?_)
  refine g_iinc (v := x2 + 1) (L' := [(2, .int (x2 + 1)), (0, .ref 87)]) 1 rfl rfl (by decide) rfl dX12_island_90 ?_
  refine g_goto (tgt := 50) rfl dX12_island_93 ?_
  exact GO.pick [1, 0] rfl <| hrec50 M14 (x2 + 1)
def fX12_island_b83 (rec50 : Mem → Int32 → RS) (M : Mem) (x2 : Int32) (s0 : Int32) : RS := fX12_island_b89 rec50 M x2 10 s0
theorem SX12_island_b83 (rec50 : Mem → Int32 → RS) (hrec50 : ∀ (M : Mem) (x2 : Int32), GO miX12_island (73) 0 0 0 0 50 [(0, .ref 87), (2, .int x2)] [] M (rec50 M x2)) (M : Mem) (x2 : Int32) (s0 : Int32) : GO miX12_island (73) 0 0 0 0 83 [(0, .ref 87), (2, .int x2)] [.int s0, .ref 90] M (fX12_island_b83 rec50 M x2 s0) := by
  show GO miX12_island (73) 0 0 0 0 83 [(0, .ref 87), (2, .int x2)] [.int s0, .ref 90] M (fX12_island_b89 rec50 M x2 10 s0)
  refine g_bipush (v := 10) (by decide) dX12_island_83 ?_
  refine g_goto (tgt := 89) rfl dX12_island_85 ?_
  exact GO.pick [0, 1] rfl <| SX12_island_b89  rec50 hrec50 M x2 10 s0
def fX12_island_b125 (M : Mem)  : RS := if (gi M 87 23) = 0 then bV (fX12_takeOver M) (fun M15 => some (M15, .inr (some (.int 0)))) else wr (si M 87 25 (gi M 87 24)) (fun M17 => wr (si M17 100 0 ((gi M17 100 0) + 1)) (fun M18 => some (M18, .inr (some (.int (gi M18 87 23))))))
theorem SX12_island_b125 (M : Mem)  : GO miX12_island (73) 0 0 0 0 125 [(0, .ref 87)] [] M (fX12_island_b125 M ) := by
  show GO miX12_island (73) 0 0 0 0 125 [(0, .ref 87)] [] M (if (gi M 87 23) = 0 then bV (fX12_takeOver M) (fun M15 => some (M15, .inr (some (.int 0)))) else wr (si M 87 25 (gi M 87 24)) (fun M17 => wr (si M17 100 0 ((gi M17 100 0) + 1)) (fun M18 => some (M18, .inr (some (.int (gi M18 87 23)))))))
  refine g_aload_n 0 rfl rfl dX12_island_125 ?_
  refine g_getI (k := 23) clX12 kd_87 (by decide) rfl flX12_189 dX12_island_126 ?_
  refine g_if_eq (tgt := 155) rfl dX12_island_129 (fun c => ?_) (fun c => ?_)
  · refine g_aload_n 0 rfl rfl dX12_island_155 ?_
    refine g_callVV (y := miX12_takeOver) (As := []) (rest := []) clX12 kd_87 rfl moX12_takeOver rfl mlX12_296 (by first | decide | omega) (by decide) (by simp [Value.category]) rfl dX12_island_156 (SX12_takeOver  M) (fun M15 => ?_)
    refine g_iconst (v := 0) (by decide) dX12_island_159 ?_
    exact g_ireturn rfl (by decide) (by decide) dX12_island_160 rfl rfl
  · refine g_aload_n 0 rfl rfl dX12_island_132 ?_
    refine g_aload_n 0 rfl rfl dX12_island_133 ?_
    refine g_getI (k := 24) clX12 kd_87 (by decide) rfl flX12_192 dX12_island_134 ?_
    refine g_putI (k := 25) clX12 kd_87 (by decide) rfl (by decide) rfl flX12_69 dX12_island_137 ?_
    refine GO.wr (fun M17 => ?_)
    refine g_aload_n 0 rfl rfl dX12_island_140 ?_
    refine g_getR (k := 14) (b := 100) clX12 kd_87 (by decide) rfl rfl flX12_63 dX12_island_141 ?_
    refine g_iconst (v := 0) (by decide) dX12_island_144 ?_
    refine g_dup2_ri dX12_island_145 ?_
    refine g_aldL (j := 0) kd_100 (by decide) (by decide) dX12_island_146 ?_
    refine g_iconst (v := 1) (by decide) dX12_island_147 ?_
    refine g_iadd dX12_island_148 ?_
    refine g_astL (j := 0) kd_100 (by decide) (by decide) dX12_island_149 ?_
    refine GO.wr (fun M18 => ?_)
    refine g_aload_n 0 rfl rfl dX12_island_150 ?_
    refine g_getI (k := 23) clX12 kd_87 (by decide) rfl flX12_189 dX12_island_151 ?_
    exact g_ireturn rfl (by decide) (by decide) dX12_island_154 rfl rfl
def fX12_island_b102 : Nat → Mem → Int32 → RS
  | 0 => fun _ _ => none
  | n + 1 => fun M x2 => if (gi M 87 23) = 0 then if (gi M 87 19) = 0 then fX12_island_b125  M else bI (fX12_readLine M x2) (fun M11 v12 => (fX12_island_b102 n) M11 v12) else fX12_island_b125  M
theorem SX12_island_b102 (n : Nat) : ∀ (M : Mem) (x2 : Int32), GO miX12_island (73) 0 0 0 0 102 [(0, .ref 87), (2, .int x2)] [] M (fX12_island_b102 n M x2) := by
  induction n with
  | zero => intro M x2 ; exact GO.none
  | succ n hrec102 =>
    intro M x2 
    show GO miX12_island (73) 0 0 0 0 102 [(0, .ref 87), (2, .int x2)] [] M (if (gi M 87 23) = 0 then if (gi M 87 19) = 0 then fX12_island_b125  M else bI (fX12_readLine M x2) (fun M11 v12 => (fX12_island_b102 n) M11 v12) else fX12_island_b125  M)
    refine g_aload_n 0 rfl rfl dX12_island_102 ?_
    refine g_getI (k := 23) clX12 kd_87 (by decide) rfl flX12_189 dX12_island_103 ?_
    refine g_if_ne (tgt := 125) rfl dX12_island_106 (fun c => ?_) (fun c => ?_)
    · exact GO.pick [0] rfl <| SX12_island_b125  M
    · refine g_aload_n 0 rfl rfl dX12_island_109 ?_
      refine g_getI (k := 19) clX12 kd_87 (by decide) rfl flX12_163 dX12_island_110 ?_
      refine g_if_eq (tgt := 125) rfl dX12_island_113 (fun c => ?_) (fun c => ?_)
      · exact GO.pick [0] rfl <| SX12_island_b125  M
      · refine g_aload_n 0 rfl rfl dX12_island_116 ?_
        refine g_iload_n 1 rfl rfl dX12_island_117 ?_
        refine g_callVI (y := miX12_readLine) (As := [.int x2]) (rest := []) clX12 kd_87 rfl moX12_readLine rfl mlX12_293 (by first | decide | omega) (by decide) (by simp [Value.category]) rfl dX12_island_118 (SX12_readLine  M x2) (fun M11 v12 => ?_)
        refine g_istore_n (L' := [(2, .int v12), (0, .ref 87)]) (by decide) rfl rfl dX12_island_121 ?_
        refine g_goto (tgt := 102) rfl dX12_island_122 ?_
        exact GO.pick [1, 0] rfl <| hrec102 M11 v12
def fX12_island_b50 : Nat → Mem → Int32 → RS
  | 0 => fun _ _ => none
  | n + 1 => fun M x2 => if x2 < 8 then if x2 = 3 then fX12_island_b89 (fX12_island_b50 n) M x2 4 (8 + x2) else if x2 = 4 then fX12_island_b83 (fX12_island_b50 n) M x2 (8 + x2) else if x2 = 5 then fX12_island_b83 (fX12_island_b50 n) M x2 (8 + x2) else fX12_island_b89 (fX12_island_b50 n) M x2 0 (8 + x2) else bV (fX12_stepOn M) (fun M9 => fX12_island_b102  FU M9 0)
theorem SX12_island_b50 (n : Nat) : ∀ (M : Mem) (x2 : Int32), GO miX12_island (73) 0 0 0 0 50 [(0, .ref 87), (2, .int x2)] [] M (fX12_island_b50 n M x2) := by
  induction n with
  | zero => intro M x2 ; exact GO.none
  | succ n hrec50 =>
    intro M x2 
    show GO miX12_island (73) 0 0 0 0 50 [(0, .ref 87), (2, .int x2)] [] M (if x2 < 8 then if x2 = 3 then fX12_island_b89 (fX12_island_b50 n) M x2 4 (8 + x2) else if x2 = 4 then fX12_island_b83 (fX12_island_b50 n) M x2 (8 + x2) else if x2 = 5 then fX12_island_b83 (fX12_island_b50 n) M x2 (8 + x2) else fX12_island_b89 (fX12_island_b50 n) M x2 0 (8 + x2) else bV (fX12_stepOn M) (fun M9 => fX12_island_b102  FU M9 0))
    refine g_iload_n 1 rfl rfl dX12_island_50 ?_
    refine g_bipush (v := 8) (by decide) dX12_island_51 ?_
    refine g_icmp_ge (tgt := 96) rfl dX12_island_53 (fun c => ?_) (fun c => ?_)
    · refine g_aload_n 0 rfl rfl dX12_island_96 ?_
      refine g_callVV (y := miX12_stepOn) (As := []) (rest := []) clX12 kd_87 rfl moX12_stepOn rfl mlX12_214 (by first | decide | omega) (by decide) (by simp [Value.category]) rfl dX12_island_97 (SX12_stepOn  M) (fun M9 => ?_)
      refine g_iconst (v := 0) (by decide) dX12_island_100 ?_
      refine g_istore_n (L' := [(2, .int 0), (0, .ref 87)]) (by decide) rfl rfl dX12_island_101 ?_
      exact GO.pick [1, 0] rfl <| SX12_island_b102  FU M9 0
    · refine g_aload_n 0 rfl rfl dX12_island_56 ?_
      refine g_getR (k := 4) (b := 90) clX12 kd_87 (by decide) rfl rfl flX12_35 dX12_island_57 ?_
      refine g_bipush (v := 8) (by decide) dX12_island_60 ?_
      refine g_iload_n 1 rfl rfl dX12_island_62 ?_
      refine g_iadd dX12_island_63 ?_
      refine g_iload_n 1 rfl rfl dX12_island_64 ?_
      refine g_iconst (v := 3) (by decide) dX12_island_65 ?_
      refine g_icmp_ne (tgt := 73) rfl dX12_island_66 (fun c => ?_) (fun c => ?_)
      · refine g_iload_n 1 rfl rfl dX12_island_73 ?_
        refine g_iconst (v := 4) (by decide) dX12_island_74 ?_
        refine g_icmp_eq (tgt := 83) rfl dX12_island_75 (fun c => ?_) (fun c => ?_)
        · exact GO.pick [0, 1] rfl <| SX12_island_b83  (fX12_island_b50 n) hrec50 M x2 (8 + x2)
        · refine g_iload_n 1 rfl rfl dX12_island_78 ?_
          refine g_iconst (v := 5) (by decide) dX12_island_79 ?_
          refine g_icmp_ne (tgt := 88) rfl dX12_island_80 (fun c => ?_) (fun c => ?_)
          · refine g_iconst (v := 0) (by decide) dX12_island_88 ?_
            exact GO.pick [0, 1] rfl <| SX12_island_b89  (fX12_island_b50 n) hrec50 M x2 0 (8 + x2)
          · exact GO.pick [0, 1] rfl <| SX12_island_b83  (fX12_island_b50 n) hrec50 M x2 (8 + x2)
      · refine g_iconst (v := 4) (by decide) dX12_island_69 ?_
        refine g_goto (tgt := 89) rfl dX12_island_70 ?_
        exact GO.pick [0, 1] rfl <| SX12_island_b89  (fX12_island_b50 n) hrec50 M x2 4 (8 + x2)
def fX12_island (M : Mem) (x1 : Int32) : RS := wr (si M 87 3 0) (fun M1 => if x1 < 0 then fX12_island_b17  M1 else if (gi M1 87 16) < x1 then fX12_island_b17  M1 else wr (si M1 87 16 0) (fun M2 => wr (si M2 87 18 x1) (fun M3 => wr (si M3 87 17 0) (fun M4 => wr (si M4 87 23 0) (fun M5 => wr (si M5 87 25 (-1)) (fun M6 => fX12_island_b50  FU M6 0))))))
theorem SX12_island (M : Mem) (x1 : Int32) : CTO (73) miX12_island 0 0 [.ref 87, .int x1] M (fX12_island  M x1) := by
  refine CTO.of (by decide) (by simp [lg_sl, Value.category]) ?_
  show GO miX12_island (73) 0 0 0 0 0 [(0, .ref 87), (1, .int x1)] [] M (wr (si M 87 3 0) (fun M1 => if x1 < 0 then fX12_island_b17  M1 else if (gi M1 87 16) < x1 then fX12_island_b17  M1 else wr (si M1 87 16 0) (fun M2 => wr (si M2 87 18 x1) (fun M3 => wr (si M3 87 17 0) (fun M4 => wr (si M4 87 23 0) (fun M5 => wr (si M5 87 25 (-1)) (fun M6 => fX12_island_b50  FU M6 0)))))))
  refine g_aload_n 0 rfl rfl dX12_island_0 ?_
  refine g_iconst (v := 0) (by decide) dX12_island_1 ?_
  refine g_putI (k := 3) clX12 kd_87 (by decide) rfl (by decide) rfl flX12_140 dX12_island_2 ?_
  refine GO.wr (fun M1 => ?_)
  refine g_iload_n 1 rfl rfl dX12_island_5 ?_
  refine g_if_lt (tgt := 17) rfl dX12_island_6 (fun c => ?_) (fun c => ?_)
  · exact GO.pick [0] rfl <| SX12_island_b17  M1
  · refine g_iload_n 1 rfl rfl dX12_island_9 ?_
    refine g_aload_n 0 rfl rfl dX12_island_10 ?_
    refine g_getI (k := 16) clX12 kd_87 (by decide) rfl flX12_147 dX12_island_11 ?_
    refine g_icmp_le (tgt := 23) rfl dX12_island_14 (fun c => ?_) (fun c => ?_)
    · refine g_aload_n 0 rfl rfl dX12_island_23 ?_
      refine g_iconst (v := 0) (by decide) dX12_island_24 ?_
      refine g_putI (k := 16) clX12 kd_87 (by decide) rfl (by decide) rfl flX12_147 dX12_island_25 ?_
      refine GO.wr (fun M2 => ?_)
      refine g_aload_n 0 rfl rfl dX12_island_28 ?_
      refine g_iload_n 1 rfl rfl dX12_island_29 ?_
      refine g_putI (k := 18) clX12 kd_87 (by decide) rfl (by decide) rfl flX12_150 dX12_island_30 ?_
      refine GO.wr (fun M3 => ?_)
      refine g_aload_n 0 rfl rfl dX12_island_33 ?_
      refine g_iconst (v := 0) (by decide) dX12_island_34 ?_
      refine g_putI (k := 17) clX12 kd_87 (by decide) rfl (by decide) rfl flX12_153 dX12_island_35 ?_
      refine GO.wr (fun M4 => ?_)
      refine g_aload_n 0 rfl rfl dX12_island_38 ?_
      refine g_iconst (v := 0) (by decide) dX12_island_39 ?_
      refine g_putI (k := 23) clX12 kd_87 (by decide) rfl (by decide) rfl flX12_189 dX12_island_40 ?_
      refine GO.wr (fun M5 => ?_)
      refine g_aload_n 0 rfl rfl dX12_island_43 ?_
      refine g_iconst (v := (-1)) (by decide) dX12_island_44 ?_
      refine g_putI (k := 25) clX12 kd_87 (by decide) rfl (by decide) rfl flX12_69 dX12_island_45 ?_
      refine GO.wr (fun M6 => ?_)
      refine g_iconst (v := 0) (by decide) dX12_island_48 ?_
      refine g_istore_n (L' := [(2, .int 0), (0, .ref 87), (1, .int x1)]) (by decide) rfl rfl dX12_island_49 ?_
      exact GO.pick [1, 0] rfl <| SX12_island_b50  FU M6 0
    · exact GO.pick [0] rfl <| SX12_island_b17  M1

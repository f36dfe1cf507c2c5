def fX12_look_b22 (M : Mem)  : RS := bI (fX12_fail M 1) (fun M4 v5 => some (M4, .inr (some (.int v5))))
theorem SX12_look_b22 (M : Mem)  : GO miX12_look (5) 0 0 0 0 22 [(0, .ref 87)] [] M (fX12_look_b22 M ) := by
  show GO miX12_look (5) 0 0 0 0 22 [(0, .ref 87)] [] M (bI (fX12_fail M 1) (fun M4 v5 => some (M4, .inr (some (.int v5)))))
  refine g_aload_n 0 rfl rfl dX12_look_22 ?_
  refine g_iconst (v := 1) (by decide) dX12_look_23 ?_
  refine g_callVI (y := miX12_fail) (As := [.int 1]) (rest := []) clX12 kd_87 rfl moX12_fail rfl mlX12_290 (by first | decide | omega) (by decide) (by simp [Value.category]) rfl dX12_look_24 (SX12_fail  M 1) (fun M4 v5 => ?_)
  exact g_ireturn rfl (by decide) (by decide) dX12_look_27 rfl rfl
def fX12_look_b105 (rec42 : Mem → Int32 → Int32 → Int32 → Int32 → Int32 → Int32 → RS) (M : Mem) (x1 : Int32) (x2 : Int32) (x3 : Int32) (x4 : Int32) (x5 : Int32) (x6 : Int32) : RS := rec42 M x1 x2 x3 x4 x5 (x6 + 1)
theorem SX12_look_b105 (rec42 : Mem → Int32 → Int32 → Int32 → Int32 → Int32 → Int32 → RS) (hrec42 : ∀ (M : Mem) (x1 : Int32) (x2 : Int32) (x3 : Int32) (x4 : Int32) (x5 : Int32) (x6 : Int32), GO miX12_look (5) 0 0 0 0 42 [(0, .ref 87), (1, .int x1), (2, .int x2), (3, .int x3), (4, .int x4), (5, .int x5), (6, .int x6)] [] M (rec42 M x1 x2 x3 x4 x5 x6)) (M : Mem) (x1 : Int32) (x2 : Int32) (x3 : Int32) (x4 : Int32) (x5 : Int32) (x6 : Int32) : GO miX12_look (5) 0 0 0 0 105 [(0, .ref 87), (1, .int x1), (2, .int x2), (3, .int x3), (4, .int x4), (5, .int x5), (6, .int x6)] [] M (fX12_look_b105 rec42 M x1 x2 x3 x4 x5 x6) := by
  show GO miX12_look (5) 0 0 0 0 105 [(0, .ref 87), (1, .int x1), (2, .int x2), (3, .int x3), (4, .int x4), (5, .int x5), (6, .int x6)] [] M (rec42 M x1 x2 x3 x4 x5 (x6 + 1))
  refine g_iinc (v := x6 + 1) (L' := [(6, .int (x6 + 1)), (0, .ref 87), (1, .int x1), (2, .int x2), (3, .int x3), (4, .int x4), (5, .int x5)]) 6 rfl rfl (by decide) rfl dX12_look_105 ?_
  refine g_goto (tgt := 42) rfl dX12_look_108 ?_
  exact GO.pick [1, 2, 3, 4, 5, 6, 0] rfl <| hrec42 M x1 x2 x3 x4 x5 (x6 + 1)
def fX12_look_b42 : Nat → Mem → Int32 → Int32 → Int32 → Int32 → Int32 → Int32 → RS
  | 0 => fun _ _ _ _ _ _ _ => none
  | n + 1 => fun M x1 x2 x3 x4 x5 x6 => if x6 < 100 then bI (fX12_ownHarvest M x1 x6) (fun M6 v7 => wr (si M6 87 35 (x3 ^^^ ((1 : Int32) <<< (x1 &&& 31)))) (fun M8 => bI (fX12_ownHarvest M8 x1 x6) (fun M9 v10 => wr (si M9 87 35 x3) (fun M11 => if x5 < (if 0 ≤ (v7 - v10) then (v7 - v10) else 0 - (v7 - v10)) then fX12_look_b105 (fX12_look_b42 n) M11 x1 x2 x3 x6 (if 0 ≤ (v7 - v10) then (v7 - v10) else 0 - (v7 - v10)) x6 else fX12_look_b105 (fX12_look_b42 n) M11 x1 x2 x3 x4 x5 x6)))) else if x2 = 0 then some (M, .inr (some (.int x4))) else some (M, .inr (some (.int x5)))
theorem SX12_look_b42 (n : Nat) : ∀ (M : Mem) (x1 : Int32) (x2 : Int32) (x3 : Int32) (x4 : Int32) (x5 : Int32) (x6 : Int32), GO miX12_look (5) 0 0 0 0 42 [(0, .ref 87), (1, .int x1), (2, .int x2), (3, .int x3), (4, .int x4), (5, .int x5), (6, .int x6)] [] M (fX12_look_b42 n M x1 x2 x3 x4 x5 x6) := by
  induction n with
  | zero => intro M x1 x2 x3 x4 x5 x6 ; exact GO.none
  | succ n hrec42 =>
    intro M x1 x2 x3 x4 x5 x6 
    show GO miX12_look (5) 0 0 0 0 42 [(0, .ref 87), (1, .int x1), (2, .int x2), (3, .int x3), (4, .int x4), (5, .int x5), (6, .int x6)] [] M (if x6 < 100 then bI (fX12_ownHarvest M x1 x6) (fun M6 v7 => wr (si M6 87 35 (x3 ^^^ ((1 : Int32) <<< (x1 &&& 31)))) (fun M8 => bI (fX12_ownHarvest M8 x1 x6) (fun M9 v10 => wr (si M9 87 35 x3) (fun M11 => if x5 < (if 0 ≤ (v7 - v10) then (v7 - v10) else 0 - (v7 - v10)) then fX12_look_b105 (fX12_look_b42 n) M11 x1 x2 x3 x6 (if 0 ≤ (v7 - v10) then (v7 - v10) else 0 - (v7 - v10)) x6 else fX12_look_b105 (fX12_look_b42 n) M11 x1 x2 x3 x4 x5 x6)))) else if x2 = 0 then some (M, .inr (some (.int x4))) else some (M, .inr (some (.int x5))))
    refine g_iload 6 rfl dX12_look_42 ?_
    refine g_bipush (v := 100) (by decide) dX12_look_44 ?_
    refine g_icmp_ge (tgt := 111) rfl dX12_look_46 (fun c => ?_) (fun c => ?_)
    · refine g_iload_n 2 rfl rfl dX12_look_111 ?_
      refine g_if_ne (tgt := 120) rfl dX12_look_112 (fun c => ?_) (fun c => ?_)
      · refine g_iload 5 rfl dX12_look_120 ?_
        exact g_ireturn rfl (by decide) (by decide) dX12_look_122 rfl rfl
      · refine g_iload 4 rfl dX12_look_115 ?_
        refine g_goto (tgt := 122) rfl dX12_look_117 ?_
        exact g_ireturn rfl (by decide) (by decide) dX12_look_122 rfl rfl
    · refine g_aload_n 0 rfl rfl dX12_look_49 ?_
      refine g_iload_n 1 rfl rfl dX12_look_50 ?_
      refine g_iload 6 rfl dX12_look_51 ?_
      refine g_callVI (y := miX12_ownHarvest) (As := [.int x1, .int x6]) (rest := []) clX12 kd_87 rfl moX12_ownHarvest rfl mlX12_470 (by first | decide | omega) (by decide) (by simp [Value.category]) rfl dX12_look_53 (SX12_ownHarvest  M x1 x6) (fun M6 v7 => ?_)
      refine g_istore (L' := [(7, .int v7), (0, .ref 87), (1, .int x1), (2, .int x2), (3, .int x3), (4, .int x4), (5, .int x5), (6, .int x6)]) (by decide) rfl dX12_look_56 ?_
      refine g_aload_n 1 rfl rfl dX12_look_58 ?_
      refine g_iload_n 4 rfl rfl dX12_look_59 ?_
      refine g_iconst (v := 1) (by decide) dX12_look_60 ?_
      refine g_iload_n 2 rfl rfl dX12_look_61 ?_
      refine g_ishl dX12_look_62 ?_
      refine g_ixor dX12_look_63 ?_
      refine g_putI (k := 35) clX12 kd_87 (by decide) rfl (by decide) rfl flX12_314 dX12_look_64 ?_
      refine GO.wr (fun M8 => ?_)
      refine g_iload 0 rfl dX12_look_67 ?_
      refine g_aload_n 1 rfl rfl dX12_look_69 ?_
      refine g_iload_n 2 rfl rfl dX12_look_70 ?_
      refine g_iload 7 rfl dX12_look_71 ?_
      refine g_callVI (y := miX12_ownHarvest) (As := [.int x1, .int x6]) (rest := [.int v7]) clX12 kd_87 rfl moX12_ownHarvest rfl mlX12_470 (by first | decide | omega) (by decide) (by simp [Value.category]) rfl dX12_look_73 (SX12_ownHarvest  M8 x1 x6) (fun M9 v10 => ?_)
      refine g_isub dX12_look_76 ?_
      refine g_mabs mlX12_336 ms_abs mt_Math mc_abs (by first | decide | omega) (by decide) (by simp [Value.category]) dX12_look_77 ?_
      refine g_istore (L' := [(7, .int (if 0 ≤ (v7 - v10) then (v7 - v10) else 0 - (v7 - v10))), (0, .ref 87), (1, .int x1), (2, .int x2), (3, .int x3), (4, .int x4), (5, .int x5), (6, .int x6)]) (by decide) rfl dX12_look_80 ?_
      refine g_aload_n 1 rfl rfl dX12_look_82 ?_
      refine g_iload_n 4 rfl rfl dX12_look_83 ?_
      refine g_putI (k := 35) clX12 kd_87 (by decide) rfl (by decide) rfl flX12_314 dX12_look_84 ?_
      refine GO.wr (fun M11 => ?_)
      refine g_iload 0 rfl dX12_look_87 ?_
      refine g_iload 6 rfl dX12_look_89 ?_
      refine g_icmp_gt (tgt := 97) rfl dX12_look_91 (fun c => ?_) (fun c => ?_)
      · refine g_iload 7 rfl dX12_look_97 ?_
        refine g_istore (L' := [(4, .int x6), (7, .int (if 0 ≤ (v7 - v10) then (v7 - v10) else 0 - (v7 - v10))), (0, .ref 87), (1, .int x1), (2, .int x2), (3, .int x3), (5, .int x5), (6, .int x6)]) (by decide) rfl dX12_look_99 ?_
        refine g_iload 1 rfl dX12_look_101 ?_
        refine g_istore (L' := [(5, .int (if 0 ≤ (v7 - v10) then (v7 - v10) else 0 - (v7 - v10))), (4, .int x6), (7, .int (if 0 ≤ (v7 - v10) then (v7 - v10) else 0 - (v7 - v10))), (0, .ref 87), (1, .int x1), (2, .int x2), (3, .int x3), (6, .int x6)]) (by decide) rfl dX12_look_103 ?_
        exact GO.pick [3, 4, 5, 6, 1, 0, 7] rfl <| SX12_look_b105  (fX12_look_b42 n) hrec42 M11 x1 x2 x3 x6 (if 0 ≤ (v7 - v10) then (v7 - v10) else 0 - (v7 - v10)) x6
      · refine g_goto (tgt := 105) rfl dX12_look_94 ?_
        exact GO.pick [1, 2, 3, 4, 5, 6, 7] rfl <| SX12_look_b105  (fX12_look_b42 n) hrec42 M11 x1 x2 x3 x4 x5 x6
def fX12_look (M : Mem) (x1 : Int32) (x2 : Int32) : RS := wr (si M 87 3 0) (fun M1 => bI (fX12_isHouse M1 x1) (fun M2 v3 => if v3 = 0 then fX12_look_b22  M2 else if x2 < 0 then fX12_look_b22  M2 else if 1 < x2 then fX12_look_b22  M2 else fX12_look_b42  FU M2 x1 x2 (gi M2 87 35) (-1) 0 0))
theorem SX12_look (M : Mem) (x1 : Int32) (x2 : Int32) : CTO (5) miX12_look 0 0 [.ref 87, .int x1, .int x2] M (fX12_look  M x1 x2) := by
  refine CTO.of (by decide) (by simp [lg_sl, Value.category]) ?_
  show GO miX12_look (5) 0 0 0 0 0 [(0, .ref 87), (1, .int x1), (2, .int x2)] [] M (wr (si M 87 3 0) (fun M1 => bI (fX12_isHouse M1 x1) (fun M2 v3 => if v3 = 0 then fX12_look_b22  M2 else if x2 < 0 then fX12_look_b22  M2 else if 1 < x2 then fX12_look_b22  M2 else fX12_look_b42  FU M2 x1 x2 (gi M2 87 35) (-1) 0 0)))
  refine g_aload_n 0 rfl rfl dX12_look_0 ?_
  refine g_iconst (v := 0) (by decide) dX12_look_1 ?_
  refine g_putI (k := 3) clX12 kd_87 (by decide) rfl (by decide) rfl flX12_140 dX12_look_2 ?_
  refine GO.wr (fun M1 => ?_)
  refine g_aload_n 0 rfl rfl dX12_look_5 ?_
  refine g_iload_n 1 rfl rfl dX12_look_6 ?_
  refine g_callVI (y := miX12_isHouse) (As := [.int x1]) (rest := []) clX12 kd_87 rfl moX12_isHouse rfl mlX12_371 (by first | decide | omega) (by decide) (by simp [Value.category]) rfl dX12_look_7 (SX12_isHouse  M1 x1) (fun M2 v3 => ?_)
  refine g_if_eq (tgt := 22) rfl dX12_look_10 (fun c => ?_) (fun c => ?_)
  · exact GO.pick [0] rfl <| SX12_look_b22  M2
  · refine g_iload_n 2 rfl rfl dX12_look_13 ?_
    refine g_if_lt (tgt := 22) rfl dX12_look_14 (fun c => ?_) (fun c => ?_)
    · exact GO.pick [0] rfl <| SX12_look_b22  M2
    · refine g_iload_n 2 rfl rfl dX12_look_17 ?_
      refine g_iconst (v := 1) (by decide) dX12_look_18 ?_
      refine g_icmp_le (tgt := 28) rfl dX12_look_19 (fun c => ?_) (fun c => ?_)
      · refine g_aload_n 0 rfl rfl dX12_look_28 ?_
        refine g_getI (k := 35) clX12 kd_87 (by decide) rfl flX12_314 dX12_look_29 ?_
        refine g_istore_n (L' := [(3, .int (gi M2 87 35)), (0, .ref 87), (1, .int x1), (2, .int x2)]) (by decide) rfl rfl dX12_look_32 ?_
        refine g_iconst (v := (-1)) (by decide) dX12_look_33 ?_
        refine g_istore (L' := [(4, .int (-1)), (3, .int (gi M2 87 35)), (0, .ref 87), (1, .int x1), (2, .int x2)]) (by decide) rfl dX12_look_34 ?_
        refine g_iconst (v := 0) (by decide) dX12_look_36 ?_
        refine g_istore (L' := [(5, .int 0), (4, .int (-1)), (3, .int (gi M2 87 35)), (0, .ref 87), (1, .int x1), (2, .int x2)]) (by decide) rfl dX12_look_37 ?_
        refine g_iconst (v := 0) (by decide) dX12_look_39 ?_
        refine g_istore (L' := [(6, .int 0), (5, .int 0), (4, .int (-1)), (3, .int (gi M2 87 35)), (0, .ref 87), (1, .int x1), (2, .int x2)]) (by decide) rfl dX12_look_40 ?_
        exact GO.pick [4, 5, 6, 3, 2, 1, 0] rfl <| SX12_look_b42  FU M2 x1 x2 (gi M2 87 35) (-1) 0 0
      · exact GO.pick [0] rfl <| SX12_look_b22  M2
def fX12_forget (M : Mem)  : RS := wr (si M 87 3 0) (fun M1 => wr (si M1 87 39 0) (fun M2 => some (M2, .inr none)))
theorem SX12_forget (M : Mem)  : CTO (0) miX12_forget 0 0 [.ref 87] M (fX12_forget  M ) := by
  refine CTO.of (by decide) (by simp [lg_sl, Value.category]) ?_
  show GO miX12_forget (0) 0 0 0 0 0 [(0, .ref 87)] [] M (wr (si M 87 3 0) (fun M1 => wr (si M1 87 39 0) (fun M2 => some (M2, .inr none))))
  refine g_aload_n 0 rfl rfl dX12_forget_0 ?_
  refine g_iconst (v := 0) (by decide) dX12_forget_1 ?_
  refine g_putI (k := 3) clX12 kd_87 (by decide) rfl (by decide) rfl flX12_140 dX12_forget_2 ?_
  refine GO.wr (fun M1 => ?_)
  refine g_aload_n 0 rfl rfl dX12_forget_5 ?_
  refine g_iconst (v := 0) (by decide) dX12_forget_6 ?_
  refine g_putI (k := 39) clX12 kd_87 (by decide) rfl (by decide) rfl flX12_323 dX12_forget_7 ?_
  refine GO.wr (fun M2 => ?_)
  exact g_vreturn rfl (by decide) (by decide) dX12_forget_10
def fX12_gain (M : Mem) (x1 : Int32) (x2 : Int32) (x3 : Int32) (x4 : Int32) (x5 : Int32) : RS := if x4 = 0 then chk (inb x1 8) (if (gi M 103 (ix x1)) = (-1) then some (M, .inr (some (.long 0))) else chk (inb x1 8) (bI (fX12_worthOf M x1 (gi M 103 (ix x1))) (fun M11 v12 => some (M11, .inr (some (.long (Int32.toInt64 v12))))))) else if x5 = 0 then bI (fX12_worthOf M x1 x3) (fun M7 v8 => some (M7, .inr (some (.long (Int32.toInt64 v8))))) else bI (fX12_strengthOf M x1) (fun M1 v2 => bI (fX12_strengthOf M1 x2) (fun M3 v4 => if v4 < v2 then bI (fX12_worthOf M3 x1 x3) (fun M5 v6 => some (M5, .inr (some (.long ((Int32.toInt64 v6) - 5))))) else some (M3, .inr (some (.long 0)))))
theorem SX12_gain (M : Mem) (x1 : Int32) (x2 : Int32) (x3 : Int32) (x4 : Int32) (x5 : Int32) : CTO (4) miX12_gain 0 0 [.ref 87, .int x1, .int x2, .int x3, .int x4, .int x5] M (fX12_gain  M x1 x2 x3 x4 x5) := by
  refine CTO.of (by decide) (by simp [lg_sl, Value.category]) ?_
  show GO miX12_gain (4) 0 0 0 0 0 [(0, .ref 87), (1, .int x1), (2, .int x2), (3, .int x3), (4, .int x4), (5, .int x5)] [] M (if x4 = 0 then chk (inb x1 8) (if (gi M 103 (ix x1)) = (-1) then some (M, .inr (some (.long 0))) else chk (inb x1 8) (bI (fX12_worthOf M x1 (gi M 103 (ix x1))) (fun M11 v12 => some (M11, .inr (some (.long (Int32.toInt64 v12))))))) else if x5 = 0 then bI (fX12_worthOf M x1 x3) (fun M7 v8 => some (M7, .inr (some (.long (Int32.toInt64 v8))))) else bI (fX12_strengthOf M x1) (fun M1 v2 => bI (fX12_strengthOf M1 x2) (fun M3 v4 => if v4 < v2 then bI (fX12_worthOf M3 x1 x3) (fun M5 v6 => some (M5, .inr (some (.long ((Int32.toInt64 v6) - 5))))) else some (M3, .inr (some (.long 0))))))
  refine g_iload 4 rfl dX12_gain_0 ?_
  refine g_if_ne (tgt := 32) rfl dX12_gain_2 (fun c => ?_) (fun c => ?_)
  · refine g_iload 5 rfl dX12_gain_32 ?_
    refine g_if_ne (tgt := 45) rfl dX12_gain_34 (fun c => ?_) (fun c => ?_)
    · refine g_aload_n 0 rfl rfl dX12_gain_45 ?_
      refine g_iload_n 1 rfl rfl dX12_gain_46 ?_
      refine g_callVI (y := miX12_strengthOf) (As := [.int x1]) (rest := []) clX12 kd_87 rfl moX12_strengthOf rfl mlX12_339 (by first | decide | omega) (by decide) (by simp [Value.category]) rfl dX12_gain_47 (SX12_strengthOf  M x1) (fun M1 v2 => ?_)
      refine g_aload_n 0 rfl rfl dX12_gain_50 ?_
      refine g_iload_n 2 rfl rfl dX12_gain_51 ?_
      refine g_callVI (y := miX12_strengthOf) (As := [.int x2]) (rest := [.int v2]) clX12 kd_87 rfl moX12_strengthOf rfl mlX12_339 (by first | decide | omega) (by decide) (by simp [Value.category]) rfl dX12_gain_52 (SX12_strengthOf  M1 x2) (fun M3 v4 => ?_)
      refine g_icmp_le (tgt := 72) rfl dX12_gain_55 (fun c => ?_) (fun c => ?_)
      · refine g_lconst (v := 0) (by decide) dX12_gain_72 ?_
        exact g_lreturn rfl (by decide) (by decide) dX12_gain_73
      · refine g_aload_n 0 rfl rfl dX12_gain_58 ?_
        refine g_iload_n 1 rfl rfl dX12_gain_59 ?_
        refine g_iload_n 3 rfl rfl dX12_gain_60 ?_
        refine g_callVI (y := miX12_worthOf) (As := [.int x1, .int x3]) (rest := []) clX12 kd_87 rfl moX12_worthOf rfl mlX12_362 (by first | decide | omega) (by decide) (by simp [Value.category]) rfl dX12_gain_61 (SX12_worthOf  M3 x1 x3) (fun M5 v6 => ?_)
        refine g_i2l dX12_gain_64 ?_
        refine g_ldc2 (v := 5) coX12_476 dX12_gain_65 ?_
        refine g_lsub dX12_gain_68 ?_
        refine g_goto (tgt := 73) rfl dX12_gain_69 ?_
        exact g_lreturn rfl (by decide) (by decide) dX12_gain_73
    · refine g_aload_n 0 rfl rfl dX12_gain_37 ?_
      refine g_iload_n 1 rfl rfl dX12_gain_38 ?_
      refine g_iload_n 3 rfl rfl dX12_gain_39 ?_
      refine g_callVI (y := miX12_worthOf) (As := [.int x1, .int x3]) (rest := []) clX12 kd_87 rfl moX12_worthOf rfl mlX12_362 (by first | decide | omega) (by decide) (by simp [Value.category]) rfl dX12_gain_40 (SX12_worthOf  M x1 x3) (fun M7 v8 => ?_)
      refine g_i2l dX12_gain_43 ?_
      exact g_lreturn rfl (by decide) (by decide) dX12_gain_44
  · refine g_aload_n 0 rfl rfl dX12_gain_5 ?_
    refine g_getR (k := 28) (b := 103) clX12 kd_87 (by decide) rfl rfl flX12_76 dX12_gain_6 ?_
    refine g_iload_n 1 rfl rfl dX12_gain_9 ?_
    refine g_ald kd_103 dX12_gain_10 (fun hi9 => ?_)
    refine g_iconst (v := (-1)) (by decide) dX12_gain_11 ?_
    refine g_icmp_ne (tgt := 19) rfl dX12_gain_12 (fun c => ?_) (fun c => ?_)
    · refine g_aload_n 0 rfl rfl dX12_gain_19 ?_
      refine g_iload_n 1 rfl rfl dX12_gain_20 ?_
      refine g_aload_n 0 rfl rfl dX12_gain_21 ?_
      refine g_getR (k := 28) (b := 103) clX12 kd_87 (by decide) rfl rfl flX12_76 dX12_gain_22 ?_
      refine g_iload_n 1 rfl rfl dX12_gain_25 ?_
      refine g_ald kd_103 dX12_gain_26 (fun hi10 => ?_)
      refine g_callVI (y := miX12_worthOf) (As := [.int x1, .int (gi M 103 (ix x1))]) (rest := []) clX12 kd_87 rfl moX12_worthOf rfl mlX12_362 (by first | decide | omega) (by decide) (by simp [Value.category]) rfl dX12_gain_27 (SX12_worthOf  M x1 (gi M 103 (ix x1))) (fun M11 v12 => ?_)
      refine g_i2l dX12_gain_30 ?_
      exact g_lreturn rfl (by decide) (by decide) dX12_gain_31
    · refine g_lconst (v := 0) (by decide) dX12_gain_15 ?_
      refine g_goto (tgt := 31) rfl dX12_gain_16 ?_
      exact g_lreturn rfl (by decide) (by decide) dX12_gain_31
def fX12_game_b40 (M : Mem)  : RS := bI (fX12_fail M 1) (fun M10 v11 => some (M10, .inr (some (.int v11))))
theorem SX12_game_b40 (M : Mem)  : GO miX12_game (5) 0 0 0 0 40 [(0, .ref 87)] [] M (fX12_game_b40 M ) := by
  show GO miX12_game (5) 0 0 0 0 40 [(0, .ref 87)] [] M (bI (fX12_fail M 1) (fun M10 v11 => some (M10, .inr (some (.int v11)))))
  refine g_aload_n 0 rfl rfl dX12_game_40 ?_
  refine g_iconst (v := 1) (by decide) dX12_game_41 ?_
  refine g_callVI (y := miX12_fail) (As := [.int 1]) (rest := []) clX12 kd_87 rfl moX12_fail rfl mlX12_290 (by first | decide | omega) (by decide) (by simp [Value.category]) rfl dX12_game_42 (SX12_fail  M 1) (fun M10 v11 => ?_)
  exact g_ireturn rfl (by decide) (by decide) dX12_game_45 rfl rfl
def fX12_game_b167 (rec66 : Mem → Int32 → Int32 → Int32 → Int32 → Int32 → Int32 → Int32 → RS) (M : Mem) (x1 : Int32) (x2 : Int32) (x3 : Int32) (x4 : Int32) (x5 : Int32) (x6 : Int32) (x7 : Int32) : RS := rec66 M x1 x2 x3 x4 x5 x6 (x7 + 1)
theorem SX12_game_b167 (rec66 : Mem → Int32 → Int32 → Int32 → Int32 → Int32 → Int32 → Int32 → RS) (hrec66 : ∀ (M : Mem) (x1 : Int32) (x2 : Int32) (x3 : Int32) (x4 : Int32) (x5 : Int32) (x6 : Int32) (x7 : Int32), GO miX12_game (5) 0 0 0 0 66 [(0, .ref 87), (1, .int x1), (2, .int x2), (3, .int x3), (4, .int x4), (5, .int x5), (6, .int x6), (7, .int x7)] [] M (rec66 M x1 x2 x3 x4 x5 x6 x7)) (M : Mem) (x1 : Int32) (x2 : Int32) (x3 : Int32) (x4 : Int32) (x5 : Int32) (x6 : Int32) (x7 : Int32) : GO miX12_game (5) 0 0 0 0 167 [(0, .ref 87), (1, .int x1), (2, .int x2), (3, .int x3), (4, .int x4), (5, .int x5), (6, .int x6), (7, .int x7)] [] M (fX12_game_b167 rec66 M x1 x2 x3 x4 x5 x6 x7) := by
  show GO miX12_game (5) 0 0 0 0 167 [(0, .ref 87), (1, .int x1), (2, .int x2), (3, .int x3), (4, .int x4), (5, .int x5), (6, .int x6), (7, .int x7)] [] M (rec66 M x1 x2 x3 x4 x5 x6 (x7 + 1))
  refine g_iinc (v := x7 + 1) (L' := [(7, .int (x7 + 1)), (0, .ref 87), (1, .int x1), (2, .int x2), (3, .int x3), (4, .int x4), (5, .int x5), (6, .int x6)]) 7 rfl rfl (by decide) rfl dX12_game_167 ?_
  refine g_goto (tgt := 66) rfl dX12_game_170 ?_
  exact GO.pick [1, 2, 3, 4, 5, 6, 7, 0] rfl <| hrec66 M x1 x2 x3 x4 x5 x6 (x7 + 1)
def fX12_game_b165 (rec66 : Mem → Int32 → Int32 → Int32 → Int32 → Int32 → Int32 → Int32 → RS) (M : Mem) (x1 : Int32) (x2 : Int32) (x3 : Int32) (x4 : Int32) (x5 : Int32) (x7 : Int32) (s0 : Int32) : RS := fX12_game_b167 rec66 M x1 x2 x3 x4 x5 s0 x7
theorem SX12_game_b165 (rec66 : Mem → Int32 → Int32 → Int32 → Int32 → Int32 → Int32 → Int32 → RS) (hrec66 : ∀ (M : Mem) (x1 : Int32) (x2 : Int32) (x3 : Int32) (x4 : Int32) (x5 : Int32) (x6 : Int32) (x7 : Int32), GO miX12_game (5) 0 0 0 0 66 [(0, .ref 87), (1, .int x1), (2, .int x2), (3, .int x3), (4, .int x4), (5, .int x5), (6, .int x6), (7, .int x7)] [] M (rec66 M x1 x2 x3 x4 x5 x6 x7)) (M : Mem) (x1 : Int32) (x2 : Int32) (x3 : Int32) (x4 : Int32) (x5 : Int32) (x7 : Int32) (s0 : Int32) : GO miX12_game (5) 0 0 0 0 165 [(0, .ref 87), (1, .int x1), (2, .int x2), (3, .int x3), (4, .int x4), (5, .int x5), (7, .int x7)] [.int s0] M (fX12_game_b165 rec66 M x1 x2 x3 x4 x5 x7 s0) := by
  show GO miX12_game (5) 0 0 0 0 165 [(0, .ref 87), (1, .int x1), (2, .int x2), (3, .int x3), (4, .int x4), (5, .int x5), (7, .int x7)] [.int s0] M (fX12_game_b167 rec66 M x1 x2 x3 x4 x5 s0 x7)
  refine g_istore (L' := [(6, .int s0), (0, .ref 87), (1, .int x1), (2, .int x2), (3, .int x3), (4, .int x4), (5, .int x5), (7, .int x7)]) (by decide) rfl dX12_game_165 ?_
  exact GO.pick [1, 2, 3, 4, 5, 6, 0, 7] rfl <| SX12_game_b167  rec66 hrec66 M x1 x2 x3 x4 x5 s0 x7
def fX12_game_b66 : Nat → Mem → Int32 → Int32 → Int32 → Int32 → Int32 → Int32 → Int32 → RS
  | 0 => fun _ _ _ _ _ _ _ _ => none
  | n + 1 => fun M x1 x2 x3 x4 x5 x6 x7 => if x7 < 4 then bL (fX12_gain M x1 x2 x3 (1 - (x7 / 2)) (x7 - x7 / 2 * 2)) (fun M12 v13 => bL (fX12_gain M12 x1 x2 x3 (x7 / 2) (x7 - x7 / 2 * 2)) (fun M14 v15 => if 0 < (lg_cmp v13 v15) then fX12_game_b167 (fX12_game_b66 n) M14 x1 x2 x3 x4 x5 x6 x7 else bL (fX12_gain M14 x2 x1 x3 (1 - (x7 - x7 / 2 * 2)) (x7 / 2)) (fun M16 v17 => bL (fX12_gain M16 x2 x1 x3 (x7 - x7 / 2 * 2) (x7 / 2)) (fun M18 v19 => if 0 < (lg_cmp v17 v19) then fX12_game_b167 (fX12_game_b66 n) M18 x1 x2 x3 x4 x5 x6 x7 else if x6 = (-1) then fX12_game_b165 (fX12_game_b66 n) M18 x1 x2 x3 x4 (x5 + 1) x7 ((10 * (x7 / 2)) + (x7 - x7 / 2 * 2)) else fX12_game_b165 (fX12_game_b66 n) M18 x1 x2 x3 x4 (x5 + 1) x7 x6)))) else if x4 = 0 then some (M, .inr (some (.int x5))) else some (M, .inr (some (.int x6)))
theorem SX12_game_b66 (n : Nat) : ∀ (M : Mem) (x1 : Int32) (x2 : Int32) (x3 : Int32) (x4 : Int32) (x5 : Int32) (x6 : Int32) (x7 : Int32), GO miX12_game (5) 0 0 0 0 66 [(0, .ref 87), (1, .int x1), (2, .int x2), (3, .int x3), (4, .int x4), (5, .int x5), (6, .int x6), (7, .int x7)] [] M (fX12_game_b66 n M x1 x2 x3 x4 x5 x6 x7) := by
  induction n with
  | zero => intro M x1 x2 x3 x4 x5 x6 x7 ; exact GO.none
  | succ n hrec66 =>
    intro M x1 x2 x3 x4 x5 x6 x7 
    show GO miX12_game (5) 0 0 0 0 66 [(0, .ref 87), (1, .int x1), (2, .int x2), (3, .int x3), (4, .int x4), (5, .int x5), (6, .int x6), (7, .int x7)] [] M (if x7 < 4 then bL (fX12_gain M x1 x2 x3 (1 - (x7 / 2)) (x7 - x7 / 2 * 2)) (fun M12 v13 => bL (fX12_gain M12 x1 x2 x3 (x7 / 2) (x7 - x7 / 2 * 2)) (fun M14 v15 => if 0 < (lg_cmp v13 v15) then fX12_game_b167 (fX12_game_b66 n) M14 x1 x2 x3 x4 x5 x6 x7 else bL (fX12_gain M14 x2 x1 x3 (1 - (x7 - x7 / 2 * 2)) (x7 / 2)) (fun M16 v17 => bL (fX12_gain M16 x2 x1 x3 (x7 - x7 / 2 * 2) (x7 / 2)) (fun M18 v19 => if 0 < (lg_cmp v17 v19) then fX12_game_b167 (fX12_game_b66 n) M18 x1 x2 x3 x4 x5 x6 x7 else if x6 = (-1) then fX12_game_b165 (fX12_game_b66 n) M18 x1 x2 x3 x4 (x5 + 1) x7 ((10 * (x7 / 2)) + (x7 - x7 / 2 * 2)) else fX12_game_b165 (fX12_game_b66 n) M18 x1 x2 x3 x4 (x5 + 1) x7 x6)))) else if x4 = 0 then some (M, .inr (some (.int x5))) else some (M, .inr (some (.int x6))))
    refine g_iload 7 rfl dX12_game_66 ?_
    refine g_iconst (v := 4) (by decide) dX12_game_68 ?_
    refine g_icmp_ge (tgt := 173) rfl dX12_game_69 (fun c => ?_) (fun c => ?_)
    · refine g_iload 4 rfl dX12_game_173 ?_
      refine g_if_ne (tgt := 183) rfl dX12_game_175 (fun c => ?_) (fun c => ?_)
      · refine g_iload 6 rfl dX12_game_183 ?_
        exact g_ireturn rfl (by decide) (by decide) dX12_game_185 rfl rfl
      · refine g_iload 5 rfl dX12_game_178 ?_
        refine g_goto (tgt := 185) rfl dX12_game_180 ?_
        exact g_ireturn rfl (by decide) (by decide) dX12_game_185 rfl rfl
    · refine g_iload 7 rfl dX12_game_72 ?_
      refine g_iconst (v := 2) (by decide) dX12_game_74 ?_
      refine g_idiv (by decide) dX12_game_75 ?_
      refine g_istore (L' := [(8, .int (x7 / 2)), (0, .ref 87), (1, .int x1), (2, .int x2), (3, .int x3), (4, .int x4), (5, .int x5), (6, .int x6), (7, .int x7)]) (by decide) rfl dX12_game_76 ?_
      refine g_iload 8 rfl dX12_game_78 ?_
      refine g_iconst (v := 2) (by decide) dX12_game_80 ?_
      refine g_irem (by decide) dX12_game_81 ?_
      refine g_istore (L' := [(9, .int (x7 - x7 / 2 * 2)), (8, .int (x7 / 2)), (0, .ref 87), (1, .int x1), (2, .int x2), (3, .int x3), (4, .int x4), (5, .int x5), (6, .int x6), (7, .int x7)]) (by decide) rfl dX12_game_82 ?_
      refine g_aload_n 2 rfl rfl dX12_game_84 ?_
      refine g_iload_n 3 rfl rfl dX12_game_85 ?_
      refine g_iload_n 4 rfl rfl dX12_game_86 ?_
      refine g_iload_n 5 rfl rfl dX12_game_87 ?_
      refine g_iconst (v := 1) (by decide) dX12_game_88 ?_
      refine g_iload 1 rfl dX12_game_89 ?_
      refine g_isub dX12_game_91 ?_
      refine g_iload 0 rfl dX12_game_92 ?_
      refine g_callVL (y := miX12_gain) (As := [.int x1, .int x2, .int x3, .int (1 - (x7 / 2)), .int (x7 - x7 / 2 * 2)]) (rest := []) clX12 kd_87 rfl moX12_gain rfl mlX12_478 (by first | decide | omega) (by decide) (by simp [Value.category]) rfl dX12_game_94 (SX12_gain  M x1 x2 x3 (1 - (x7 / 2)) (x7 - x7 / 2 * 2)) (fun M12 v13 => ?_)
      refine g_aload_n 2 rfl rfl dX12_game_97 ?_
      refine g_iload_n 3 rfl rfl dX12_game_98 ?_
      refine g_iload_n 4 rfl rfl dX12_game_99 ?_
      refine g_iload_n 5 rfl rfl dX12_game_100 ?_
      refine g_iload 1 rfl dX12_game_101 ?_
      refine g_iload 0 rfl dX12_game_103 ?_
      refine g_callVL (y := miX12_gain) (As := [.int x1, .int x2, .int x3, .int (x7 / 2), .int (x7 - x7 / 2 * 2)]) (rest := [.long v13]) clX12 kd_87 rfl moX12_gain rfl mlX12_478 (by first | decide | omega) (by decide) (by simp [Value.category]) rfl dX12_game_105 (SX12_gain  M12 x1 x2 x3 (x7 / 2) (x7 - x7 / 2 * 2)) (fun M14 v15 => ?_)
      refine g_lcmp dX12_game_108 ?_
      refine g_if_gt (tgt := 167) rfl dX12_game_109 (fun c => ?_) (fun c => ?_)
      · exact GO.pick [2, 3, 4, 5, 6, 7, 8, 9] rfl <| SX12_game_b167  (fX12_game_b66 n) hrec66 M14 x1 x2 x3 x4 x5 x6 x7
      · refine g_aload_n 2 rfl rfl dX12_game_112 ?_
        refine g_iload_n 4 rfl rfl dX12_game_113 ?_
        refine g_iload_n 3 rfl rfl dX12_game_114 ?_
        refine g_iload_n 5 rfl rfl dX12_game_115 ?_
        refine g_iconst (v := 1) (by decide) dX12_game_116 ?_
        refine g_iload 0 rfl dX12_game_117 ?_
        refine g_isub dX12_game_119 ?_
        refine g_iload 1 rfl dX12_game_120 ?_
        refine g_callVL (y := miX12_gain) (As := [.int x2, .int x1, .int x3, .int (1 - (x7 - x7 / 2 * 2)), .int (x7 / 2)]) (rest := []) clX12 kd_87 rfl moX12_gain rfl mlX12_478 (by first | decide | omega) (by decide) (by simp [Value.category]) rfl dX12_game_122 (SX12_gain  M14 x2 x1 x3 (1 - (x7 - x7 / 2 * 2)) (x7 / 2)) (fun M16 v17 => ?_)
        refine g_aload_n 2 rfl rfl dX12_game_125 ?_
        refine g_iload_n 4 rfl rfl dX12_game_126 ?_
        refine g_iload_n 3 rfl rfl dX12_game_127 ?_
        refine g_iload_n 5 rfl rfl dX12_game_128 ?_
        refine g_iload 0 rfl dX12_game_129 ?_
        refine g_iload 1 rfl dX12_game_131 ?_
        refine g_callVL (y := miX12_gain) (As := [.int x2, .int x1, .int x3, .int (x7 - x7 / 2 * 2), .int (x7 / 2)]) (rest := [.long v17]) clX12 kd_87 rfl moX12_gain rfl mlX12_478 (by first | decide | omega) (by decide) (by simp [Value.category]) rfl dX12_game_133 (SX12_gain  M16 x2 x1 x3 (x7 - x7 / 2 * 2) (x7 / 2)) (fun M18 v19 => ?_)
        refine g_lcmp dX12_game_136 ?_
        refine g_if_le (tgt := 143) rfl dX12_game_137 (fun c => ?_) (fun c => ?_)
        · refine g_iinc (v := x5 + 1) (L' := [(5, .int (x5 + 1)), (9, .int (x7 - x7 / 2 * 2)), (8, .int (x7 / 2)), (0, .ref 87), (1, .int x1), (2, .int x2), (3, .int x3), (4, .int x4), (6, .int x6), (7, .int x7)]) 7 rfl rfl (by decide) rfl dX12_game_143 ?_
          refine g_iload 8 rfl dX12_game_146 ?_
          refine g_iconst (v := (-1)) (by decide) dX12_game_148 ?_
          refine g_icmp_ne (tgt := 163) rfl dX12_game_149 (fun c => ?_) (fun c => ?_)
          · refine g_iload 8 rfl dX12_game_163 ?_
            exact GO.pick [3, 4, 5, 6, 7, 0, 9] rfl <| SX12_game_b165  (fX12_game_b66 n) hrec66 M18 x1 x2 x3 x4 (x5 + 1) x7 x6
          · refine g_bipush (v := 10) (by decide) dX12_game_152 ?_
            refine g_iload 2 rfl dX12_game_154 ?_
            refine g_imul dX12_game_156 ?_
            refine g_iload 1 rfl dX12_game_157 ?_
            refine g_iadd dX12_game_159 ?_
            refine g_goto (tgt := 165) rfl dX12_game_160 ?_
            exact GO.pick [3, 4, 5, 6, 7, 0, 9] rfl <| SX12_game_b165  (fX12_game_b66 n) hrec66 M18 x1 x2 x3 x4 (x5 + 1) x7 ((10 * (x7 / 2)) + (x7 - x7 / 2 * 2))
        · refine g_goto (tgt := 167) rfl dX12_game_140 ?_
          exact GO.pick [2, 3, 4, 5, 6, 7, 8, 9] rfl <| SX12_game_b167  (fX12_game_b66 n) hrec66 M18 x1 x2 x3 x4 x5 x6 x7
def fX12_game (M : Mem) (x1 : Int32) (x2 : Int32) (x3 : Int32) (x4 : Int32) : RS := wr (si M 87 3 0) (fun M1 => bI (fX12_isHouse M1 x1) (fun M2 v3 => if v3 = 0 then fX12_game_b40  M2 else bI (fX12_isHouse M2 x2) (fun M4 v5 => if v5 = 0 then fX12_game_b40  M4 else bI (fX12_isPlot M4 x3) (fun M6 v7 => if v7 = 0 then fX12_game_b40  M6 else if x4 < 0 then fX12_game_b40  M6 else if 1 < x4 then fX12_game_b40  M6 else if x1 = x2 then bI (fX12_fail M6 2) (fun M8 v9 => some (M8, .inr (some (.int v9)))) else fX12_game_b66  FU M6 x1 x2 x3 x4 0 (-1) 0))))
theorem SX12_game (M : Mem) (x1 : Int32) (x2 : Int32) (x3 : Int32) (x4 : Int32) : CTO (5) miX12_game 0 0 [.ref 87, .int x1, .int x2, .int x3, .int x4] M (fX12_game  M x1 x2 x3 x4) := by
  refine CTO.of (by decide) (by simp [lg_sl, Value.category]) ?_
  show GO miX12_game (5) 0 0 0 0 0 [(0, .ref 87), (1, .int x1), (2, .int x2), (3, .int x3), (4, .int x4)] [] M (wr (si M 87 3 0) (fun M1 => bI (fX12_isHouse M1 x1) (fun M2 v3 => if v3 = 0 then fX12_game_b40  M2 else bI (fX12_isHouse M2 x2) (fun M4 v5 => if v5 = 0 then fX12_game_b40  M4 else bI (fX12_isPlot M4 x3) (fun M6 v7 => if v7 = 0 then fX12_game_b40  M6 else if x4 < 0 then fX12_game_b40  M6 else if 1 < x4 then fX12_game_b40  M6 else if x1 = x2 then bI (fX12_fail M6 2) (fun M8 v9 => some (M8, .inr (some (.int v9)))) else fX12_game_b66  FU M6 x1 x2 x3 x4 0 (-1) 0)))))
  refine g_aload_n 0 rfl rfl dX12_game_0 ?_
  refine g_iconst (v := 0) (by decide) dX12_game_1 ?_
  refine g_putI (k := 3) clX12 kd_87 (by decide) rfl (by decide) rfl flX12_140 dX12_game_2 ?_
  refine GO.wr (fun M1 => ?_)
  refine g_aload_n 0 rfl rfl dX12_game_5 ?_
  refine g_iload_n 1 rfl rfl dX12_game_6 ?_
  refine g_callVI (y := miX12_isHouse) (As := [.int x1]) (rest := []) clX12 kd_87 rfl moX12_isHouse rfl mlX12_371 (by first | decide | omega) (by decide) (by simp [Value.category]) rfl dX12_game_7 (SX12_isHouse  M1 x1) (fun M2 v3 => ?_)
  refine g_if_eq (tgt := 40) rfl dX12_game_10 (fun c => ?_) (fun c => ?_)
  · exact GO.pick [0] rfl <| SX12_game_b40  M2
  · refine g_aload_n 0 rfl rfl dX12_game_13 ?_
    refine g_iload_n 2 rfl rfl dX12_game_14 ?_
    refine g_callVI (y := miX12_isHouse) (As := [.int x2]) (rest := []) clX12 kd_87 rfl moX12_isHouse rfl mlX12_371 (by first | decide | omega) (by decide) (by simp [Value.category]) rfl dX12_game_15 (SX12_isHouse  M2 x2) (fun M4 v5 => ?_)
    refine g_if_eq (tgt := 40) rfl dX12_game_18 (fun c => ?_) (fun c => ?_)
    · exact GO.pick [0] rfl <| SX12_game_b40  M4
    · refine g_aload_n 0 rfl rfl dX12_game_21 ?_
      refine g_iload_n 3 rfl rfl dX12_game_22 ?_
      refine g_callVI (y := miX12_isPlot) (As := [.int x3]) (rest := []) clX12 kd_87 rfl moX12_isPlot rfl mlX12_380 (by first | decide | omega) (by decide) (by simp [Value.category]) rfl dX12_game_23 (SX12_isPlot  M4 x3) (fun M6 v7 => ?_)
      refine g_if_eq (tgt := 40) rfl dX12_game_26 (fun c => ?_) (fun c => ?_)
      · exact GO.pick [0] rfl <| SX12_game_b40  M6
      · refine g_iload 4 rfl dX12_game_29 ?_
        refine g_if_lt (tgt := 40) rfl dX12_game_31 (fun c => ?_) (fun c => ?_)
        · exact GO.pick [0] rfl <| SX12_game_b40  M6
        · refine g_iload 4 rfl dX12_game_34 ?_
          refine g_iconst (v := 1) (by decide) dX12_game_36 ?_
          refine g_icmp_le (tgt := 46) rfl dX12_game_37 (fun c => ?_) (fun c => ?_)
          · refine g_iload_n 1 rfl rfl dX12_game_46 ?_
            refine g_iload_n 2 rfl rfl dX12_game_47 ?_
            refine g_icmp_ne (tgt := 57) rfl dX12_game_48 (fun c => ?_) (fun c => ?_)
            · refine g_iconst (v := 0) (by decide) dX12_game_57 ?_
              refine g_istore (L' := [(5, .int 0), (0, .ref 87), (1, .int x1), (2, .int x2), (3, .int x3), (4, .int x4)]) (by decide) rfl dX12_game_58 ?_
              refine g_iconst (v := (-1)) (by decide) dX12_game_60 ?_
              refine g_istore (L' := [(6, .int (-1)), (5, .int 0), (0, .ref 87), (1, .int x1), (2, .int x2), (3, .int x3), (4, .int x4)]) (by decide) rfl dX12_game_61 ?_
              refine g_iconst (v := 0) (by decide) dX12_game_63 ?_
              refine g_istore (L' := [(7, .int 0), (6, .int (-1)), (5, .int 0), (0, .ref 87), (1, .int x1), (2, .int x2), (3, .int x3), (4, .int x4)]) (by decide) rfl dX12_game_64 ?_
              exact GO.pick [3, 4, 5, 6, 7, 2, 1, 0] rfl <| SX12_game_b66  FU M6 x1 x2 x3 x4 0 (-1) 0
            · refine g_aload_n 0 rfl rfl dX12_game_51 ?_
              refine g_iconst (v := 2) (by decide) dX12_game_52 ?_
              refine g_callVI (y := miX12_fail) (As := [.int 2]) (rest := []) clX12 kd_87 rfl moX12_fail rfl mlX12_290 (by first | decide | omega) (by decide) (by simp [Value.category]) rfl dX12_game_53 (SX12_fail  M6 2) (fun M8 v9 => ?_)
              exact g_ireturn rfl (by decide) (by decide) dX12_game_56 rfl rfl
          · exact GO.pick [0] rfl <| SX12_game_b40  M6
def fX12_founders_b148 (rec67 : Mem → Int32 → Int32 → Int32 → Int32 → Int32 → Int32 → RS) : Nat → Mem → Int32 → Int32 → Int32 → Int32 → Int32 → Int32 → Int32 → RS
  | 0 => fun _ _ _ _ _ _ _ _ => none
  | n + 1 => fun M x2 x3 x4 x5 x6 x7 x8 => if x8 < (gi M 90 0) then chk (inb x8 8) ((fX12_founders_b148 rec67 n) M x2 x3 x4 (if x5 < (gi M 102 (ix x8)) then (gi M 102 (ix x8)) else x5) x6 x7 (x8 + 1)) else rec67 M x2 x3 x4 x5 x6 (x7 + 1)
theorem SX12_founders_b148 (rec67 : Mem → Int32 → Int32 → Int32 → Int32 → Int32 → Int32 → RS) (hrec67 : ∀ (M : Mem) (x2 : Int32) (x3 : Int32) (x4 : Int32) (x5 : Int32) (x6 : Int32) (x7 : Int32), GO miX12_founders (6) 0 0 0 0 67 [(0, .ref 87), (2, .int x2), (3, .int x3), (4, .int x4), (5, .int x5), (6, .int x6), (7, .int x7)] [] M (rec67 M x2 x3 x4 x5 x6 x7)) (n : Nat) : ∀ (M : Mem) (x2 : Int32) (x3 : Int32) (x4 : Int32) (x5 : Int32) (x6 : Int32) (x7 : Int32) (x8 : Int32), GO miX12_founders (6) 0 0 0 0 148 [(0, .ref 87), (2, .int x2), (3, .int x3), (4, .int x4), (5, .int x5), (6, .int x6), (7, .int x7), (8, .int x8)] [] M (fX12_founders_b148 rec67 n M x2 x3 x4 x5 x6 x7 x8) := by
  induction n with
  | zero => intro M x2 x3 x4 x5 x6 x7 x8 ; exact GO.none
  | succ n hrec148 =>
    intro M x2 x3 x4 x5 x6 x7 x8 
    show GO miX12_founders (6) 0 0 0 0 148 [(0, .ref 87), (2, .int x2), (3, .int x3), (4, .int x4), (5, .int x5), (6, .int x6), (7, .int x7), (8, .int x8)] [] M (if x8 < (gi M 90 0) then chk (inb x8 8) ((fX12_founders_b148 rec67 n) M x2 x3 x4 (if x5 < (gi M 102 (ix x8)) then (gi M 102 (ix x8)) else x5) x6 x7 (x8 + 1)) else rec67 M x2 x3 x4 x5 x6 (x7 + 1))
    refine g_iload 7 rfl dX12_founders_148 ?_
    refine g_aload_n 0 rfl rfl dX12_founders_150 ?_
    refine g_getR (k := 4) (b := 90) clX12 kd_87 (by decide) rfl rfl flX12_35 dX12_founders_151 ?_
    refine g_iconst (v := 0) (by decide) dX12_founders_154 ?_
    refine g_aldL (j := 0) kd_90 (by decide) (by decide) dX12_founders_155 ?_
    refine g_icmp_ge (tgt := 179) rfl dX12_founders_156 (fun c => ?_) (fun c => ?_)
    · refine g_iinc (v := x7 + 1) (L' := [(7, .int (x7 + 1)), (0, .ref 87), (2, .int x2), (3, .int x3), (4, .int x4), (5, .int x5), (6, .int x6), (8, .int x8)]) 6 rfl rfl (by decide) rfl dX12_founders_179 ?_
      refine g_goto (tgt := 67) rfl dX12_founders_182 ?_
      exact GO.pick [1, 2, 3, 4, 5, 6, 0] rfl <| hrec67 M x2 x3 x4 x5 x6 (x7 + 1)
    · refine g_iload 4 rfl dX12_founders_159 ?_
      refine g_aload_n 0 rfl rfl dX12_founders_161 ?_
      refine g_getR (k := 27) (b := 102) clX12 kd_87 (by decide) rfl rfl flX12_73 dX12_founders_162 ?_
      refine g_iload 7 rfl dX12_founders_165 ?_
      refine g_ald kd_102 dX12_founders_167 (fun hi25 => ?_)
      refine g_mmax mlX12_356 ms_max mt_Math mc_max (by first | decide | omega) (by decide) (by simp [Value.category]) dX12_founders_168 ?_
      refine g_istore (L' := [(5, .int (if x5 < (gi M 102 (ix x8)) then (gi M 102 (ix x8)) else x5)), (0, .ref 87), (2, .int x2), (3, .int x3), (4, .int x4), (6, .int x6), (7, .int x7), (8, .int x8)]) (by decide) rfl dX12_founders_171 ?_
      refine g_iinc (v := x8 + 1) (L' := [(8, .int (x8 + 1)), (5, .int (if x5 < (gi M 102 (ix x8)) then (gi M 102 (ix x8)) else x5)), (0, .ref 87), (2, .int x2), (3, .int x3), (4, .int x4), (6, .int x6), (7, .int x7)]) 7 rfl rfl (by decide) rfl dX12_founders_173 ?_
      refine g_goto (tgt := 148) rfl dX12_founders_176 ?_
      exact GO.pick [2, 3, 4, 5, 1, 6, 7, 0] rfl <| hrec148 M x2 x3 x4 (if x5 < (gi M 102 (ix x8)) then (gi M 102 (ix x8)) else x5) x6 x7 (x8 + 1)
def fX12_founders_b142 (rec67 : Mem → Int32 → Int32 → Int32 → Int32 → Int32 → Int32 → RS) (M : Mem) (x2 : Int32) (x3 : Int32) (x4 : Int32) (x5 : Int32) (x7 : Int32) (s0 : Int32) (s1 : Int32) : RS := fX12_founders_b148 rec67 FU M x2 x3 x4 x5 (s1 + s0) x7 0
theorem SX12_founders_b142 (rec67 : Mem → Int32 → Int32 → Int32 → Int32 → Int32 → Int32 → RS) (hrec67 : ∀ (M : Mem) (x2 : Int32) (x3 : Int32) (x4 : Int32) (x5 : Int32) (x6 : Int32) (x7 : Int32), GO miX12_founders (6) 0 0 0 0 67 [(0, .ref 87), (2, .int x2), (3, .int x3), (4, .int x4), (5, .int x5), (6, .int x6), (7, .int x7)] [] M (rec67 M x2 x3 x4 x5 x6 x7)) (M : Mem) (x2 : Int32) (x3 : Int32) (x4 : Int32) (x5 : Int32) (x7 : Int32) (s0 : Int32) (s1 : Int32) : GO miX12_founders (6) 0 0 0 0 142 [(0, .ref 87), (2, .int x2), (3, .int x3), (4, .int x4), (5, .int x5), (7, .int x7)] [.int s0, .int s1] M (fX12_founders_b142 rec67 M x2 x3 x4 x5 x7 s0 s1) := by
  show GO miX12_founders (6) 0 0 0 0 142 [(0, .ref 87), (2, .int x2), (3, .int x3), (4, .int x4), (5, .int x5), (7, .int x7)] [.int s0, .int s1] M (fX12_founders_b148 rec67 FU M x2 x3 x4 x5 (s1 + s0) x7 0)
  refine g_iadd dX12_founders_142 ?_
  refine g_istore (L' := [(6, .int (s1 + s0)), (0, .ref 87), (2, .int x2), (3, .int x3), (4, .int x4), (5, .int x5), (7, .int x7)]) (by decide) rfl dX12_founders_143 ?_
  refine g_iconst (v := 0) (by decide) dX12_founders_145 ?_
  refine g_istore (L' := [(8, .int 0), (6, .int (s1 + s0)), (0, .ref 87), (2, .int x2), (3, .int x3), (4, .int x4), (5, .int x5), (7, .int x7)]) (by decide) rfl dX12_founders_146 ?_
  exact GO.pick [2, 3, 4, 5, 6, 1, 7, 0] rfl <| SX12_founders_b148  rec67 hrec67 FU M x2 x3 x4 x5 (s1 + s0) x7 0
def fX12_founders_b86 (rec67 : Mem → Int32 → Int32 → Int32 → Int32 → Int32 → Int32 → RS) : Nat → Mem → Int32 → Int32 → Int32 → Int32 → Int32 → Int32 → Int32 → RS
  | 0 => fun _ _ _ _ _ _ _ _ => none
  | n + 1 => fun M x2 x3 x4 x5 x6 x7 x8 => if x8 < 8 then chk (inb x8 8) (wr (si M 102 (ix x8) 0) (fun M24 => (fX12_founders_b86 rec67 n) M24 x2 x3 x4 x5 x6 x7 (x8 + 1))) else bV (fX12_drawLots M) (fun M17 => bV (fX12_goOn M17 5) (fun M19 => bI (fX12_bitsOf M19 (gi M19 87 32)) (fun M21 v22 => if (gi M21 87 32) = 0 then fX12_founders_b142 rec67 M21 x2 x3 (x4 + v22) x5 x7 1 x6 else fX12_founders_b142 rec67 M21 x2 x3 (x4 + v22) x5 x7 0 x6)))
theorem SX12_founders_b86 (rec67 : Mem → Int32 → Int32 → Int32 → Int32 → Int32 → Int32 → RS) (hrec67 : ∀ (M : Mem) (x2 : Int32) (x3 : Int32) (x4 : Int32) (x5 : Int32) (x6 : Int32) (x7 : Int32), GO miX12_founders (6) 0 0 0 0 67 [(0, .ref 87), (2, .int x2), (3, .int x3), (4, .int x4), (5, .int x5), (6, .int x6), (7, .int x7)] [] M (rec67 M x2 x3 x4 x5 x6 x7)) (n : Nat) : ∀ (M : Mem) (x2 : Int32) (x3 : Int32) (x4 : Int32) (x5 : Int32) (x6 : Int32) (x7 : Int32) (x8 : Int32), GO miX12_founders (6) 0 0 0 0 86 [(0, .ref 87), (2, .int x2), (3, .int x3), (4, .int x4), (5, .int x5), (6, .int x6), (7, .int x7), (8, .int x8)] [] M (fX12_founders_b86 rec67 n M x2 x3 x4 x5 x6 x7 x8) := by
  induction n with
  | zero => intro M x2 x3 x4 x5 x6 x7 x8 ; exact GO.none
  | succ n hrec86 =>
    intro M x2 x3 x4 x5 x6 x7 x8 
    show GO miX12_founders (6) 0 0 0 0 86 [(0, .ref 87), (2, .int x2), (3, .int x3), (4, .int x4), (5, .int x5), (6, .int x6), (7, .int x7), (8, .int x8)] [] M (if x8 < 8 then chk (inb x8 8) (wr (si M 102 (ix x8) 0) (fun M24 => (fX12_founders_b86 rec67 n) M24 x2 x3 x4 x5 x6 x7 (x8 + 1))) else bV (fX12_drawLots M) (fun M17 => bV (fX12_goOn M17 5) (fun M19 => bI (fX12_bitsOf M19 (gi M19 87 32)) (fun M21 v22 => if (gi M21 87 32) = 0 then fX12_founders_b142 rec67 M21 x2 x3 (x4 + v22) x5 x7 1 x6 else fX12_founders_b142 rec67 M21 x2 x3 (x4 + v22) x5 x7 0 x6))))
    refine g_iload 7 rfl dX12_founders_86 ?_
    refine g_bipush (v := 8) (by decide) dX12_founders_88 ?_
    refine g_icmp_ge (tgt := 107) rfl dX12_founders_90 (fun c => ?_) (fun c => ?_)
    · refine g_aload_n 0 rfl rfl dX12_founders_107 ?_
      refine g_callVV (y := miX12_drawLots) (As := []) (rest := []) clX12 kd_87 rfl moX12_drawLots rfl mlX12_401 (by first | decide | omega) (by decide) (by simp [Value.category]) rfl dX12_founders_108 (SX12_drawLots  M) (fun M17 => ?_)
      refine g_aload_n 0 rfl rfl dX12_founders_111 ?_
      refine g_iconst (v := 5) (by decide) dX12_founders_112 ?_
      refine g_callVV (y := miX12_goOn) (As := [.int 5]) (rest := []) clX12 kd_87 rfl moX12_goOn rfl mlX12_417 (by first | decide | omega) (by decide) (by simp [Value.category]) rfl dX12_founders_113 (SX12_goOn  M17 5) (fun M19 => ?_)
      refine g_iload 3 rfl dX12_founders_116 ?_
      refine g_aload_n 0 rfl rfl dX12_founders_118 ?_
      refine g_getI (k := 32) clX12 kd_87 (by decide) rfl flX12_305 dX12_founders_119 ?_
      refine g_callSI (y := miX12_bitsOf) (As := [.int (gi M19 87 32)]) (rest := [.int x4]) moX12_bitsOf rfl mlX12_431 (by first | decide | omega) (by decide) (by simp [Value.category]) rfl dX12_founders_122 (SX12_bitsOf  M19 (gi M19 87 32)) (fun M21 v22 => ?_)
      refine g_iadd dX12_founders_125 ?_
      refine g_istore (L' := [(4, .int (x4 + v22)), (0, .ref 87), (2, .int x2), (3, .int x3), (5, .int x5), (6, .int x6), (7, .int x7), (8, .int x8)]) (by decide) rfl dX12_founders_126 ?_
      refine g_iload 5 rfl dX12_founders_128 ?_
      refine g_aload_n 1 rfl rfl dX12_founders_130 ?_
      refine g_getI (k := 32) clX12 kd_87 (by decide) rfl flX12_305 dX12_founders_131 ?_
      refine g_if_ne (tgt := 141) rfl dX12_founders_134 (fun c => ?_) (fun c => ?_)
      · refine g_iconst (v := 0) (by decide) dX12_founders_141 ?_
        exact GO.pick [1, 2, 3, 0, 4, 6] rfl <| SX12_founders_b142  rec67 hrec67 M21 x2 x3 (x4 + v22) x5 x7 0 x6
      · refine g_iconst (v := 1) (by decide) dX12_founders_137 ?_
        refine g_goto (tgt := 142) rfl dX12_founders_138 ?_
        exact GO.pick [1, 2, 3, 0, 4, 6] rfl <| SX12_founders_b142  rec67 hrec67 M21 x2 x3 (x4 + v22) x5 x7 1 x6
    · refine g_aload_n 0 rfl rfl dX12_founders_93 ?_
      refine g_getR (k := 27) (b := 102) clX12 kd_87 (by decide) rfl rfl flX12_73 dX12_founders_94 ?_
      refine g_iload 7 rfl dX12_founders_97 ?_
      refine g_iconst (v := 0) (by decide) dX12_founders_99 ?_
      refine g_ast kd_102 dX12_founders_100 (fun hi23 => ?_)
      refine GO.wr (fun M24 => ?_)
      refine g_iinc (v := x8 + 1) (L' := [(8, .int (x8 + 1)), (0, .ref 87), (2, .int x2), (3, .int x3), (4, .int x4), (5, .int x5), (6, .int x6), (7, .int x7)]) 7 rfl rfl (by decide) rfl dX12_founders_101 ?_
      refine g_goto (tgt := 86) rfl dX12_founders_104 ?_
      exact GO.pick [1, 2, 3, 4, 5, 6, 7, 0] rfl <| hrec86 M24 x2 x3 x4 x5 x6 x7 (x8 + 1)
def fX12_founders_b67 : Nat → Mem → Int32 → Int32 → Int32 → Int32 → Int32 → Int32 → RS
  | 0 => fun _ _ _ _ _ _ _ => none
  | n + 1 => fun M x2 x3 x4 x5 x6 x7 => if x7 < x2 then wr (si M 87 31 0) (fun M15 => wr (si M15 87 32 0) (fun M16 => fX12_founders_b86 (fX12_founders_b67 n) FU M16 x2 x3 x4 x5 x6 x7 0)) else bV (fX12_unpack 111 M 0) (fun M13 => if x3 = 0 then some (M13, .inr (some (.int x4))) else if x3 = 1 then some (M13, .inr (some (.int x5))) else some (M13, .inr (some (.int x6))))
theorem SX12_founders_b67 (n : Nat) : ∀ (M : Mem) (x2 : Int32) (x3 : Int32) (x4 : Int32) (x5 : Int32) (x6 : Int32) (x7 : Int32), GO miX12_founders (6) 0 0 0 0 67 [(0, .ref 87), (2, .int x2), (3, .int x3), (4, .int x4), (5, .int x5), (6, .int x6), (7, .int x7)] [] M (fX12_founders_b67 n M x2 x3 x4 x5 x6 x7) := by
  induction n with
  | zero => intro M x2 x3 x4 x5 x6 x7 ; exact GO.none
  | succ n hrec67 =>
    intro M x2 x3 x4 x5 x6 x7 
    show GO miX12_founders (6) 0 0 0 0 67 [(0, .ref 87), (2, .int x2), (3, .int x3), (4, .int x4), (5, .int x5), (6, .int x6), (7, .int x7)] [] M (if x7 < x2 then wr (si M 87 31 0) (fun M15 => wr (si M15 87 32 0) (fun M16 => fX12_founders_b86 (fX12_founders_b67 n) FU M16 x2 x3 x4 x5 x6 x7 0)) else bV (fX12_unpack 111 M 0) (fun M13 => if x3 = 0 then some (M13, .inr (some (.int x4))) else if x3 = 1 then some (M13, .inr (some (.int x5))) else some (M13, .inr (some (.int x6)))))
    refine g_iload 6 rfl dX12_founders_67 ?_
    refine g_iload_n 1 rfl rfl dX12_founders_69 ?_
    refine g_icmp_ge (tgt := 185) rfl dX12_founders_70 (fun c => ?_) (fun c => ?_)
    · refine g_aload_n 0 rfl rfl dX12_founders_185 ?_
      refine g_aload_n 0 rfl rfl dX12_founders_186 ?_
      refine g_getR (k := 47) (b := 111) clX12 kd_87 (by decide) rfl rfl flX12_104 dX12_founders_187 ?_
      refine g_iconst (v := 0) (by decide) dX12_founders_190 ?_
      refine g_callVV (y := miX12_unpack) (As := [.ref 111, .int 0]) (rest := []) clX12 kd_87 rfl moX12_unpack rfl mlX12_420 (by first | decide | omega) (by decide) (by simp [Value.category]) rfl dX12_founders_191 (SX12_unpack 111 (by decide) M 0) (fun M13 => ?_)
      refine g_iload_n 2 rfl rfl dX12_founders_194 ?_
      refine g_if_ne (tgt := 203) rfl dX12_founders_195 (fun c => ?_) (fun c => ?_)
      · refine g_iload_n 2 rfl rfl dX12_founders_203 ?_
        refine g_iconst (v := 1) (by decide) dX12_founders_204 ?_
        refine g_icmp_ne (tgt := 213) rfl dX12_founders_205 (fun c => ?_) (fun c => ?_)
        · refine g_iload 5 rfl dX12_founders_213 ?_
          exact g_ireturn rfl (by decide) (by decide) dX12_founders_215 rfl rfl
        · refine g_iload 4 rfl dX12_founders_208 ?_
          refine g_goto (tgt := 215) rfl dX12_founders_210 ?_
          exact g_ireturn rfl (by decide) (by decide) dX12_founders_215 rfl rfl
      · refine g_iload 3 rfl dX12_founders_198 ?_
        refine g_goto (tgt := 215) rfl dX12_founders_200 ?_
        exact g_ireturn rfl (by decide) (by decide) dX12_founders_215 rfl rfl
    · refine g_aload_n 0 rfl rfl dX12_founders_73 ?_
      refine g_iconst (v := 0) (by decide) dX12_founders_74 ?_
      refine g_putI (k := 31) clX12 kd_87 (by decide) rfl (by decide) rfl flX12_303 dX12_founders_75 ?_
      refine GO.wr (fun M15 => ?_)
      refine g_aload_n 0 rfl rfl dX12_founders_78 ?_
      refine g_iconst (v := 0) (by decide) dX12_founders_79 ?_
      refine g_putI (k := 32) clX12 kd_87 (by decide) rfl (by decide) rfl flX12_305 dX12_founders_80 ?_
      refine GO.wr (fun M16 => ?_)
      refine g_iconst (v := 0) (by decide) dX12_founders_83 ?_
      refine g_istore (L' := [(8, .int 0), (0, .ref 87), (2, .int x2), (3, .int x3), (4, .int x4), (5, .int x5), (6, .int x6), (7, .int x7)]) (by decide) rfl dX12_founders_84 ?_
      exact GO.pick [1, 2, 3, 4, 5, 6, 7, 0] rfl <| SX12_founders_b86  (fX12_founders_b67 n) hrec67 FU M16 x2 x3 x4 x5 x6 x7 0
def fX12_founders (M : Mem) (x1 : Int32) (x2 : Int32) (x3 : Int32) : RS := wr (si M 87 3 0) (fun M1 => bI (fX12_isIn M1 (Int32.toInt64 x3) 0 2) (fun M2 v3 => if v3 = 0 then bI (fX12_fail M2 1) (fun M11 v12 => some (M11, .inr (some (.int v12)))) else bI (fX12_isIn M2 (Int32.toInt64 x2) 0 30) (fun M4 v5 => if v5 = 0 then bI (fX12_fail M4 2) (fun M9 v10 => some (M9, .inr (some (.int v10)))) else bV (fX12_pack 111 M4 0) (fun M6 => wr (si M6 87 43 x1) (fun M8 => fX12_founders_b67  FU M8 x2 x3 0 0 0 0)))))
theorem SX12_founders (M : Mem) (x1 : Int32) (x2 : Int32) (x3 : Int32) : CTO (6) miX12_founders 0 0 [.ref 87, .int x1, .int x2, .int x3] M (fX12_founders  M x1 x2 x3) := by
  refine CTO.of (by decide) (by simp [lg_sl, Value.category]) ?_
  show GO miX12_founders (6) 0 0 0 0 0 [(0, .ref 87), (1, .int x1), (2, .int x2), (3, .int x3)] [] M (wr (si M 87 3 0) (fun M1 => bI (fX12_isIn M1 (Int32.toInt64 x3) 0 2) (fun M2 v3 => if v3 = 0 then bI (fX12_fail M2 1) (fun M11 v12 => some (M11, .inr (some (.int v12)))) else bI (fX12_isIn M2 (Int32.toInt64 x2) 0 30) (fun M4 v5 => if v5 = 0 then bI (fX12_fail M4 2) (fun M9 v10 => some (M9, .inr (some (.int v10)))) else bV (fX12_pack 111 M4 0) (fun M6 => wr (si M6 87 43 x1) (fun M8 => fX12_founders_b67  FU M8 x2 x3 0 0 0 0))))))
  refine g_aload_n 0 rfl rfl dX12_founders_0 ?_
  refine g_iconst (v := 0) (by decide) dX12_founders_1 ?_
  refine g_putI (k := 3) clX12 kd_87 (by decide) rfl (by decide) rfl flX12_140 dX12_founders_2 ?_
  refine GO.wr (fun M1 => ?_)
  refine g_iload_n 3 rfl rfl dX12_founders_5 ?_
  refine g_i2l dX12_founders_6 ?_
  refine g_lconst (v := 0) (by decide) dX12_founders_7 ?_
  refine g_ldc2 (v := 2) coX12_482 dX12_founders_8 ?_
  refine g_callSI (y := miX12_isIn) (As := [.long (Int32.toInt64 x3), .long 0, .long 2]) (rest := []) moX12_isIn rfl mlX12_143 (by first | decide | omega) (by decide) (by simp [Value.category]) rfl dX12_founders_11 (SX12_isIn  M1 (Int32.toInt64 x3) 0 2) (fun M2 v3 => ?_)
  refine g_if_ne (tgt := 23) rfl dX12_founders_14 (fun c => ?_) (fun c => ?_)
  · refine g_iload_n 2 rfl rfl dX12_founders_23 ?_
    refine g_i2l dX12_founders_24 ?_
    refine g_lconst (v := 0) (by decide) dX12_founders_25 ?_
    refine g_ldc2 (v := 30) coX12_415 dX12_founders_26 ?_
    refine g_callSI (y := miX12_isIn) (As := [.long (Int32.toInt64 x2), .long 0, .long 30]) (rest := []) moX12_isIn rfl mlX12_143 (by first | decide | omega) (by decide) (by simp [Value.category]) rfl dX12_founders_29 (SX12_isIn  M2 (Int32.toInt64 x2) 0 30) (fun M4 v5 => ?_)
    refine g_if_ne (tgt := 41) rfl dX12_founders_32 (fun c => ?_) (fun c => ?_)
    · refine g_aload_n 0 rfl rfl dX12_founders_41 ?_
      refine g_aload_n 0 rfl rfl dX12_founders_42 ?_
      refine g_getR (k := 47) (b := 111) clX12 kd_87 (by decide) rfl rfl flX12_104 dX12_founders_43 ?_
      refine g_iconst (v := 0) (by decide) dX12_founders_46 ?_
      refine g_callVV (y := miX12_pack) (As := [.ref 111, .int 0]) (rest := []) clX12 kd_87 rfl moX12_pack rfl mlX12_387 (by first | decide | omega) (by decide) (by simp [Value.category]) rfl dX12_founders_47 (SX12_pack 111 (by decide) M4 0) (fun M6 => ?_)
      refine g_aload_n 0 rfl rfl dX12_founders_50 ?_
      refine g_iload_n 1 rfl rfl dX12_founders_51 ?_
      refine g_putI (k := 43) clX12 kd_87 (by decide) rfl (by decide) rfl flX12_391 dX12_founders_52 ?_
      refine GO.wr (fun M8 => ?_)
      refine g_iconst (v := 0) (by decide) dX12_founders_55 ?_
      refine g_istore (L' := [(4, .int 0), (0, .ref 87), (1, .int x1), (2, .int x2), (3, .int x3)]) (by decide) rfl dX12_founders_56 ?_
      refine g_iconst (v := 0) (by decide) dX12_founders_58 ?_
      refine g_istore (L' := [(5, .int 0), (4, .int 0), (0, .ref 87), (1, .int x1), (2, .int x2), (3, .int x3)]) (by decide) rfl dX12_founders_59 ?_
      refine g_iconst (v := 0) (by decide) dX12_founders_61 ?_
      refine g_istore (L' := [(6, .int 0), (5, .int 0), (4, .int 0), (0, .ref 87), (1, .int x1), (2, .int x2), (3, .int x3)]) (by decide) rfl dX12_founders_62 ?_
      refine g_iconst (v := 0) (by decide) dX12_founders_64 ?_
      refine g_istore (L' := [(7, .int 0), (6, .int 0), (5, .int 0), (4, .int 0), (0, .ref 87), (1, .int x1), (2, .int x2), (3, .int x3)]) (by decide) rfl dX12_founders_65 ?_
      exact GO.pick [4, 6, 7, 3, 2, 1, 0] rfl <| SX12_founders_b67  FU M8 x2 x3 0 0 0 0
    · refine g_aload_n 0 rfl rfl dX12_founders_35 ?_
      refine g_iconst (v := 2) (by decide) dX12_founders_36 ?_
      refine g_callVI (y := miX12_fail) (As := [.int 2]) (rest := []) clX12 kd_87 rfl moX12_fail rfl mlX12_290 (by first | decide | omega) (by decide) (by simp [Value.category]) rfl dX12_founders_37 (SX12_fail  M4 2) (fun M9 v10 => ?_)
      exact g_ireturn rfl (by decide) (by decide) dX12_founders_40 rfl rfl
  · refine g_aload_n 0 rfl rfl dX12_founders_17 ?_
    refine g_iconst (v := 1) (by decide) dX12_founders_18 ?_
    refine g_callVI (y := miX12_fail) (As := [.int 1]) (rest := []) clX12 kd_87 rfl moX12_fail rfl mlX12_290 (by first | decide | omega) (by decide) (by simp [Value.category]) rfl dX12_founders_19 (SX12_fail  M2 1) (fun M11 v12 => ?_)
    exact g_ireturn rfl (by decide) (by decide) dX12_founders_22 rfl rfl
def fX12_copyTo_b2 (a0 : Nat) (a1 : Nat) : Nat → Mem → Int32 → RS
  | 0 => fun _ _ => none
  | n + 1 => fun M x2 => if x2 < (Int32.ofNat ((kd a0).2)) then chk (inb x2 ((kd a1).2)) (chk (inb x2 ((kd a0).2)) (wr (si M a0 (ix x2) (gi M a1 (ix x2))) (fun M3 => (fX12_copyTo_b2 a0 a1 n) M3 (x2 + 1)))) else some (M, .inr none)
theorem SX12_copyTo_b2 (a0 : Nat) (a1 : Nat) (h0 : a0 ∈ [100, 105, 112, 113, 114, 116, 117, 118, 119, 120]) (h1 : a1 ∈ [100, 105, 112, 113, 114, 116, 117, 118, 119, 120]) (n : Nat) : ∀ (M : Mem) (x2 : Int32), GO miX12_copyTo (0) 0 0 0 0 2 [(0, .ref a0), (1, .ref a1), (2, .int x2)] [] M (fX12_copyTo_b2 a0 a1 n M x2) := by
  induction n with
  | zero => intro M x2 ; exact GO.none
  | succ n hrec2 =>
    intro M x2 
    show GO miX12_copyTo (0) 0 0 0 0 2 [(0, .ref a0), (1, .ref a1), (2, .int x2)] [] M (if x2 < (Int32.ofNat ((kd a0).2)) then chk (inb x2 ((kd a1).2)) (chk (inb x2 ((kd a0).2)) (wr (si M a0 (ix x2) (gi M a1 (ix x2))) (fun M3 => (fX12_copyTo_b2 a0 a1 n) M3 (x2 + 1)))) else some (M, .inr none))
    refine g_iload_n 2 rfl rfl dX12_copyTo_2 ?_
    refine g_aload_n 0 rfl rfl dX12_copyTo_3 ?_
    refine g_alen (v := Int32.ofNat ((kd a0).2)) (kv_d100_105_112_113_114_116_117_118_119_120_0 _ h0) (by decide) rfl dX12_copyTo_4 ?_
    refine g_icmp_ge (tgt := 20) rfl dX12_copyTo_5 (fun c => ?_) (fun c => ?_)
    · exact g_vreturn rfl (by decide) (by decide) dX12_copyTo_20
    · refine g_aload_n 0 rfl rfl dX12_copyTo_8 ?_
      refine g_iload_n 2 rfl rfl dX12_copyTo_9 ?_
      refine g_aload_n 1 rfl rfl dX12_copyTo_10 ?_
      refine g_iload_n 2 rfl rfl dX12_copyTo_11 ?_
      refine g_ald (kv_d100_105_112_113_114_116_117_118_119_120_0 _ h1) dX12_copyTo_12 (fun hi1 => ?_)
      refine g_ast (kv_d100_105_112_113_114_116_117_118_119_120_0 _ h0) dX12_copyTo_13 (fun hi2 => ?_)
      refine GO.wr (fun M3 => ?_)
      refine g_iinc (v := x2 + 1) (L' := [(2, .int (x2 + 1)), (0, .ref a0), (1, .ref a1)]) 2 rfl rfl (by decide) rfl dX12_copyTo_14 ?_
      refine g_goto (tgt := 2) rfl dX12_copyTo_17 ?_
      exact GO.pick [1, 2, 0] rfl <| hrec2 M3 (x2 + 1)
def fX12_copyTo (a0 : Nat) (a1 : Nat) (M : Mem)  : RS := fX12_copyTo_b2 a0 a1 FU M 0
theorem SX12_copyTo (a0 : Nat) (a1 : Nat) (h0 : a0 ∈ [100, 105, 112, 113, 114, 116, 117, 118, 119, 120]) (h1 : a1 ∈ [100, 105, 112, 113, 114, 116, 117, 118, 119, 120]) (M : Mem)  : CTO (0) miX12_copyTo 0 0 [.ref a0, .ref a1] M (fX12_copyTo a0 a1 M ) := by
  refine CTO.of (by decide) (by simp [lg_sl, Value.category]) ?_
  show GO miX12_copyTo (0) 0 0 0 0 0 [(0, .ref a0), (1, .ref a1)] [] M (fX12_copyTo_b2 a0 a1 FU M 0)
  refine g_iconst (v := 0) (by decide) dX12_copyTo_0 ?_
  refine g_istore_n (L' := [(2, .int 0), (0, .ref a0), (1, .ref a1)]) (by decide) rfl rfl dX12_copyTo_1 ?_
  exact GO.pick [1, 2, 0] rfl <| SX12_copyTo_b2 a0 a1 h0 h1 FU M 0
def fX12_image (M : Mem)  : RS := wr (si M 87 3 0) (fun M1 => wr (si M1 87 51 1) (fun M2 => wr (si M2 87 52 (gi M2 87 38)) (fun M3 => wr (si M3 87 53 (gi M3 87 39)) (fun M4 => bV (fX12_pack 115 M4 0) (fun M5 => bV (fX12_copyTo 116 105 M5) (fun M7 => bV (fX12_copyTo 117 112 M7) (fun M9 => bV (fX12_copyTo 118 113 M9) (fun M11 => bV (fX12_copyTo 119 114 M11) (fun M13 => bV (fX12_copyTo 120 100 M13) (fun M15 => some (M15, .inr none)))))))))))
theorem SX12_image (M : Mem)  : CTO (1) miX12_image 0 0 [.ref 87] M (fX12_image  M ) := by
  refine CTO.of (by decide) (by simp [lg_sl, Value.category]) ?_
  show GO miX12_image (1) 0 0 0 0 0 [(0, .ref 87)] [] M (wr (si M 87 3 0) (fun M1 => wr (si M1 87 51 1) (fun M2 => wr (si M2 87 52 (gi M2 87 38)) (fun M3 => wr (si M3 87 53 (gi M3 87 39)) (fun M4 => bV (fX12_pack 115 M4 0) (fun M5 => bV (fX12_copyTo 116 105 M5) (fun M7 => bV (fX12_copyTo 117 112 M7) (fun M9 => bV (fX12_copyTo 118 113 M9) (fun M11 => bV (fX12_copyTo 119 114 M11) (fun M13 => bV (fX12_copyTo 120 100 M13) (fun M15 => some (M15, .inr none))))))))))))
  refine g_aload_n 0 rfl rfl dX12_image_0 ?_
  refine g_iconst (v := 0) (by decide) dX12_image_1 ?_
  refine g_putI (k := 3) clX12 kd_87 (by decide) rfl (by decide) rfl flX12_140 dX12_image_2 ?_
  refine GO.wr (fun M1 => ?_)
  refine g_aload_n 0 rfl rfl dX12_image_5 ?_
  refine g_iconst (v := 1) (by decide) dX12_image_6 ?_
  refine g_putZ (k := 51) clX12 kd_87 (by decide) rfl (by decide) rfl (by decide) flX12_326 dX12_image_7 ?_
  refine GO.wr (fun M2 => ?_)
  refine g_aload_n 0 rfl rfl dX12_image_10 ?_
  refine g_aload_n 0 rfl rfl dX12_image_11 ?_
  refine g_getI (k := 38) clX12 kd_87 (by decide) rfl flX12_320 dX12_image_12 ?_
  refine g_putI (k := 52) clX12 kd_87 (by decide) rfl (by decide) rfl flX12_484 dX12_image_15 ?_
  refine GO.wr (fun M3 => ?_)
  refine g_aload_n 0 rfl rfl dX12_image_18 ?_
  refine g_aload_n 0 rfl rfl dX12_image_19 ?_
  refine g_getI (k := 39) clX12 kd_87 (by decide) rfl flX12_323 dX12_image_20 ?_
  refine g_putI (k := 53) clX12 kd_87 (by decide) rfl (by decide) rfl flX12_487 dX12_image_23 ?_
  refine GO.wr (fun M4 => ?_)
  refine g_aload_n 0 rfl rfl dX12_image_26 ?_
  refine g_aload_n 0 rfl rfl dX12_image_27 ?_
  refine g_getR (k := 54) (b := 115) clX12 kd_87 (by decide) rfl rfl flX12_116 dX12_image_28 ?_
  refine g_iconst (v := 0) (by decide) dX12_image_31 ?_
  refine g_callVV (y := miX12_pack) (As := [.ref 115, .int 0]) (rest := []) clX12 kd_87 rfl moX12_pack rfl mlX12_387 (by first | decide | omega) (by decide) (by simp [Value.category]) rfl dX12_image_32 (SX12_pack 115 (by decide) M4 0) (fun M5 => ?_)
  refine g_aload_n 0 rfl rfl dX12_image_35 ?_
  refine g_getR (k := 55) (b := 116) clX12 kd_87 (by decide) rfl rfl flX12_119 dX12_image_36 ?_
  refine g_aload_n 0 rfl rfl dX12_image_39 ?_
  refine g_getR (k := 30) (b := 105) clX12 kd_87 (by decide) rfl rfl flX12_82 dX12_image_40 ?_
  refine g_callSV (y := miX12_copyTo) (As := [.ref 116, .ref 105]) (rest := []) moX12_copyTo rfl mlX12_490 (by first | decide | omega) (by decide) (by simp [Value.category]) rfl dX12_image_43 (SX12_copyTo 116 105 (by decide) (by decide) M5) (fun M7 => ?_)
  refine g_aload_n 0 rfl rfl dX12_image_46 ?_
  refine g_getR (k := 56) (b := 117) clX12 kd_87 (by decide) rfl rfl flX12_122 dX12_image_47 ?_
  refine g_aload_n 0 rfl rfl dX12_image_50 ?_
  refine g_getR (k := 48) (b := 112) clX12 kd_87 (by decide) rfl rfl flX12_107 dX12_image_51 ?_
  refine g_callSV (y := miX12_copyTo) (As := [.ref 117, .ref 112]) (rest := []) moX12_copyTo rfl mlX12_490 (by first | decide | omega) (by decide) (by simp [Value.category]) rfl dX12_image_54 (SX12_copyTo 117 112 (by decide) (by decide) M7) (fun M9 => ?_)
  refine g_aload_n 0 rfl rfl dX12_image_57 ?_
  refine g_getR (k := 57) (b := 118) clX12 kd_87 (by decide) rfl rfl flX12_125 dX12_image_58 ?_
  refine g_aload_n 0 rfl rfl dX12_image_61 ?_
  refine g_getR (k := 49) (b := 113) clX12 kd_87 (by decide) rfl rfl flX12_110 dX12_image_62 ?_
  refine g_callSV (y := miX12_copyTo) (As := [.ref 118, .ref 113]) (rest := []) moX12_copyTo rfl mlX12_490 (by first | decide | omega) (by decide) (by simp [Value.category]) rfl dX12_image_65 (SX12_copyTo 118 113 (by decide) (by decide) M9) (fun M11 => ?_)
  refine g_aload_n 0 rfl rfl dX12_image_68 ?_
  refine g_getR (k := 58) (b := 119) clX12 kd_87 (by decide) rfl rfl flX12_128 dX12_image_69 ?_
  refine g_aload_n 0 rfl rfl dX12_image_72 ?_
  refine g_getR (k := 50) (b := 114) clX12 kd_87 (by decide) rfl rfl flX12_113 dX12_image_73 ?_
  refine g_callSV (y := miX12_copyTo) (As := [.ref 119, .ref 114]) (rest := []) moX12_copyTo rfl mlX12_490 (by first | decide | omega) (by decide) (by simp [Value.category]) rfl dX12_image_76 (SX12_copyTo 119 114 (by decide) (by decide) M11) (fun M13 => ?_)
  refine g_aload_n 0 rfl rfl dX12_image_79 ?_
  refine g_getR (k := 59) (b := 120) clX12 kd_87 (by decide) rfl rfl flX12_131 dX12_image_80 ?_
  refine g_aload_n 0 rfl rfl dX12_image_83 ?_
  refine g_getR (k := 14) (b := 100) clX12 kd_87 (by decide) rfl rfl flX12_63 dX12_image_84 ?_
  refine g_callSV (y := miX12_copyTo) (As := [.ref 120, .ref 100]) (rest := []) moX12_copyTo rfl mlX12_490 (by first | decide | omega) (by decide) (by simp [Value.category]) rfl dX12_image_87 (SX12_copyTo 120 100 (by decide) (by decide) M13) (fun M15 => ?_)
  exact g_vreturn rfl (by decide) (by decide) dX12_image_90
def fX12_restore (M : Mem)  : RS := wr (si M 87 3 0) (fun M1 => if (gi M1 87 51) = 0 then some (M1, .inr (some (.int 0))) else wr (si M1 87 38 (gi M1 87 52)) (fun M2 => wr (si M2 87 39 (gi M2 87 53)) (fun M3 => bV (fX12_unpack 115 M3 0) (fun M4 => bV (fX12_copyTo 105 116 M4) (fun M6 => bV (fX12_copyTo 112 117 M6) (fun M8 => bV (fX12_copyTo 113 118 M8) (fun M10 => bV (fX12_copyTo 114 119 M10) (fun M12 => bV (fX12_copyTo 100 120 M12) (fun M14 => some (M14, .inr (some (.int 1))))))))))))
theorem SX12_restore (M : Mem)  : CTO (1) miX12_restore 0 0 [.ref 87] M (fX12_restore  M ) := by
  refine CTO.of (by decide) (by simp [lg_sl, Value.category]) ?_
  show GO miX12_restore (1) 0 0 0 0 0 [(0, .ref 87)] [] M (wr (si M 87 3 0) (fun M1 => if (gi M1 87 51) = 0 then some (M1, .inr (some (.int 0))) else wr (si M1 87 38 (gi M1 87 52)) (fun M2 => wr (si M2 87 39 (gi M2 87 53)) (fun M3 => bV (fX12_unpack 115 M3 0) (fun M4 => bV (fX12_copyTo 105 116 M4) (fun M6 => bV (fX12_copyTo 112 117 M6) (fun M8 => bV (fX12_copyTo 113 118 M8) (fun M10 => bV (fX12_copyTo 114 119 M10) (fun M12 => bV (fX12_copyTo 100 120 M12) (fun M14 => some (M14, .inr (some (.int 1)))))))))))))
  refine g_aload_n 0 rfl rfl dX12_restore_0 ?_
  refine g_iconst (v := 0) (by decide) dX12_restore_1 ?_
  refine g_putI (k := 3) clX12 kd_87 (by decide) rfl (by decide) rfl flX12_140 dX12_restore_2 ?_
  refine GO.wr (fun M1 => ?_)
  refine g_aload_n 0 rfl rfl dX12_restore_5 ?_
  refine g_getI (k := 51) clX12 kd_87 (by decide) rfl flX12_326 dX12_restore_6 ?_
  refine g_if_ne (tgt := 14) rfl dX12_restore_9 (fun c => ?_) (fun c => ?_)
  · refine g_aload_n 0 rfl rfl dX12_restore_14 ?_
    refine g_aload_n 0 rfl rfl dX12_restore_15 ?_
    refine g_getI (k := 52) clX12 kd_87 (by decide) rfl flX12_484 dX12_restore_16 ?_
    refine g_putI (k := 38) clX12 kd_87 (by decide) rfl (by decide) rfl flX12_320 dX12_restore_19 ?_
    refine GO.wr (fun M2 => ?_)
    refine g_aload_n 0 rfl rfl dX12_restore_22 ?_
    refine g_aload_n 0 rfl rfl dX12_restore_23 ?_
    refine g_getI (k := 53) clX12 kd_87 (by decide) rfl flX12_487 dX12_restore_24 ?_
    refine g_putI (k := 39) clX12 kd_87 (by decide) rfl (by decide) rfl flX12_323 dX12_restore_27 ?_
    refine GO.wr (fun M3 => ?_)
    refine g_aload_n 0 rfl rfl dX12_restore_30 ?_
    refine g_aload_n 0 rfl rfl dX12_restore_31 ?_
    refine g_getR (k := 54) (b := 115) clX12 kd_87 (by decide) rfl rfl flX12_116 dX12_restore_32 ?_
    refine g_iconst (v := 0) (by decide) dX12_restore_35 ?_
    refine g_callVV (y := miX12_unpack) (As := [.ref 115, .int 0]) (rest := []) clX12 kd_87 rfl moX12_unpack rfl mlX12_420 (by first | decide | omega) (by decide) (by simp [Value.category]) rfl dX12_restore_36 (SX12_unpack 115 (by decide) M3 0) (fun M4 => ?_)
    refine g_aload_n 0 rfl rfl dX12_restore_39 ?_
    refine g_getR (k := 30) (b := 105) clX12 kd_87 (by decide) rfl rfl flX12_82 dX12_restore_40 ?_
    refine g_aload_n 0 rfl rfl dX12_restore_43 ?_
    refine g_getR (k := 55) (b := 116) clX12 kd_87 (by decide) rfl rfl flX12_119 dX12_restore_44 ?_
    refine g_callSV (y := miX12_copyTo) (As := [.ref 105, .ref 116]) (rest := []) moX12_copyTo rfl mlX12_490 (by first | decide | omega) (by decide) (by simp [Value.category]) rfl dX12_restore_47 (SX12_copyTo 105 116 (by decide) (by decide) M4) (fun M6 => ?_)
    refine g_aload_n 0 rfl rfl dX12_restore_50 ?_
    refine g_getR (k := 48) (b := 112) clX12 kd_87 (by decide) rfl rfl flX12_107 dX12_restore_51 ?_
    refine g_aload_n 0 rfl rfl dX12_restore_54 ?_
    refine g_getR (k := 56) (b := 117) clX12 kd_87 (by decide) rfl rfl flX12_122 dX12_restore_55 ?_
    refine g_callSV (y := miX12_copyTo) (As := [.ref 112, .ref 117]) (rest := []) moX12_copyTo rfl mlX12_490 (by first | decide | omega) (by decide) (by simp [Value.category]) rfl dX12_restore_58 (SX12_copyTo 112 117 (by decide) (by decide) M6) (fun M8 => ?_)
    refine g_aload_n 0 rfl rfl dX12_restore_61 ?_
    refine g_getR (k := 49) (b := 113) clX12 kd_87 (by decide) rfl rfl flX12_110 dX12_restore_62 ?_
    refine g_aload_n 0 rfl rfl dX12_restore_65 ?_
    refine g_getR (k := 57) (b := 118) clX12 kd_87 (by decide) rfl rfl flX12_125 dX12_restore_66 ?_
    refine g_callSV (y := miX12_copyTo) (As := [.ref 113, .ref 118]) (rest := []) moX12_copyTo rfl mlX12_490 (by first | decide | omega) (by decide) (by simp [Value.category]) rfl dX12_restore_69 (SX12_copyTo 113 118 (by decide) (by decide) M8) (fun M10 => ?_)
    refine g_aload_n 0 rfl rfl dX12_restore_72 ?_
    refine g_getR (k := 50) (b := 114) clX12 kd_87 (by decide) rfl rfl flX12_113 dX12_restore_73 ?_
    refine g_aload_n 0 rfl rfl dX12_restore_76 ?_
    refine g_getR (k := 58) (b := 119) clX12 kd_87 (by decide) rfl rfl flX12_128 dX12_restore_77 ?_
    refine g_callSV (y := miX12_copyTo) (As := [.ref 114, .ref 119]) (rest := []) moX12_copyTo rfl mlX12_490 (by first | decide | omega) (by decide) (by simp [Value.category]) rfl dX12_restore_80 (SX12_copyTo 114 119 (by decide) (by decide) M10) (fun M12 => ?_)
    refine g_aload_n 0 rfl rfl dX12_restore_83 ?_
    refine g_getR (k := 14) (b := 100) clX12 kd_87 (by decide) rfl rfl flX12_63 dX12_restore_84 ?_
    refine g_aload_n 0 rfl rfl dX12_restore_87 ?_
    refine g_getR (k := 59) (b := 120) clX12 kd_87 (by decide) rfl rfl flX12_131 dX12_restore_88 ?_
    refine g_callSV (y := miX12_copyTo) (As := [.ref 100, .ref 120]) (rest := []) moX12_copyTo rfl mlX12_490 (by first | decide | omega) (by decide) (by simp [Value.category]) rfl dX12_restore_91 (SX12_copyTo 100 120 (by decide) (by decide) M12) (fun M14 => ?_)
    refine g_iconst (v := 1) (by decide) dX12_restore_94 ?_
    exact g_zreturn rfl (by decide) (by decide) dX12_restore_95 (by decide)
  · refine g_iconst (v := 0) (by decide) dX12_restore_12 ?_
    exact g_zreturn rfl (by decide) (by decide) dX12_restore_13 (by decide)

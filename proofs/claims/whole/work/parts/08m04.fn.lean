def fX12_then (M : Mem) (x1 : Int32) (x2 : Int32) : RS := wr (si M 87 3 0) (fun M1 => bI (fX12_isHouse M1 x1) (fun M2 v3 => if v3 = 0 then bI (fX12_fail M2 1) (fun M15 v16 => some (M15, .inr (some (.int v16)))) else bI (fX12_isIn M2 (Int32.toInt64 x2) 0 50) (fun M4 v5 => if v5 = 0 then bI (fX12_fail M4 2) (fun M13 v14 => some (M13, .inr (some (.int v14)))) else bV (fX12_pack 111 M4 0) (fun M6 => bV (fX12_goOn M6 x2) (fun M8 => chk (inb x1 8) (bV (fX12_unpack 111 M8 0) (fun M11 => some (M11, .inr (some (.int (gi M8 102 (ix x1))))))))))))
theorem SX12_then (M : Mem) (x1 : Int32) (x2 : Int32) : CTO (6) miX12_then 0 0 [.ref 87, .int x1, .int x2] M (fX12_then  M x1 x2) := by
  refine CTO.of (by decide) (by simp [lg_sl, Value.category]) ?_
  show GO miX12_then (6) 0 0 0 0 0 [(0, .ref 87), (1, .int x1), (2, .int x2)] [] M (wr (si M 87 3 0) (fun M1 => bI (fX12_isHouse M1 x1) (fun M2 v3 => if v3 = 0 then bI (fX12_fail M2 1) (fun M15 v16 => some (M15, .inr (some (.int v16)))) else bI (fX12_isIn M2 (Int32.toInt64 x2) 0 50) (fun M4 v5 => if v5 = 0 then bI (fX12_fail M4 2) (fun M13 v14 => some (M13, .inr (some (.int v14)))) else bV (fX12_pack 111 M4 0) (fun M6 => bV (fX12_goOn M6 x2) (fun M8 => chk (inb x1 8) (bV (fX12_unpack 111 M8 0) (fun M11 => some (M11, .inr (some (.int (gi M8 102 (ix x1)))))))))))))
  refine g_aload_n 0 rfl rfl dX12_then_0 ?_
  refine g_iconst (v := 0) (by decide) dX12_then_1 ?_
  refine g_putI (k := 3) clX12 kd_87 (by decide) rfl (by decide) rfl flX12_140 dX12_then_2 ?_
  refine GO.wr (fun M1 => ?_)
  refine g_aload_n 0 rfl rfl dX12_then_5 ?_
  refine g_iload_n 1 rfl rfl dX12_then_6 ?_
  refine g_callVI (y := miX12_isHouse) (As := [.int x1]) (rest := []) clX12 kd_87 rfl moX12_isHouse rfl mlX12_371 (by first | decide | omega) (by decide) (by simp [Value.category]) rfl dX12_then_7 (SX12_isHouse  M1 x1) (fun M2 v3 => ?_)
  refine g_if_ne (tgt := 19) rfl dX12_then_10 (fun c => ?_) (fun c => ?_)
  · refine g_iload_n 2 rfl rfl dX12_then_19 ?_
    refine g_i2l dX12_then_20 ?_
    refine g_lconst (v := 0) (by decide) dX12_then_21 ?_
    refine g_ldc2 (v := 50) coX12_460 dX12_then_22 ?_
    refine g_callSI (y := miX12_isIn) (As := [.long (Int32.toInt64 x2), .long 0, .long 50]) (rest := []) moX12_isIn rfl mlX12_143 (by first | decide | omega) (by decide) (by simp [Value.category]) rfl dX12_then_25 (SX12_isIn  M2 (Int32.toInt64 x2) 0 50) (fun M4 v5 => ?_)
    refine g_if_ne (tgt := 37) rfl dX12_then_28 (fun c => ?_) (fun c => ?_)
    · refine g_aload_n 0 rfl rfl dX12_then_37 ?_
      refine g_aload_n 0 rfl rfl dX12_then_38 ?_
      refine g_getR (k := 47) (b := 111) clX12 kd_87 (by decide) rfl rfl flX12_104 dX12_then_39 ?_
      refine g_iconst (v := 0) (by decide) dX12_then_42 ?_
      refine g_callVV (y := miX12_pack) (As := [.ref 111, .int 0]) (rest := []) clX12 kd_87 rfl moX12_pack rfl mlX12_387 (by first | decide | omega) (by decide) (by simp [Value.category]) rfl dX12_then_43 (SX12_pack 111 (by decide) M4 0) (fun M6 => ?_)
      refine g_aload_n 0 rfl rfl dX12_then_46 ?_
      refine g_iload_n 2 rfl rfl dX12_then_47 ?_
      refine g_callVV (y := miX12_goOn) (As := [.int x2]) (rest := []) clX12 kd_87 rfl moX12_goOn rfl mlX12_417 (by first | decide | omega) (by decide) (by simp [Value.category]) rfl dX12_then_48 (SX12_goOn  M6 x2) (fun M8 => ?_)
      refine g_aload_n 0 rfl rfl dX12_then_51 ?_
      refine g_getR (k := 27) (b := 102) clX12 kd_87 (by decide) rfl rfl flX12_73 dX12_then_52 ?_
      refine g_iload_n 1 rfl rfl dX12_then_55 ?_
      refine g_ald kd_102 dX12_then_56 (fun hi10 => ?_)
      refine g_istore_n (L' := [(3, .int (gi M8 102 (ix x1))), (0, .ref 87), (1, .int x1), (2, .int x2)]) (by decide) rfl rfl dX12_then_57 ?_
      refine g_aload_n 1 rfl rfl dX12_then_58 ?_
      refine g_aload_n 1 rfl rfl dX12_then_59 ?_
      refine g_getR (k := 47) (b := 111) clX12 kd_87 (by decide) rfl rfl flX12_104 dX12_then_60 ?_
      refine g_iconst (v := 0) (by decide) dX12_then_63 ?_
      refine g_callVV (y := miX12_unpack) (As := [.ref 111, .int 0]) (rest := []) clX12 kd_87 rfl moX12_unpack rfl mlX12_420 (by first | decide | omega) (by decide) (by simp [Value.category]) rfl dX12_then_64 (SX12_unpack 111 (by decide) M8 0) (fun M11 => ?_)
      refine g_iload_n 0 rfl rfl dX12_then_67 ?_
      exact g_ireturn rfl (by decide) (by decide) dX12_then_68 rfl rfl
    · refine g_aload_n 0 rfl rfl dX12_then_31 ?_
      refine g_iconst (v := 2) (by decide) dX12_then_32 ?_
      refine g_callVI (y := miX12_fail) (As := [.int 2]) (rest := []) clX12 kd_87 rfl moX12_fail rfl mlX12_290 (by first | decide | omega) (by decide) (by simp [Value.category]) rfl dX12_then_33 (SX12_fail  M4 2) (fun M13 v14 => ?_)
      exact g_ireturn rfl (by decide) (by decide) dX12_then_36 rfl rfl
  · refine g_aload_n 0 rfl rfl dX12_then_13 ?_
    refine g_iconst (v := 1) (by decide) dX12_then_14 ?_
    refine g_callVI (y := miX12_fail) (As := [.int 1]) (rest := []) clX12 kd_87 rfl moX12_fail rfl mlX12_290 (by first | decide | omega) (by decide) (by simp [Value.category]) rfl dX12_then_15 (SX12_fail  M2 1) (fun M15 v16 => ?_)
    exact g_ireturn rfl (by decide) (by decide) dX12_then_18 rfl rfl
def fX12_starves_b56 (rec32 : Mem → Int32 → Int32 → Int32 → RS) (M : Mem) (x1 : Int32) (x2 : Int32) (x3 : Int32) : RS := bV (fX12_aYear M) (fun M12 => rec32 M12 x1 x2 (x3 + 1))
theorem SX12_starves_b56 (rec32 : Mem → Int32 → Int32 → Int32 → RS) (hrec32 : ∀ (M : Mem) (x1 : Int32) (x2 : Int32) (x3 : Int32), GO miX12_starves (5) 0 0 0 0 32 [(0, .ref 87), (1, .int x1), (2, .int x2), (3, .int x3)] [] M (rec32 M x1 x2 x3)) (M : Mem) (x1 : Int32) (x2 : Int32) (x3 : Int32) : GO miX12_starves (5) 0 0 0 0 56 [(0, .ref 87), (1, .int x1), (2, .int x2), (3, .int x3)] [] M (fX12_starves_b56 rec32 M x1 x2 x3) := by
  show GO miX12_starves (5) 0 0 0 0 56 [(0, .ref 87), (1, .int x1), (2, .int x2), (3, .int x3)] [] M (bV (fX12_aYear M) (fun M12 => rec32 M12 x1 x2 (x3 + 1)))
  refine g_aload_n 0 rfl rfl dX12_starves_56 ?_
  refine g_callVV (y := miX12_aYear) (As := []) (rest := []) clX12 kd_87 rfl moX12_aYear rfl mlX12_368 (by first | decide | omega) (by decide) (by simp [Value.category]) rfl dX12_starves_57 (SX12_aYear  M) (fun M12 => ?_)
  refine g_iinc (v := x3 + 1) (L' := [(3, .int (x3 + 1)), (0, .ref 87), (1, .int x1), (2, .int x2)]) 3 rfl rfl (by decide) rfl dX12_starves_60 ?_
  refine g_goto (tgt := 32) rfl dX12_starves_63 ?_
  exact GO.pick [1, 2, 3, 0] rfl <| hrec32 M12 x1 x2 (x3 + 1)
def fX12_starves_b66 (M : Mem) (x2 : Int32) : RS := bV (fX12_unpack 111 M 0) (fun M10 => some (M10, .inr (some (.int x2))))
theorem SX12_starves_b66 (M : Mem) (x2 : Int32) : GO miX12_starves (5) 0 0 0 0 66 [(0, .ref 87), (2, .int x2)] [] M (fX12_starves_b66 M x2) := by
  show GO miX12_starves (5) 0 0 0 0 66 [(0, .ref 87), (2, .int x2)] [] M (bV (fX12_unpack 111 M 0) (fun M10 => some (M10, .inr (some (.int x2)))))
  refine g_aload_n 0 rfl rfl dX12_starves_66 ?_
  refine g_aload_n 0 rfl rfl dX12_starves_67 ?_
  refine g_getR (k := 47) (b := 111) clX12 kd_87 (by decide) rfl rfl flX12_104 dX12_starves_68 ?_
  refine g_iconst (v := 0) (by decide) dX12_starves_71 ?_
  refine g_callVV (y := miX12_unpack) (As := [.ref 111, .int 0]) (rest := []) clX12 kd_87 rfl moX12_unpack rfl mlX12_420 (by first | decide | omega) (by decide) (by simp [Value.category]) rfl dX12_starves_72 (SX12_unpack 111 (by decide) M 0) (fun M10 => ?_)
  refine g_iload_n 1 rfl rfl dX12_starves_75 ?_
  exact g_ireturn rfl (by decide) (by decide) dX12_starves_76 rfl rfl
def fX12_starves_b32 : Nat → Mem → Int32 → Int32 → Int32 → RS
  | 0 => fun _ _ _ _ => none
  | n + 1 => fun M x1 x2 x3 => if 50 < x3 then fX12_starves_b66  M x2 else if x2 = (-1) then bI (fX12_isOf M (gi M 87 32) x1) (fun M8 v9 => if v9 = 0 then fX12_starves_b56 (fX12_starves_b32 n) M8 x1 x2 x3 else fX12_starves_b56 (fX12_starves_b32 n) M8 x1 x3 x3) else fX12_starves_b66  M x2
theorem SX12_starves_b32 (n : Nat) : ∀ (M : Mem) (x1 : Int32) (x2 : Int32) (x3 : Int32), GO miX12_starves (5) 0 0 0 0 32 [(0, .ref 87), (1, .int x1), (2, .int x2), (3, .int x3)] [] M (fX12_starves_b32 n M x1 x2 x3) := by
  induction n with
  | zero => intro M x1 x2 x3 ; exact GO.none
  | succ n hrec32 =>
    intro M x1 x2 x3 
    show GO miX12_starves (5) 0 0 0 0 32 [(0, .ref 87), (1, .int x1), (2, .int x2), (3, .int x3)] [] M (if 50 < x3 then fX12_starves_b66  M x2 else if x2 = (-1) then bI (fX12_isOf M (gi M 87 32) x1) (fun M8 v9 => if v9 = 0 then fX12_starves_b56 (fX12_starves_b32 n) M8 x1 x2 x3 else fX12_starves_b56 (fX12_starves_b32 n) M8 x1 x3 x3) else fX12_starves_b66  M x2)
    refine g_iload_n 3 rfl rfl dX12_starves_32 ?_
    refine g_bipush (v := 50) (by decide) dX12_starves_33 ?_
    refine g_icmp_gt (tgt := 66) rfl dX12_starves_35 (fun c => ?_) (fun c => ?_)
    · exact GO.pick [0, 2] rfl <| SX12_starves_b66  M x2
    · refine g_iload_n 2 rfl rfl dX12_starves_38 ?_
      refine g_iconst (v := (-1)) (by decide) dX12_starves_39 ?_
      refine g_icmp_ne (tgt := 66) rfl dX12_starves_40 (fun c => ?_) (fun c => ?_)
      · exact GO.pick [0, 2] rfl <| SX12_starves_b66  M x2
      · refine g_aload_n 0 rfl rfl dX12_starves_43 ?_
        refine g_getI (k := 32) clX12 kd_87 (by decide) rfl flX12_305 dX12_starves_44 ?_
        refine g_iload_n 1 rfl rfl dX12_starves_47 ?_
        refine g_callSI (y := miX12_isOf) (As := [.int (gi M 87 32), .int x1]) (rest := []) moX12_isOf rfl mlX12_333 (by first | decide | omega) (by decide) (by simp [Value.category]) rfl dX12_starves_48 (SX12_isOf  M (gi M 87 32) x1) (fun M8 v9 => ?_)
        refine g_if_eq (tgt := 56) rfl dX12_starves_51 (fun c => ?_) (fun c => ?_)
        · exact GO.pick [0, 1, 2, 3] rfl <| SX12_starves_b56  (fX12_starves_b32 n) hrec32 M8 x1 x2 x3
        · refine g_iload_n 3 rfl rfl dX12_starves_54 ?_
          refine g_istore_n (L' := [(2, .int x3), (0, .ref 87), (1, .int x1), (3, .int x3)]) (by decide) rfl rfl dX12_starves_55 ?_
          exact GO.pick [1, 2, 0, 3] rfl <| SX12_starves_b56  (fX12_starves_b32 n) hrec32 M8 x1 x3 x3
def fX12_starves (M : Mem) (x1 : Int32) : RS := wr (si M 87 3 0) (fun M1 => bI (fX12_isHouse M1 x1) (fun M2 v3 => if v3 = 0 then bI (fX12_fail M2 1) (fun M6 v7 => some (M6, .inr (some (.int v7)))) else bV (fX12_pack 111 M2 0) (fun M4 => fX12_starves_b32  FU M4 x1 (-1) 0)))
theorem SX12_starves (M : Mem) (x1 : Int32) : CTO (5) miX12_starves 0 0 [.ref 87, .int x1] M (fX12_starves  M x1) := by
  refine CTO.of (by decide) (by simp [lg_sl, Value.category]) ?_
  show GO miX12_starves (5) 0 0 0 0 0 [(0, .ref 87), (1, .int x1)] [] M (wr (si M 87 3 0) (fun M1 => bI (fX12_isHouse M1 x1) (fun M2 v3 => if v3 = 0 then bI (fX12_fail M2 1) (fun M6 v7 => some (M6, .inr (some (.int v7)))) else bV (fX12_pack 111 M2 0) (fun M4 => fX12_starves_b32  FU M4 x1 (-1) 0))))
  refine g_aload_n 0 rfl rfl dX12_starves_0 ?_
  refine g_iconst (v := 0) (by decide) dX12_starves_1 ?_
  refine g_putI (k := 3) clX12 kd_87 (by decide) rfl (by decide) rfl flX12_140 dX12_starves_2 ?_
  refine GO.wr (fun M1 => ?_)
  refine g_aload_n 0 rfl rfl dX12_starves_5 ?_
  refine g_iload_n 1 rfl rfl dX12_starves_6 ?_
  refine g_callVI (y := miX12_isHouse) (As := [.int x1]) (rest := []) clX12 kd_87 rfl moX12_isHouse rfl mlX12_371 (by first | decide | omega) (by decide) (by simp [Value.category]) rfl dX12_starves_7 (SX12_isHouse  M1 x1) (fun M2 v3 => ?_)
  refine g_if_ne (tgt := 19) rfl dX12_starves_10 (fun c => ?_) (fun c => ?_)
  · refine g_aload_n 0 rfl rfl dX12_starves_19 ?_
    refine g_aload_n 0 rfl rfl dX12_starves_20 ?_
    refine g_getR (k := 47) (b := 111) clX12 kd_87 (by decide) rfl rfl flX12_104 dX12_starves_21 ?_
    refine g_iconst (v := 0) (by decide) dX12_starves_24 ?_
    refine g_callVV (y := miX12_pack) (As := [.ref 111, .int 0]) (rest := []) clX12 kd_87 rfl moX12_pack rfl mlX12_387 (by first | decide | omega) (by decide) (by simp [Value.category]) rfl dX12_starves_25 (SX12_pack 111 (by decide) M2 0) (fun M4 => ?_)
    refine g_iconst (v := (-1)) (by decide) dX12_starves_28 ?_
    refine g_istore_n (L' := [(2, .int (-1)), (0, .ref 87), (1, .int x1)]) (by decide) rfl rfl dX12_starves_29 ?_
    refine g_iconst (v := 0) (by decide) dX12_starves_30 ?_
    refine g_istore_n (L' := [(3, .int 0), (2, .int (-1)), (0, .ref 87), (1, .int x1)]) (by decide) rfl rfl dX12_starves_31 ?_
    exact GO.pick [2, 3, 1, 0] rfl <| SX12_starves_b32  FU M4 x1 (-1) 0
  · refine g_aload_n 0 rfl rfl dX12_starves_13 ?_
    refine g_iconst (v := 1) (by decide) dX12_starves_14 ?_
    refine g_callVI (y := miX12_fail) (As := [.int 1]) (rest := []) clX12 kd_87 rfl moX12_fail rfl mlX12_290 (by first | decide | omega) (by decide) (by simp [Value.category]) rfl dX12_starves_15 (SX12_fail  M2 1) (fun M6 v7 => ?_)
    exact g_ireturn rfl (by decide) (by decide) dX12_starves_18 rfl rfl
def fX12_tithes (M : Mem) (x1 : Int32) : RS := wr (si M 87 3 0) (fun M1 => bI (fX12_isIn M1 (Int32.toInt64 x1) 0 50) (fun M2 v3 => if v3 = 0 then bI (fX12_fail M2 1) (fun M10 v11 => some (M10, .inr (some (.int v11)))) else bV (fX12_pack 111 M2 0) (fun M4 => bV (fX12_goOn M4 x1) (fun M6 => bV (fX12_unpack 111 M6 0) (fun M8 => some (M8, .inr (some (.int ((gi M6 87 33) - (gi M4 87 33))))))))))
theorem SX12_tithes (M : Mem) (x1 : Int32) : CTO (6) miX12_tithes 0 0 [.ref 87, .int x1] M (fX12_tithes  M x1) := by
  refine CTO.of (by decide) (by simp [lg_sl, Value.category]) ?_
  show GO miX12_tithes (6) 0 0 0 0 0 [(0, .ref 87), (1, .int x1)] [] M (wr (si M 87 3 0) (fun M1 => bI (fX12_isIn M1 (Int32.toInt64 x1) 0 50) (fun M2 v3 => if v3 = 0 then bI (fX12_fail M2 1) (fun M10 v11 => some (M10, .inr (some (.int v11)))) else bV (fX12_pack 111 M2 0) (fun M4 => bV (fX12_goOn M4 x1) (fun M6 => bV (fX12_unpack 111 M6 0) (fun M8 => some (M8, .inr (some (.int ((gi M6 87 33) - (gi M4 87 33)))))))))))
  refine g_aload_n 0 rfl rfl dX12_tithes_0 ?_
  refine g_iconst (v := 0) (by decide) dX12_tithes_1 ?_
  refine g_putI (k := 3) clX12 kd_87 (by decide) rfl (by decide) rfl flX12_140 dX12_tithes_2 ?_
  refine GO.wr (fun M1 => ?_)
  refine g_iload_n 1 rfl rfl dX12_tithes_5 ?_
  refine g_i2l dX12_tithes_6 ?_
  refine g_lconst (v := 0) (by decide) dX12_tithes_7 ?_
  refine g_ldc2 (v := 50) coX12_460 dX12_tithes_8 ?_
  refine g_callSI (y := miX12_isIn) (As := [.long (Int32.toInt64 x1), .long 0, .long 50]) (rest := []) moX12_isIn rfl mlX12_143 (by first | decide | omega) (by decide) (by simp [Value.category]) rfl dX12_tithes_11 (SX12_isIn  M1 (Int32.toInt64 x1) 0 50) (fun M2 v3 => ?_)
  refine g_if_ne (tgt := 23) rfl dX12_tithes_14 (fun c => ?_) (fun c => ?_)
  · refine g_aload_n 0 rfl rfl dX12_tithes_23 ?_
    refine g_aload_n 0 rfl rfl dX12_tithes_24 ?_
    refine g_getR (k := 47) (b := 111) clX12 kd_87 (by decide) rfl rfl flX12_104 dX12_tithes_25 ?_
    refine g_iconst (v := 0) (by decide) dX12_tithes_28 ?_
    refine g_callVV (y := miX12_pack) (As := [.ref 111, .int 0]) (rest := []) clX12 kd_87 rfl moX12_pack rfl mlX12_387 (by first | decide | omega) (by decide) (by simp [Value.category]) rfl dX12_tithes_29 (SX12_pack 111 (by decide) M2 0) (fun M4 => ?_)
    refine g_aload_n 0 rfl rfl dX12_tithes_32 ?_
    refine g_getI (k := 33) clX12 kd_87 (by decide) rfl flX12_308 dX12_tithes_33 ?_
    refine g_istore_n (L' := [(2, .int (gi M4 87 33)), (0, .ref 87), (1, .int x1)]) (by decide) rfl rfl dX12_tithes_36 ?_
    refine g_aload_n 1 rfl rfl dX12_tithes_37 ?_
    refine g_iload_n 2 rfl rfl dX12_tithes_38 ?_
    refine g_callVV (y := miX12_goOn) (As := [.int x1]) (rest := []) clX12 kd_87 rfl moX12_goOn rfl mlX12_417 (by first | decide | omega) (by decide) (by simp [Value.category]) rfl dX12_tithes_39 (SX12_goOn  M4 x1) (fun M6 => ?_)
    refine g_aload_n 1 rfl rfl dX12_tithes_42 ?_
    refine g_getI (k := 33) clX12 kd_87 (by decide) rfl flX12_308 dX12_tithes_43 ?_
    refine g_iload_n 0 rfl rfl dX12_tithes_46 ?_
    refine g_isub dX12_tithes_47 ?_
    refine g_istore_n (L' := [(3, .int ((gi M6 87 33) - (gi M4 87 33))), (2, .int (gi M4 87 33)), (0, .ref 87), (1, .int x1)]) (by decide) rfl rfl dX12_tithes_48 ?_
    refine g_aload_n 2 rfl rfl dX12_tithes_49 ?_
    refine g_aload_n 2 rfl rfl dX12_tithes_50 ?_
    refine g_getR (k := 47) (b := 111) clX12 kd_87 (by decide) rfl rfl flX12_104 dX12_tithes_51 ?_
    refine g_iconst (v := 0) (by decide) dX12_tithes_54 ?_
    refine g_callVV (y := miX12_unpack) (As := [.ref 111, .int 0]) (rest := []) clX12 kd_87 rfl moX12_unpack rfl mlX12_420 (by first | decide | omega) (by decide) (by simp [Value.category]) rfl dX12_tithes_55 (SX12_unpack 111 (by decide) M6 0) (fun M8 => ?_)
    refine g_iload_n 0 rfl rfl dX12_tithes_58 ?_
    exact g_ireturn rfl (by decide) (by decide) dX12_tithes_59 rfl rfl
  · refine g_aload_n 0 rfl rfl dX12_tithes_17 ?_
    refine g_iconst (v := 1) (by decide) dX12_tithes_18 ?_
    refine g_callVI (y := miX12_fail) (As := [.int 1]) (rest := []) clX12 kd_87 rfl moX12_fail rfl mlX12_290 (by first | decide | omega) (by decide) (by simp [Value.category]) rfl dX12_tithes_19 (SX12_fail  M2 1) (fun M10 v11 => ?_)
    exact g_ireturn rfl (by decide) (by decide) dX12_tithes_22 rfl rfl
def fX12_holdsOut_b48 (rec23 : Mem → Int32 → Int32 → Int32 → RS) (M : Mem) (x1 : Int32) (x2 : Int32) (x3 : Int32) : RS := rec23 M x1 x2 (x3 + 1)
theorem SX12_holdsOut_b48 (rec23 : Mem → Int32 → Int32 → Int32 → RS) (hrec23 : ∀ (M : Mem) (x1 : Int32) (x2 : Int32) (x3 : Int32), GO miX12_holdsOut (5) 0 0 0 0 23 [(0, .ref 87), (1, .int x1), (2, .int x2), (3, .int x3)] [] M (rec23 M x1 x2 x3)) (M : Mem) (x1 : Int32) (x2 : Int32) (x3 : Int32) : GO miX12_holdsOut (5) 0 0 0 0 48 [(0, .ref 87), (1, .int x1), (2, .int x2), (3, .int x3)] [] M (fX12_holdsOut_b48 rec23 M x1 x2 x3) := by
  show GO miX12_holdsOut (5) 0 0 0 0 48 [(0, .ref 87), (1, .int x1), (2, .int x2), (3, .int x3)] [] M (rec23 M x1 x2 (x3 + 1))
  refine g_iinc (v := x3 + 1) (L' := [(3, .int (x3 + 1)), (0, .ref 87), (1, .int x1), (2, .int x2)]) 3 rfl rfl (by decide) rfl dX12_holdsOut_48 ?_
  refine g_goto (tgt := 23) rfl dX12_holdsOut_51 ?_
  exact GO.pick [1, 2, 3, 0] rfl <| hrec23 M x1 x2 (x3 + 1)
def fX12_holdsOut_b54 (M : Mem) (x2 : Int32) : RS := bV (fX12_unpack 111 M 0) (fun M6 => some (M6, .inr (some (.int x2))))
theorem SX12_holdsOut_b54 (M : Mem) (x2 : Int32) : GO miX12_holdsOut (5) 0 0 0 0 54 [(0, .ref 87), (2, .int x2)] [] M (fX12_holdsOut_b54 M x2) := by
  show GO miX12_holdsOut (5) 0 0 0 0 54 [(0, .ref 87), (2, .int x2)] [] M (bV (fX12_unpack 111 M 0) (fun M6 => some (M6, .inr (some (.int x2)))))
  refine g_aload_n 0 rfl rfl dX12_holdsOut_54 ?_
  refine g_aload_n 0 rfl rfl dX12_holdsOut_55 ?_
  refine g_getR (k := 47) (b := 111) clX12 kd_87 (by decide) rfl rfl flX12_104 dX12_holdsOut_56 ?_
  refine g_iconst (v := 0) (by decide) dX12_holdsOut_59 ?_
  refine g_callVV (y := miX12_unpack) (As := [.ref 111, .int 0]) (rest := []) clX12 kd_87 rfl moX12_unpack rfl mlX12_420 (by first | decide | omega) (by decide) (by simp [Value.category]) rfl dX12_holdsOut_60 (SX12_unpack 111 (by decide) M 0) (fun M6 => ?_)
  refine g_iload_n 1 rfl rfl dX12_holdsOut_63 ?_
  exact g_ireturn rfl (by decide) (by decide) dX12_holdsOut_64 rfl rfl
def fX12_holdsOut_b23 : Nat → Mem → Int32 → Int32 → Int32 → RS
  | 0 => fun _ _ _ _ => none
  | n + 1 => fun M x1 x2 x3 => if 50 < x3 then fX12_holdsOut_b54  M x2 else if x2 = (-1) then bV (fX12_aYear M) (fun M4 => if (gi M4 87 32) = x1 then fX12_holdsOut_b48 (fX12_holdsOut_b23 n) M4 x1 x2 x3 else fX12_holdsOut_b48 (fX12_holdsOut_b23 n) M4 x1 x3 x3) else fX12_holdsOut_b54  M x2
theorem SX12_holdsOut_b23 (n : Nat) : ∀ (M : Mem) (x1 : Int32) (x2 : Int32) (x3 : Int32), GO miX12_holdsOut (5) 0 0 0 0 23 [(0, .ref 87), (1, .int x1), (2, .int x2), (3, .int x3)] [] M (fX12_holdsOut_b23 n M x1 x2 x3) := by
  induction n with
  | zero => intro M x1 x2 x3 ; exact GO.none
  | succ n hrec23 =>
    intro M x1 x2 x3 
    show GO miX12_holdsOut (5) 0 0 0 0 23 [(0, .ref 87), (1, .int x1), (2, .int x2), (3, .int x3)] [] M (if 50 < x3 then fX12_holdsOut_b54  M x2 else if x2 = (-1) then bV (fX12_aYear M) (fun M4 => if (gi M4 87 32) = x1 then fX12_holdsOut_b48 (fX12_holdsOut_b23 n) M4 x1 x2 x3 else fX12_holdsOut_b48 (fX12_holdsOut_b23 n) M4 x1 x3 x3) else fX12_holdsOut_b54  M x2)
    refine g_iload_n 3 rfl rfl dX12_holdsOut_23 ?_
    refine g_bipush (v := 50) (by decide) dX12_holdsOut_24 ?_
    refine g_icmp_gt (tgt := 54) rfl dX12_holdsOut_26 (fun c => ?_) (fun c => ?_)
    · exact GO.pick [0, 2] rfl <| SX12_holdsOut_b54  M x2
    · refine g_iload_n 2 rfl rfl dX12_holdsOut_29 ?_
      refine g_iconst (v := (-1)) (by decide) dX12_holdsOut_30 ?_
      refine g_icmp_ne (tgt := 54) rfl dX12_holdsOut_31 (fun c => ?_) (fun c => ?_)
      · exact GO.pick [0, 2] rfl <| SX12_holdsOut_b54  M x2
      · refine g_aload_n 0 rfl rfl dX12_holdsOut_34 ?_
        refine g_callVV (y := miX12_aYear) (As := []) (rest := []) clX12 kd_87 rfl moX12_aYear rfl mlX12_368 (by first | decide | omega) (by decide) (by simp [Value.category]) rfl dX12_holdsOut_35 (SX12_aYear  M) (fun M4 => ?_)
        refine g_aload_n 0 rfl rfl dX12_holdsOut_38 ?_
        refine g_getI (k := 32) clX12 kd_87 (by decide) rfl flX12_305 dX12_holdsOut_39 ?_
        refine g_iload_n 1 rfl rfl dX12_holdsOut_42 ?_
        refine g_icmp_eq (tgt := 48) rfl dX12_holdsOut_43 (fun c => ?_) (fun c => ?_)
        · exact GO.pick [0, 1, 2, 3] rfl <| SX12_holdsOut_b48  (fX12_holdsOut_b23 n) hrec23 M4 x1 x2 x3
        · refine g_iload_n 3 rfl rfl dX12_holdsOut_46 ?_
          refine g_istore_n (L' := [(2, .int x3), (0, .ref 87), (1, .int x1), (3, .int x3)]) (by decide) rfl rfl dX12_holdsOut_47 ?_
          exact GO.pick [1, 2, 0, 3] rfl <| SX12_holdsOut_b48  (fX12_holdsOut_b23 n) hrec23 M4 x1 x3 x3
def fX12_holdsOut (M : Mem)  : RS := wr (si M 87 3 0) (fun M1 => bV (fX12_pack 111 M1 0) (fun M2 => fX12_holdsOut_b23  FU M2 (gi M2 87 32) (-1) 1))
theorem SX12_holdsOut (M : Mem)  : CTO (5) miX12_holdsOut 0 0 [.ref 87] M (fX12_holdsOut  M ) := by
  refine CTO.of (by decide) (by simp [lg_sl, Value.category]) ?_
  show GO miX12_holdsOut (5) 0 0 0 0 0 [(0, .ref 87)] [] M (wr (si M 87 3 0) (fun M1 => bV (fX12_pack 111 M1 0) (fun M2 => fX12_holdsOut_b23  FU M2 (gi M2 87 32) (-1) 1)))
  refine g_aload_n 0 rfl rfl dX12_holdsOut_0 ?_
  refine g_iconst (v := 0) (by decide) dX12_holdsOut_1 ?_
  refine g_putI (k := 3) clX12 kd_87 (by decide) rfl (by decide) rfl flX12_140 dX12_holdsOut_2 ?_
  refine GO.wr (fun M1 => ?_)
  refine g_aload_n 0 rfl rfl dX12_holdsOut_5 ?_
  refine g_aload_n 0 rfl rfl dX12_holdsOut_6 ?_
  refine g_getR (k := 47) (b := 111) clX12 kd_87 (by decide) rfl rfl flX12_104 dX12_holdsOut_7 ?_
  refine g_iconst (v := 0) (by decide) dX12_holdsOut_10 ?_
  refine g_callVV (y := miX12_pack) (As := [.ref 111, .int 0]) (rest := []) clX12 kd_87 rfl moX12_pack rfl mlX12_387 (by first | decide | omega) (by decide) (by simp [Value.category]) rfl dX12_holdsOut_11 (SX12_pack 111 (by decide) M1 0) (fun M2 => ?_)
  refine g_aload_n 0 rfl rfl dX12_holdsOut_14 ?_
  refine g_getI (k := 32) clX12 kd_87 (by decide) rfl flX12_305 dX12_holdsOut_15 ?_
  refine g_istore_n (L' := [(1, .int (gi M2 87 32)), (0, .ref 87)]) (by decide) rfl rfl dX12_holdsOut_18 ?_
  refine g_iconst (v := (-1)) (by decide) dX12_holdsOut_19 ?_
  refine g_istore_n (L' := [(2, .int (-1)), (1, .int (gi M2 87 32)), (0, .ref 87)]) (by decide) rfl rfl dX12_holdsOut_20 ?_
  refine g_iconst (v := 1) (by decide) dX12_holdsOut_21 ?_
  refine g_istore_n (L' := [(3, .int 1), (2, .int (-1)), (1, .int (gi M2 87 32)), (0, .ref 87)]) (by decide) rfl rfl dX12_holdsOut_22 ?_
  exact GO.pick [3, 2, 1, 0] rfl <| SX12_holdsOut_b23  FU M2 (gi M2 87 32) (-1) 1
def fX12_strengthBy_b38 (rec4 : Mem → Int32 → Int32 → Int32 → RS) (M : Mem) (x1 : Int32) (x3 : Int32) (s0 : Int32) (s1 : Int32) : RS := rec4 M x1 (s1 + s0) (x3 + 1)
theorem SX12_strengthBy_b38 (rec4 : Mem → Int32 → Int32 → Int32 → RS) (hrec4 : ∀ (M : Mem) (x1 : Int32) (x2 : Int32) (x3 : Int32), GO miX12_strengthBy (1) 0 0 0 0 4 [(0, .ref 87), (1, .int x1), (2, .int x2), (3, .int x3)] [] M (rec4 M x1 x2 x3)) (M : Mem) (x1 : Int32) (x3 : Int32) (s0 : Int32) (s1 : Int32) : GO miX12_strengthBy (1) 0 0 0 0 38 [(0, .ref 87), (1, .int x1), (3, .int x3)] [.int s0, .int s1] M (fX12_strengthBy_b38 rec4 M x1 x3 s0 s1) := by
  show GO miX12_strengthBy (1) 0 0 0 0 38 [(0, .ref 87), (1, .int x1), (3, .int x3)] [.int s0, .int s1] M (rec4 M x1 (s1 + s0) (x3 + 1))
  refine g_iadd dX12_strengthBy_38 ?_
  refine g_istore_n (L' := [(2, .int (s1 + s0)), (0, .ref 87), (1, .int x1), (3, .int x3)]) (by decide) rfl rfl dX12_strengthBy_39 ?_
  refine g_iinc (v := x3 + 1) (L' := [(3, .int (x3 + 1)), (2, .int (s1 + s0)), (0, .ref 87), (1, .int x1)]) 3 rfl rfl (by decide) rfl dX12_strengthBy_40 ?_
  refine g_goto (tgt := 4) rfl dX12_strengthBy_43 ?_
  exact GO.pick [2, 3, 1, 0] rfl <| hrec4 M x1 (s1 + s0) (x3 + 1)
def fX12_strengthBy_b4 : Nat → Mem → Int32 → Int32 → Int32 → RS
  | 0 => fun _ _ _ _ => none
  | n + 1 => fun M x1 x2 x3 => if x3 < (gi M 90 0) then bI (fX12_isOf M x1 x3) (fun M1 v2 => if v2 = 0 then chk (inb x3 16) (fX12_strengthBy_b38 (fX12_strengthBy_b4 n) M1 x1 x3 (gi M1 91 (ix x3)) x2) else chk (inb x3 16) (fX12_strengthBy_b38 (fX12_strengthBy_b4 n) M1 x1 x3 (gi M1 92 (ix x3)) x2)) else some (M, .inr (some (.int x2)))
theorem SX12_strengthBy_b4 (n : Nat) : ∀ (M : Mem) (x1 : Int32) (x2 : Int32) (x3 : Int32), GO miX12_strengthBy (1) 0 0 0 0 4 [(0, .ref 87), (1, .int x1), (2, .int x2), (3, .int x3)] [] M (fX12_strengthBy_b4 n M x1 x2 x3) := by
  induction n with
  | zero => intro M x1 x2 x3 ; exact GO.none
  | succ n hrec4 =>
    intro M x1 x2 x3 
    show GO miX12_strengthBy (1) 0 0 0 0 4 [(0, .ref 87), (1, .int x1), (2, .int x2), (3, .int x3)] [] M (if x3 < (gi M 90 0) then bI (fX12_isOf M x1 x3) (fun M1 v2 => if v2 = 0 then chk (inb x3 16) (fX12_strengthBy_b38 (fX12_strengthBy_b4 n) M1 x1 x3 (gi M1 91 (ix x3)) x2) else chk (inb x3 16) (fX12_strengthBy_b38 (fX12_strengthBy_b4 n) M1 x1 x3 (gi M1 92 (ix x3)) x2)) else some (M, .inr (some (.int x2))))
    refine g_iload_n 3 rfl rfl dX12_strengthBy_4 ?_
    refine g_aload_n 0 rfl rfl dX12_strengthBy_5 ?_
    refine g_getR (k := 4) (b := 90) clX12 kd_87 (by decide) rfl rfl flX12_35 dX12_strengthBy_6 ?_
    refine g_iconst (v := 0) (by decide) dX12_strengthBy_9 ?_
    refine g_aldL (j := 0) kd_90 (by decide) (by decide) dX12_strengthBy_10 ?_
    refine g_icmp_ge (tgt := 46) rfl dX12_strengthBy_11 (fun c => ?_) (fun c => ?_)
    · refine g_iload_n 2 rfl rfl dX12_strengthBy_46 ?_
      exact g_ireturn rfl (by decide) (by decide) dX12_strengthBy_47 rfl rfl
    · refine g_iload_n 2 rfl rfl dX12_strengthBy_14 ?_
      refine g_iload_n 1 rfl rfl dX12_strengthBy_15 ?_
      refine g_iload_n 3 rfl rfl dX12_strengthBy_16 ?_
      refine g_callSI (y := miX12_isOf) (As := [.int x1, .int x3]) (rest := [.int x2]) moX12_isOf rfl mlX12_333 (by first | decide | omega) (by decide) (by simp [Value.category]) rfl dX12_strengthBy_17 (SX12_isOf  M x1 x3) (fun M1 v2 => ?_)
      refine g_if_eq (tgt := 32) rfl dX12_strengthBy_20 (fun c => ?_) (fun c => ?_)
      · refine g_aload_n 0 rfl rfl dX12_strengthBy_32 ?_
        refine g_getR (k := 5) (b := 91) clX12 kd_87 (by decide) rfl rfl flX12_39 dX12_strengthBy_33 ?_
        refine g_iload_n 3 rfl rfl dX12_strengthBy_36 ?_
        refine g_ald kd_91 dX12_strengthBy_37 (fun hi3 => ?_)
        exact GO.pick [0, 1, 3] rfl <| SX12_strengthBy_b38  (fX12_strengthBy_b4 n) hrec4 M1 x1 x3 (gi M1 91 (ix x3)) x2
      · refine g_aload_n 0 rfl rfl dX12_strengthBy_23 ?_
        refine g_getR (k := 6) (b := 92) clX12 kd_87 (by decide) rfl rfl flX12_42 dX12_strengthBy_24 ?_
        refine g_iload_n 3 rfl rfl dX12_strengthBy_27 ?_
        refine g_ald kd_92 dX12_strengthBy_28 (fun hi4 => ?_)
        refine g_goto (tgt := 38) rfl dX12_strengthBy_29 ?_
        exact GO.pick [0, 1, 3] rfl <| SX12_strengthBy_b38  (fX12_strengthBy_b4 n) hrec4 M1 x1 x3 (gi M1 92 (ix x3)) x2
def fX12_strengthBy (M : Mem) (x1 : Int32) : RS := fX12_strengthBy_b4  FU M x1 0 0
theorem SX12_strengthBy (M : Mem) (x1 : Int32) : CTO (1) miX12_strengthBy 0 0 [.ref 87, .int x1] M (fX12_strengthBy  M x1) := by
  refine CTO.of (by decide) (by simp [lg_sl, Value.category]) ?_
  show GO miX12_strengthBy (1) 0 0 0 0 0 [(0, .ref 87), (1, .int x1)] [] M (fX12_strengthBy_b4  FU M x1 0 0)
  refine g_iconst (v := 0) (by decide) dX12_strengthBy_0 ?_
  refine g_istore_n (L' := [(2, .int 0), (0, .ref 87), (1, .int x1)]) (by decide) rfl rfl dX12_strengthBy_1 ?_
  refine g_iconst (v := 0) (by decide) dX12_strengthBy_2 ?_
  refine g_istore_n (L' := [(3, .int 0), (2, .int 0), (0, .ref 87), (1, .int x1)]) (by decide) rfl rfl dX12_strengthBy_3 ?_
  exact GO.pick [2, 3, 1, 0] rfl <| SX12_strengthBy_b4  FU M x1 0 0
def fX12_lotsFor_b97 (rec54 : Mem → Int32 → Int32 → Int32 → Int32 → RS) (M : Mem) (x1 : Int32) (x2 : Int32) (x4 : Int32) (s0 : Int32) (s1 : Int32) : RS := rec54 M x1 x2 (s1 + s0) (x4 + 1)
theorem SX12_lotsFor_b97 (rec54 : Mem → Int32 → Int32 → Int32 → Int32 → RS) (hrec54 : ∀ (M : Mem) (x1 : Int32) (x2 : Int32) (x3 : Int32) (x4 : Int32), GO miX12_lotsFor (2) 0 0 0 0 54 [(0, .ref 87), (1, .int x1), (2, .int x2), (3, .int x3), (4, .int x4)] [] M (rec54 M x1 x2 x3 x4)) (M : Mem) (x1 : Int32) (x2 : Int32) (x4 : Int32) (s0 : Int32) (s1 : Int32) : GO miX12_lotsFor (2) 0 0 0 0 97 [(0, .ref 87), (1, .int x1), (2, .int x2), (4, .int x4)] [.int s0, .int s1] M (fX12_lotsFor_b97 rec54 M x1 x2 x4 s0 s1) := by
  show GO miX12_lotsFor (2) 0 0 0 0 97 [(0, .ref 87), (1, .int x1), (2, .int x2), (4, .int x4)] [.int s0, .int s1] M (rec54 M x1 x2 (s1 + s0) (x4 + 1))
  refine g_iadd dX12_lotsFor_97 ?_
  refine g_istore_n (L' := [(3, .int (s1 + s0)), (0, .ref 87), (1, .int x1), (2, .int x2), (4, .int x4)]) (by decide) rfl rfl dX12_lotsFor_98 ?_
  refine g_iinc (v := x4 + 1) (L' := [(4, .int (x4 + 1)), (3, .int (s1 + s0)), (0, .ref 87), (1, .int x1), (2, .int x2)]) 4 rfl rfl (by decide) rfl dX12_lotsFor_99 ?_
  refine g_goto (tgt := 54) rfl dX12_lotsFor_102 ?_
  exact GO.pick [2, 3, 4, 1, 0] rfl <| hrec54 M x1 x2 (s1 + s0) (x4 + 1)
def fX12_lotsFor_b92 (rec54 : Mem → Int32 → Int32 → Int32 → Int32 → RS) (M : Mem) (x1 : Int32) (x2 : Int32) (x4 : Int32) (s0 : Int32) : RS := fX12_lotsFor_b97 rec54 M x1 x2 x4 1 s0
theorem SX12_lotsFor_b92 (rec54 : Mem → Int32 → Int32 → Int32 → Int32 → RS) (hrec54 : ∀ (M : Mem) (x1 : Int32) (x2 : Int32) (x3 : Int32) (x4 : Int32), GO miX12_lotsFor (2) 0 0 0 0 54 [(0, .ref 87), (1, .int x1), (2, .int x2), (3, .int x3), (4, .int x4)] [] M (rec54 M x1 x2 x3 x4)) (M : Mem) (x1 : Int32) (x2 : Int32) (x4 : Int32) (s0 : Int32) : GO miX12_lotsFor (2) 0 0 0 0 92 [(0, .ref 87), (1, .int x1), (2, .int x2), (4, .int x4)] [.int s0] M (fX12_lotsFor_b92 rec54 M x1 x2 x4 s0) := by
  show GO miX12_lotsFor (2) 0 0 0 0 92 [(0, .ref 87), (1, .int x1), (2, .int x2), (4, .int x4)] [.int s0] M (fX12_lotsFor_b97 rec54 M x1 x2 x4 1 s0)
  refine g_iconst (v := 1) (by decide) dX12_lotsFor_92 ?_
  refine g_goto (tgt := 97) rfl dX12_lotsFor_93 ?_
  exact GO.pick [0, 1, 2, 3] rfl <| SX12_lotsFor_b97  rec54 hrec54 M x1 x2 x4 1 s0
def fX12_lotsFor_b96 (rec54 : Mem → Int32 → Int32 → Int32 → Int32 → RS) (M : Mem) (x1 : Int32) (x2 : Int32) (x4 : Int32) (s0 : Int32) : RS := fX12_lotsFor_b97 rec54 M x1 x2 x4 0 s0
theorem SX12_lotsFor_b96 (rec54 : Mem → Int32 → Int32 → Int32 → Int32 → RS) (hrec54 : ∀ (M : Mem) (x1 : Int32) (x2 : Int32) (x3 : Int32) (x4 : Int32), GO miX12_lotsFor (2) 0 0 0 0 54 [(0, .ref 87), (1, .int x1), (2, .int x2), (3, .int x3), (4, .int x4)] [] M (rec54 M x1 x2 x3 x4)) (M : Mem) (x1 : Int32) (x2 : Int32) (x4 : Int32) (s0 : Int32) : GO miX12_lotsFor (2) 0 0 0 0 96 [(0, .ref 87), (1, .int x1), (2, .int x2), (4, .int x4)] [.int s0] M (fX12_lotsFor_b96 rec54 M x1 x2 x4 s0) := by
  show GO miX12_lotsFor (2) 0 0 0 0 96 [(0, .ref 87), (1, .int x1), (2, .int x2), (4, .int x4)] [.int s0] M (fX12_lotsFor_b97 rec54 M x1 x2 x4 0 s0)
  refine g_iconst (v := 0) (by decide) dX12_lotsFor_96 ?_
  exact GO.pick [0, 1, 2, 3] rfl <| SX12_lotsFor_b97  rec54 hrec54 M x1 x2 x4 0 s0
def fX12_lotsFor_b54 : Nat → Mem → Int32 → Int32 → Int32 → Int32 → RS
  | 0 => fun _ _ _ _ _ => none
  | n + 1 => fun M x1 x2 x3 x4 => if x4 < ((1 : Int32) <<< ((gi M 90 0) &&& 31)) then bI (fX12_strengthBy M x4) (fun M10 v11 => if v11 < x1 then fX12_lotsFor_b96 (fX12_lotsFor_b54 n) M10 x1 x2 x4 x3 else if x2 = (-1) then fX12_lotsFor_b92 (fX12_lotsFor_b54 n) M10 x1 x2 x4 x3 else bI (fX12_isOf M10 x4 x2) (fun M12 v13 => if v13 = 0 then fX12_lotsFor_b96 (fX12_lotsFor_b54 n) M12 x1 x2 x4 x3 else fX12_lotsFor_b92 (fX12_lotsFor_b54 n) M12 x1 x2 x4 x3)) else some (M, .inr (some (.int x3)))
theorem SX12_lotsFor_b54 (n : Nat) : ∀ (M : Mem) (x1 : Int32) (x2 : Int32) (x3 : Int32) (x4 : Int32), GO miX12_lotsFor (2) 0 0 0 0 54 [(0, .ref 87), (1, .int x1), (2, .int x2), (3, .int x3), (4, .int x4)] [] M (fX12_lotsFor_b54 n M x1 x2 x3 x4) := by
  induction n with
  | zero => intro M x1 x2 x3 x4 ; exact GO.none
  | succ n hrec54 =>
    intro M x1 x2 x3 x4 
    show GO miX12_lotsFor (2) 0 0 0 0 54 [(0, .ref 87), (1, .int x1), (2, .int x2), (3, .int x3), (4, .int x4)] [] M (if x4 < ((1 : Int32) <<< ((gi M 90 0) &&& 31)) then bI (fX12_strengthBy M x4) (fun M10 v11 => if v11 < x1 then fX12_lotsFor_b96 (fX12_lotsFor_b54 n) M10 x1 x2 x4 x3 else if x2 = (-1) then fX12_lotsFor_b92 (fX12_lotsFor_b54 n) M10 x1 x2 x4 x3 else bI (fX12_isOf M10 x4 x2) (fun M12 v13 => if v13 = 0 then fX12_lotsFor_b96 (fX12_lotsFor_b54 n) M12 x1 x2 x4 x3 else fX12_lotsFor_b92 (fX12_lotsFor_b54 n) M12 x1 x2 x4 x3)) else some (M, .inr (some (.int x3))))
    refine g_iload 4 rfl dX12_lotsFor_54 ?_
    refine g_iconst (v := 1) (by decide) dX12_lotsFor_56 ?_
    refine g_aload_n 0 rfl rfl dX12_lotsFor_57 ?_
    refine g_getR (k := 4) (b := 90) clX12 kd_87 (by decide) rfl rfl flX12_35 dX12_lotsFor_58 ?_
    refine g_iconst (v := 0) (by decide) dX12_lotsFor_61 ?_
    refine g_aldL (j := 0) kd_90 (by decide) (by decide) dX12_lotsFor_62 ?_
    refine g_ishl dX12_lotsFor_63 ?_
    refine g_icmp_ge (tgt := 105) rfl dX12_lotsFor_64 (fun c => ?_) (fun c => ?_)
    · refine g_iload_n 3 rfl rfl dX12_lotsFor_105 ?_
      exact g_ireturn rfl (by decide) (by decide) dX12_lotsFor_106 rfl rfl
    · refine g_iload_n 3 rfl rfl dX12_lotsFor_67 ?_
      refine g_aload_n 0 rfl rfl dX12_lotsFor_68 ?_
      refine g_iload 4 rfl dX12_lotsFor_69 ?_
      refine g_callVI (y := miX12_strengthBy) (As := [.int x4]) (rest := [.int x3]) clX12 kd_87 rfl moX12_strengthBy rfl mlX12_464 (by first | decide | omega) (by decide) (by simp [Value.category]) rfl dX12_lotsFor_71 (SX12_strengthBy  M x4) (fun M10 v11 => ?_)
      refine g_iload_n 1 rfl rfl dX12_lotsFor_74 ?_
      refine g_icmp_lt (tgt := 96) rfl dX12_lotsFor_75 (fun c => ?_) (fun c => ?_)
      · exact GO.pick [0, 1, 2, 4] rfl <| SX12_lotsFor_b96  (fX12_lotsFor_b54 n) hrec54 M10 x1 x2 x4 x3
      · refine g_iload_n 2 rfl rfl dX12_lotsFor_78 ?_
        refine g_iconst (v := (-1)) (by decide) dX12_lotsFor_79 ?_
        refine g_icmp_eq (tgt := 92) rfl dX12_lotsFor_80 (fun c => ?_) (fun c => ?_)
        · exact GO.pick [0, 1, 2, 4] rfl <| SX12_lotsFor_b92  (fX12_lotsFor_b54 n) hrec54 M10 x1 x2 x4 x3
        · refine g_iload 4 rfl dX12_lotsFor_83 ?_
          refine g_iload_n 2 rfl rfl dX12_lotsFor_85 ?_
          refine g_callSI (y := miX12_isOf) (As := [.int x4, .int x2]) (rest := [.int x3]) moX12_isOf rfl mlX12_333 (by first | decide | omega) (by decide) (by simp [Value.category]) rfl dX12_lotsFor_86 (SX12_isOf  M10 x4 x2) (fun M12 v13 => ?_)
          refine g_if_eq (tgt := 96) rfl dX12_lotsFor_89 (fun c => ?_) (fun c => ?_)
          · exact GO.pick [0, 1, 2, 4] rfl <| SX12_lotsFor_b96  (fX12_lotsFor_b54 n) hrec54 M12 x1 x2 x4 x3
          · exact GO.pick [0, 1, 2, 4] rfl <| SX12_lotsFor_b92  (fX12_lotsFor_b54 n) hrec54 M12 x1 x2 x4 x3
def fX12_lotsFor (M : Mem) (x1 : Int32) (x2 : Int32) : RS := wr (si M 87 3 0) (fun M1 => bI (fX12_isIn M1 (Int32.toInt64 x2) (-1) (Int32.toInt64 ((gi M1 90 0) - 1))) (fun M2 v3 => if v3 = 0 then bI (fX12_fail M2 1) (fun M8 v9 => some (M8, .inr (some (.int v9)))) else bI (fX12_isIn M2 (Int32.toInt64 x1) 0 99) (fun M4 v5 => if v5 = 0 then bI (fX12_fail M4 2) (fun M6 v7 => some (M6, .inr (some (.int v7)))) else fX12_lotsFor_b54  FU M4 x1 x2 0 0)))
theorem SX12_lotsFor (M : Mem) (x1 : Int32) (x2 : Int32) : CTO (2) miX12_lotsFor 0 0 [.ref 87, .int x1, .int x2] M (fX12_lotsFor  M x1 x2) := by
  refine CTO.of (by decide) (by simp [lg_sl, Value.category]) ?_
  show GO miX12_lotsFor (2) 0 0 0 0 0 [(0, .ref 87), (1, .int x1), (2, .int x2)] [] M (wr (si M 87 3 0) (fun M1 => bI (fX12_isIn M1 (Int32.toInt64 x2) (-1) (Int32.toInt64 ((gi M1 90 0) - 1))) (fun M2 v3 => if v3 = 0 then bI (fX12_fail M2 1) (fun M8 v9 => some (M8, .inr (some (.int v9)))) else bI (fX12_isIn M2 (Int32.toInt64 x1) 0 99) (fun M4 v5 => if v5 = 0 then bI (fX12_fail M4 2) (fun M6 v7 => some (M6, .inr (some (.int v7)))) else fX12_lotsFor_b54  FU M4 x1 x2 0 0))))
  refine g_aload_n 0 rfl rfl dX12_lotsFor_0 ?_
  refine g_iconst (v := 0) (by decide) dX12_lotsFor_1 ?_
  refine g_putI (k := 3) clX12 kd_87 (by decide) rfl (by decide) rfl flX12_140 dX12_lotsFor_2 ?_
  refine GO.wr (fun M1 => ?_)
  refine g_iload_n 2 rfl rfl dX12_lotsFor_5 ?_
  refine g_i2l dX12_lotsFor_6 ?_
  refine g_ldc2 (v := (-1)) coX12_441 dX12_lotsFor_7 ?_
  refine g_aload_n 0 rfl rfl dX12_lotsFor_10 ?_
  refine g_getR (k := 4) (b := 90) clX12 kd_87 (by decide) rfl rfl flX12_35 dX12_lotsFor_11 ?_
  refine g_iconst (v := 0) (by decide) dX12_lotsFor_14 ?_
  refine g_aldL (j := 0) kd_90 (by decide) (by decide) dX12_lotsFor_15 ?_
  refine g_iconst (v := 1) (by decide) dX12_lotsFor_16 ?_
  refine g_isub dX12_lotsFor_17 ?_
  refine g_i2l dX12_lotsFor_18 ?_
  refine g_callSI (y := miX12_isIn) (As := [.long (Int32.toInt64 x2), .long (-1), .long (Int32.toInt64 ((gi M1 90 0) - 1))]) (rest := []) moX12_isIn rfl mlX12_143 (by first | decide | omega) (by decide) (by simp [Value.category]) rfl dX12_lotsFor_19 (SX12_isIn  M1 (Int32.toInt64 x2) (-1) (Int32.toInt64 ((gi M1 90 0) - 1))) (fun M2 v3 => ?_)
  refine g_if_ne (tgt := 31) rfl dX12_lotsFor_22 (fun c => ?_) (fun c => ?_)
  · refine g_iload_n 1 rfl rfl dX12_lotsFor_31 ?_
    refine g_i2l dX12_lotsFor_32 ?_
    refine g_lconst (v := 0) (by decide) dX12_lotsFor_33 ?_
    refine g_ldc2 (v := 99) coX12_462 dX12_lotsFor_34 ?_
    refine g_callSI (y := miX12_isIn) (As := [.long (Int32.toInt64 x1), .long 0, .long 99]) (rest := []) moX12_isIn rfl mlX12_143 (by first | decide | omega) (by decide) (by simp [Value.category]) rfl dX12_lotsFor_37 (SX12_isIn  M2 (Int32.toInt64 x1) 0 99) (fun M4 v5 => ?_)
    refine g_if_ne (tgt := 49) rfl dX12_lotsFor_40 (fun c => ?_) (fun c => ?_)
    · refine g_iconst (v := 0) (by decide) dX12_lotsFor_49 ?_
      refine g_istore_n (L' := [(3, .int 0), (0, .ref 87), (1, .int x1), (2, .int x2)]) (by decide) rfl rfl dX12_lotsFor_50 ?_
      refine g_iconst (v := 0) (by decide) dX12_lotsFor_51 ?_
      refine g_istore (L' := [(4, .int 0), (3, .int 0), (0, .ref 87), (1, .int x1), (2, .int x2)]) (by decide) rfl dX12_lotsFor_52 ?_
      exact GO.pick [2, 3, 4, 1, 0] rfl <| SX12_lotsFor_b54  FU M4 x1 x2 0 0
    · refine g_aload_n 0 rfl rfl dX12_lotsFor_43 ?_
      refine g_iconst (v := 2) (by decide) dX12_lotsFor_44 ?_
      refine g_callVI (y := miX12_fail) (As := [.int 2]) (rest := []) clX12 kd_87 rfl moX12_fail rfl mlX12_290 (by first | decide | omega) (by decide) (by simp [Value.category]) rfl dX12_lotsFor_45 (SX12_fail  M4 2) (fun M6 v7 => ?_)
      exact g_ireturn rfl (by decide) (by decide) dX12_lotsFor_48 rfl rfl
  · refine g_aload_n 0 rfl rfl dX12_lotsFor_25 ?_
    refine g_iconst (v := 1) (by decide) dX12_lotsFor_26 ?_
    refine g_callVI (y := miX12_fail) (As := [.int 1]) (rest := []) clX12 kd_87 rfl moX12_fail rfl mlX12_290 (by first | decide | omega) (by decide) (by simp [Value.category]) rfl dX12_lotsFor_27 (SX12_fail  M2 1) (fun M8 v9 => ?_)
    exact g_ireturn rfl (by decide) (by decide) dX12_lotsFor_30 rfl rfl
def fX12_allStored_b4 : Nat → Mem → Int32 → Int32 → RS
  | 0 => fun _ _ _ => none
  | n + 1 => fun M x1 x2 => if x2 < (gi M 90 0) then chk (inb x2 8) ((fX12_allStored_b4 n) M (x1 + (gi M 102 (ix x2))) (x2 + 1)) else some (M, .inr (some (.int x1)))
theorem SX12_allStored_b4 (n : Nat) : ∀ (M : Mem) (x1 : Int32) (x2 : Int32), GO miX12_allStored (0) 0 0 0 0 4 [(0, .ref 87), (1, .int x1), (2, .int x2)] [] M (fX12_allStored_b4 n M x1 x2) := by
  induction n with
  | zero => intro M x1 x2 ; exact GO.none
  | succ n hrec4 =>
    intro M x1 x2 
    show GO miX12_allStored (0) 0 0 0 0 4 [(0, .ref 87), (1, .int x1), (2, .int x2)] [] M (if x2 < (gi M 90 0) then chk (inb x2 8) ((fX12_allStored_b4 n) M (x1 + (gi M 102 (ix x2))) (x2 + 1)) else some (M, .inr (some (.int x1))))
    refine g_iload_n 2 rfl rfl dX12_allStored_4 ?_
    refine g_aload_n 0 rfl rfl dX12_allStored_5 ?_
    refine g_getR (k := 4) (b := 90) clX12 kd_87 (by decide) rfl rfl flX12_35 dX12_allStored_6 ?_
    refine g_iconst (v := 0) (by decide) dX12_allStored_9 ?_
    refine g_aldL (j := 0) kd_90 (by decide) (by decide) dX12_allStored_10 ?_
    refine g_icmp_ge (tgt := 29) rfl dX12_allStored_11 (fun c => ?_) (fun c => ?_)
    · refine g_iload_n 1 rfl rfl dX12_allStored_29 ?_
      exact g_ireturn rfl (by decide) (by decide) dX12_allStored_30 rfl rfl
    · refine g_iload_n 1 rfl rfl dX12_allStored_14 ?_
      refine g_aload_n 0 rfl rfl dX12_allStored_15 ?_
      refine g_getR (k := 27) (b := 102) clX12 kd_87 (by decide) rfl rfl flX12_73 dX12_allStored_16 ?_
      refine g_iload_n 2 rfl rfl dX12_allStored_19 ?_
      refine g_ald kd_102 dX12_allStored_20 (fun hi1 => ?_)
      refine g_iadd dX12_allStored_21 ?_
      refine g_istore_n (L' := [(1, .int (x1 + (gi M 102 (ix x2)))), (0, .ref 87), (2, .int x2)]) (by decide) rfl rfl dX12_allStored_22 ?_
      refine g_iinc (v := x2 + 1) (L' := [(2, .int (x2 + 1)), (1, .int (x1 + (gi M 102 (ix x2)))), (0, .ref 87)]) 2 rfl rfl (by decide) rfl dX12_allStored_23 ?_
      refine g_goto (tgt := 4) rfl dX12_allStored_26 ?_
      exact GO.pick [2, 1, 0] rfl <| hrec4 M (x1 + (gi M 102 (ix x2))) (x2 + 1)
def fX12_allStored (M : Mem)  : RS := fX12_allStored_b4  FU M 0 0
theorem SX12_allStored (M : Mem)  : CTO (0) miX12_allStored 0 0 [.ref 87] M (fX12_allStored  M ) := by
  refine CTO.of (by decide) (by simp [lg_sl, Value.category]) ?_
  show GO miX12_allStored (0) 0 0 0 0 0 [(0, .ref 87)] [] M (fX12_allStored_b4  FU M 0 0)
  refine g_iconst (v := 0) (by decide) dX12_allStored_0 ?_
  refine g_istore_n (L' := [(1, .int 0), (0, .ref 87)]) (by decide) rfl rfl dX12_allStored_1 ?_
  refine g_iconst (v := 0) (by decide) dX12_allStored_2 ?_
  refine g_istore_n (L' := [(2, .int 0), (1, .int 0), (0, .ref 87)]) (by decide) rfl rfl dX12_allStored_3 ?_
  exact GO.pick [2, 1, 0] rfl <| SX12_allStored_b4  FU M 0 0
def fX12_change_b119 (rec56 : Mem → Int32 → Int32 → Int32 → Int32 → RS) (M : Mem) (x1 : Int32) (x2 : Int32) (x3 : Int32) (x4 : Int32) : RS := rec56 M x1 x2 x3 (x4 + 1)
theorem SX12_change_b119 (rec56 : Mem → Int32 → Int32 → Int32 → Int32 → RS) (hrec56 : ∀ (M : Mem) (x1 : Int32) (x2 : Int32) (x3 : Int32) (x4 : Int32), GO miX12_change (6) 0 0 0 0 56 [(0, .ref 87), (1, .int x1), (2, .int x2), (3, .int x3), (4, .int x4)] [] M (rec56 M x1 x2 x3 x4)) (M : Mem) (x1 : Int32) (x2 : Int32) (x3 : Int32) (x4 : Int32) : GO miX12_change (6) 0 0 0 0 119 [(0, .ref 87), (1, .int x1), (2, .int x2), (3, .int x3), (4, .int x4)] [] M (fX12_change_b119 rec56 M x1 x2 x3 x4) := by
  show GO miX12_change (6) 0 0 0 0 119 [(0, .ref 87), (1, .int x1), (2, .int x2), (3, .int x3), (4, .int x4)] [] M (rec56 M x1 x2 x3 (x4 + 1))
  refine g_iinc (v := x4 + 1) (L' := [(4, .int (x4 + 1)), (0, .ref 87), (1, .int x1), (2, .int x2), (3, .int x3)]) 4 rfl rfl (by decide) rfl dX12_change_119 ?_
  refine g_goto (tgt := 56) rfl dX12_change_122 ?_
  exact GO.pick [1, 2, 3, 4, 0] rfl <| hrec56 M x1 x2 x3 (x4 + 1)
def fX12_change_b56 : Nat → Mem → Int32 → Int32 → Int32 → Int32 → RS
  | 0 => fun _ _ _ _ _ => none
  | n + 1 => fun M x1 x2 x3 x4 => if x4 < (gi M 90 0) then wr (si M 87 35 ((gi M 87 35) ^^^ ((1 : Int32) <<< (x4 &&& 31)))) (fun M14 => bV (fX12_takeShares M14) (fun M15 => bV (fX12_goOn M15 x1) (fun M17 => bI (fX12_allStored M17) (fun M19 v20 => bV (fX12_unpack 111 M19 0) (fun M21 => if x2 < v20 then fX12_change_b119 (fX12_change_b56 n) M21 x1 v20 x4 x4 else fX12_change_b119 (fX12_change_b56 n) M21 x1 x2 x3 x4))))) else some (M, .inr (some (.int x3)))
theorem SX12_change_b56 (n : Nat) : ∀ (M : Mem) (x1 : Int32) (x2 : Int32) (x3 : Int32) (x4 : Int32), GO miX12_change (6) 0 0 0 0 56 [(0, .ref 87), (1, .int x1), (2, .int x2), (3, .int x3), (4, .int x4)] [] M (fX12_change_b56 n M x1 x2 x3 x4) := by
  induction n with
  | zero => intro M x1 x2 x3 x4 ; exact GO.none
  | succ n hrec56 =>
    intro M x1 x2 x3 x4 
    show GO miX12_change (6) 0 0 0 0 56 [(0, .ref 87), (1, .int x1), (2, .int x2), (3, .int x3), (4, .int x4)] [] M (if x4 < (gi M 90 0) then wr (si M 87 35 ((gi M 87 35) ^^^ ((1 : Int32) <<< (x4 &&& 31)))) (fun M14 => bV (fX12_takeShares M14) (fun M15 => bV (fX12_goOn M15 x1) (fun M17 => bI (fX12_allStored M17) (fun M19 v20 => bV (fX12_unpack 111 M19 0) (fun M21 => if x2 < v20 then fX12_change_b119 (fX12_change_b56 n) M21 x1 v20 x4 x4 else fX12_change_b119 (fX12_change_b56 n) M21 x1 x2 x3 x4))))) else some (M, .inr (some (.int x3))))
    refine g_iload 4 rfl dX12_change_56 ?_
    refine g_aload_n 0 rfl rfl dX12_change_58 ?_
    refine g_getR (k := 4) (b := 90) clX12 kd_87 (by decide) rfl rfl flX12_35 dX12_change_59 ?_
    refine g_iconst (v := 0) (by decide) dX12_change_62 ?_
    refine g_aldL (j := 0) kd_90 (by decide) (by decide) dX12_change_63 ?_
    refine g_icmp_ge (tgt := 125) rfl dX12_change_64 (fun c => ?_) (fun c => ?_)
    · refine g_iload_n 3 rfl rfl dX12_change_125 ?_
      exact g_ireturn rfl (by decide) (by decide) dX12_change_126 rfl rfl
    · refine g_aload_n 0 rfl rfl dX12_change_67 ?_
      refine g_dup_ref dX12_change_68 ?_
      refine g_getI (k := 35) clX12 kd_87 (by decide) rfl flX12_314 dX12_change_69 ?_
      refine g_iconst (v := 1) (by decide) dX12_change_72 ?_
      refine g_iload 4 rfl dX12_change_73 ?_
      refine g_ishl dX12_change_75 ?_
      refine g_ixor dX12_change_76 ?_
      refine g_putI (k := 35) clX12 kd_87 (by decide) rfl (by decide) rfl flX12_314 dX12_change_77 ?_
      refine GO.wr (fun M14 => ?_)
      refine g_aload_n 0 rfl rfl dX12_change_80 ?_
      refine g_callVV (y := miX12_takeShares) (As := []) (rest := []) clX12 kd_87 rfl moX12_takeShares rfl mlX12_317 (by first | decide | omega) (by decide) (by simp [Value.category]) rfl dX12_change_81 (SX12_takeShares  M14) (fun M15 => ?_)
      refine g_aload_n 0 rfl rfl dX12_change_84 ?_
      refine g_iload_n 1 rfl rfl dX12_change_85 ?_
      refine g_callVV (y := miX12_goOn) (As := [.int x1]) (rest := []) clX12 kd_87 rfl moX12_goOn rfl mlX12_417 (by first | decide | omega) (by decide) (by simp [Value.category]) rfl dX12_change_86 (SX12_goOn  M15 x1) (fun M17 => ?_)
      refine g_aload_n 0 rfl rfl dX12_change_89 ?_
      refine g_callVI (y := miX12_allStored) (As := []) (rest := []) clX12 kd_87 rfl moX12_allStored rfl mlX12_467 (by first | decide | omega) (by decide) (by simp [Value.category]) rfl dX12_change_90 (SX12_allStored  M17) (fun M19 v20 => ?_)
      refine g_istore (L' := [(5, .int v20), (0, .ref 87), (1, .int x1), (2, .int x2), (3, .int x3), (4, .int x4)]) (by decide) rfl dX12_change_93 ?_
      refine g_aload_n 1 rfl rfl dX12_change_95 ?_
      refine g_aload_n 1 rfl rfl dX12_change_96 ?_
      refine g_getR (k := 47) (b := 111) clX12 kd_87 (by decide) rfl rfl flX12_104 dX12_change_97 ?_
      refine g_iconst (v := 0) (by decide) dX12_change_100 ?_
      refine g_callVV (y := miX12_unpack) (As := [.ref 111, .int 0]) (rest := []) clX12 kd_87 rfl moX12_unpack rfl mlX12_420 (by first | decide | omega) (by decide) (by simp [Value.category]) rfl dX12_change_101 (SX12_unpack 111 (by decide) M19 0) (fun M21 => ?_)
      refine g_iload 0 rfl dX12_change_104 ?_
      refine g_iload_n 3 rfl rfl dX12_change_106 ?_
      refine g_icmp_gt (tgt := 113) rfl dX12_change_107 (fun c => ?_) (fun c => ?_)
      · refine g_iload 5 rfl dX12_change_113 ?_
        refine g_istore_n (L' := [(3, .int x4), (5, .int v20), (0, .ref 87), (1, .int x1), (2, .int x2), (4, .int x4)]) (by decide) rfl rfl dX12_change_115 ?_
        refine g_iload 1 rfl dX12_change_116 ?_
        refine g_istore_n (L' := [(2, .int v20), (3, .int x4), (5, .int v20), (0, .ref 87), (1, .int x1), (4, .int x4)]) (by decide) rfl rfl dX12_change_118 ?_
        exact GO.pick [3, 4, 0, 1, 5] rfl <| SX12_change_b119  (fX12_change_b56 n) hrec56 M21 x1 v20 x4 x4
      · refine g_goto (tgt := 119) rfl dX12_change_110 ?_
        exact GO.pick [1, 2, 3, 4, 5] rfl <| SX12_change_b119  (fX12_change_b56 n) hrec56 M21 x1 x2 x3 x4
def fX12_change (M : Mem) (x1 : Int32) : RS := wr (si M 87 3 0) (fun M1 => bI (fX12_isIn M1 (Int32.toInt64 x1) 1 20) (fun M2 v3 => if v3 = 0 then bI (fX12_fail M2 1) (fun M12 v13 => some (M12, .inr (some (.int v13)))) else bV (fX12_pack 111 M2 0) (fun M4 => bV (fX12_goOn M4 x1) (fun M6 => bI (fX12_allStored M6) (fun M8 v9 => bV (fX12_unpack 111 M8 0) (fun M10 => fX12_change_b56  FU M10 x1 v9 (-1) 0))))))
theorem SX12_change (M : Mem) (x1 : Int32) : CTO (6) miX12_change 0 0 [.ref 87, .int x1] M (fX12_change  M x1) := by
  refine CTO.of (by decide) (by simp [lg_sl, Value.category]) ?_
  show GO miX12_change (6) 0 0 0 0 0 [(0, .ref 87), (1, .int x1)] [] M (wr (si M 87 3 0) (fun M1 => bI (fX12_isIn M1 (Int32.toInt64 x1) 1 20) (fun M2 v3 => if v3 = 0 then bI (fX12_fail M2 1) (fun M12 v13 => some (M12, .inr (some (.int v13)))) else bV (fX12_pack 111 M2 0) (fun M4 => bV (fX12_goOn M4 x1) (fun M6 => bI (fX12_allStored M6) (fun M8 v9 => bV (fX12_unpack 111 M8 0) (fun M10 => fX12_change_b56  FU M10 x1 v9 (-1) 0)))))))
  refine g_aload_n 0 rfl rfl dX12_change_0 ?_
  refine g_iconst (v := 0) (by decide) dX12_change_1 ?_
  refine g_putI (k := 3) clX12 kd_87 (by decide) rfl (by decide) rfl flX12_140 dX12_change_2 ?_
  refine GO.wr (fun M1 => ?_)
  refine g_iload_n 1 rfl rfl dX12_change_5 ?_
  refine g_i2l dX12_change_6 ?_
  refine g_lconst (v := 1) (by decide) dX12_change_7 ?_
  refine g_ldc2 (v := 20) coX12_413 dX12_change_8 ?_
  refine g_callSI (y := miX12_isIn) (As := [.long (Int32.toInt64 x1), .long 1, .long 20]) (rest := []) moX12_isIn rfl mlX12_143 (by first | decide | omega) (by decide) (by simp [Value.category]) rfl dX12_change_11 (SX12_isIn  M1 (Int32.toInt64 x1) 1 20) (fun M2 v3 => ?_)
  refine g_if_ne (tgt := 23) rfl dX12_change_14 (fun c => ?_) (fun c => ?_)
  · refine g_aload_n 0 rfl rfl dX12_change_23 ?_
    refine g_aload_n 0 rfl rfl dX12_change_24 ?_
    refine g_getR (k := 47) (b := 111) clX12 kd_87 (by decide) rfl rfl flX12_104 dX12_change_25 ?_
    refine g_iconst (v := 0) (by decide) dX12_change_28 ?_
    refine g_callVV (y := miX12_pack) (As := [.ref 111, .int 0]) (rest := []) clX12 kd_87 rfl moX12_pack rfl mlX12_387 (by first | decide | omega) (by decide) (by simp [Value.category]) rfl dX12_change_29 (SX12_pack 111 (by decide) M2 0) (fun M4 => ?_)
    refine g_aload_n 0 rfl rfl dX12_change_32 ?_
    refine g_iload_n 1 rfl rfl dX12_change_33 ?_
    refine g_callVV (y := miX12_goOn) (As := [.int x1]) (rest := []) clX12 kd_87 rfl moX12_goOn rfl mlX12_417 (by first | decide | omega) (by decide) (by simp [Value.category]) rfl dX12_change_34 (SX12_goOn  M4 x1) (fun M6 => ?_)
    refine g_aload_n 0 rfl rfl dX12_change_37 ?_
    refine g_callVI (y := miX12_allStored) (As := []) (rest := []) clX12 kd_87 rfl moX12_allStored rfl mlX12_467 (by first | decide | omega) (by decide) (by simp [Value.category]) rfl dX12_change_38 (SX12_allStored  M6) (fun M8 v9 => ?_)
    refine g_istore_n (L' := [(2, .int v9), (0, .ref 87), (1, .int x1)]) (by decide) rfl rfl dX12_change_41 ?_
    refine g_aload_n 1 rfl rfl dX12_change_42 ?_
    refine g_aload_n 1 rfl rfl dX12_change_43 ?_
    refine g_getR (k := 47) (b := 111) clX12 kd_87 (by decide) rfl rfl flX12_104 dX12_change_44 ?_
    refine g_iconst (v := 0) (by decide) dX12_change_47 ?_
    refine g_callVV (y := miX12_unpack) (As := [.ref 111, .int 0]) (rest := []) clX12 kd_87 rfl moX12_unpack rfl mlX12_420 (by first | decide | omega) (by decide) (by simp [Value.category]) rfl dX12_change_48 (SX12_unpack 111 (by decide) M8 0) (fun M10 => ?_)
    refine g_iconst (v := (-1)) (by decide) dX12_change_51 ?_
    refine g_istore_n (L' := [(3, .int (-1)), (2, .int v9), (0, .ref 87), (1, .int x1)]) (by decide) rfl rfl dX12_change_52 ?_
    refine g_iconst (v := 0) (by decide) dX12_change_53 ?_
    refine g_istore (L' := [(4, .int 0), (3, .int (-1)), (2, .int v9), (0, .ref 87), (1, .int x1)]) (by decide) rfl dX12_change_54 ?_
    exact GO.pick [3, 4, 2, 1, 0] rfl <| SX12_change_b56  FU M10 x1 v9 (-1) 0
  · refine g_aload_n 0 rfl rfl dX12_change_17 ?_
    refine g_iconst (v := 1) (by decide) dX12_change_18 ?_
    refine g_callVI (y := miX12_fail) (As := [.int 1]) (rest := []) clX12 kd_87 rfl moX12_fail rfl mlX12_290 (by first | decide | omega) (by decide) (by simp [Value.category]) rfl dX12_change_19 (SX12_fail  M2 1) (fun M12 v13 => ?_)
    exact g_ireturn rfl (by decide) (by decide) dX12_change_22 rfl rfl
def fX12_envied_b14 (M : Mem)  : RS := bI (fX12_fail M 1) (fun M2 v3 => some (M2, .inr (some (.int v3))))
theorem SX12_envied_b14 (M : Mem)  : GO miX12_envied (5) 0 0 0 0 14 [(0, .ref 87)] [] M (fX12_envied_b14 M ) := by
  show GO miX12_envied (5) 0 0 0 0 14 [(0, .ref 87)] [] M (bI (fX12_fail M 1) (fun M2 v3 => some (M2, .inr (some (.int v3)))))
  refine g_aload_n 0 rfl rfl dX12_envied_14 ?_
  refine g_iconst (v := 1) (by decide) dX12_envied_15 ?_
  refine g_callVI (y := miX12_fail) (As := [.int 1]) (rest := []) clX12 kd_87 rfl moX12_fail rfl mlX12_290 (by first | decide | omega) (by decide) (by simp [Value.category]) rfl dX12_envied_16 (SX12_fail  M 1) (fun M2 v3 => ?_)
  exact g_ireturn rfl (by decide) (by decide) dX12_envied_19 rfl rfl
def fX12_envied_b92 (rec27 : Mem → Int32 → Int32 → Int32 → Int32 → RS) (M : Mem) (x1 : Int32) (x2 : Int32) (x3 : Int32) (x4 : Int32) : RS := rec27 M x1 x2 x3 (x4 + 1)
theorem SX12_envied_b92 (rec27 : Mem → Int32 → Int32 → Int32 → Int32 → RS) (hrec27 : ∀ (M : Mem) (x1 : Int32) (x2 : Int32) (x3 : Int32) (x4 : Int32), GO miX12_envied (5) 0 0 0 0 27 [(0, .ref 87), (1, .int x1), (2, .int x2), (3, .int x3), (4, .int x4)] [] M (rec27 M x1 x2 x3 x4)) (M : Mem) (x1 : Int32) (x2 : Int32) (x3 : Int32) (x4 : Int32) : GO miX12_envied (5) 0 0 0 0 92 [(0, .ref 87), (1, .int x1), (2, .int x2), (3, .int x3), (4, .int x4)] [] M (fX12_envied_b92 rec27 M x1 x2 x3 x4) := by
  show GO miX12_envied (5) 0 0 0 0 92 [(0, .ref 87), (1, .int x1), (2, .int x2), (3, .int x3), (4, .int x4)] [] M (rec27 M x1 x2 x3 (x4 + 1))
  refine g_iinc (v := x4 + 1) (L' := [(4, .int (x4 + 1)), (0, .ref 87), (1, .int x1), (2, .int x2), (3, .int x3)]) 4 rfl rfl (by decide) rfl dX12_envied_92 ?_
  refine g_goto (tgt := 27) rfl dX12_envied_95 ?_
  exact GO.pick [1, 2, 3, 4, 0] rfl <| hrec27 M x1 x2 x3 (x4 + 1)
def fX12_envied_b44 (rec27 : Mem → Int32 → Int32 → Int32 → Int32 → RS) : Nat → Mem → Int32 → Int32 → Int32 → Int32 → Int32 → Int32 → RS
  | 0 => fun _ _ _ _ _ _ _ => none
  | n + 1 => fun M x1 x2 x3 x4 x5 x6 => if x6 < (gi M 90 0) then bI (fX12_envyOf M x6) (fun M4 v5 => (fX12_envied_b44 rec27 n) M4 x1 x2 x3 x4 (x5 + ((v5 >>> (x4 &&& 31)) &&& 1)) (x6 + 1)) else if x3 < x5 then fX12_envied_b92 rec27 M x1 x4 x5 x4 else fX12_envied_b92 rec27 M x1 x2 x3 x4
theorem SX12_envied_b44 (rec27 : Mem → Int32 → Int32 → Int32 → Int32 → RS) (hrec27 : ∀ (M : Mem) (x1 : Int32) (x2 : Int32) (x3 : Int32) (x4 : Int32), GO miX12_envied (5) 0 0 0 0 27 [(0, .ref 87), (1, .int x1), (2, .int x2), (3, .int x3), (4, .int x4)] [] M (rec27 M x1 x2 x3 x4)) (n : Nat) : ∀ (M : Mem) (x1 : Int32) (x2 : Int32) (x3 : Int32) (x4 : Int32) (x5 : Int32) (x6 : Int32), GO miX12_envied (5) 0 0 0 0 44 [(0, .ref 87), (1, .int x1), (2, .int x2), (3, .int x3), (4, .int x4), (5, .int x5), (6, .int x6)] [] M (fX12_envied_b44 rec27 n M x1 x2 x3 x4 x5 x6) := by
  induction n with
  | zero => intro M x1 x2 x3 x4 x5 x6 ; exact GO.none
  | succ n hrec44 =>
    intro M x1 x2 x3 x4 x5 x6 
    show GO miX12_envied (5) 0 0 0 0 44 [(0, .ref 87), (1, .int x1), (2, .int x2), (3, .int x3), (4, .int x4), (5, .int x5), (6, .int x6)] [] M (if x6 < (gi M 90 0) then bI (fX12_envyOf M x6) (fun M4 v5 => (fX12_envied_b44 rec27 n) M4 x1 x2 x3 x4 (x5 + ((v5 >>> (x4 &&& 31)) &&& 1)) (x6 + 1)) else if x3 < x5 then fX12_envied_b92 rec27 M x1 x4 x5 x4 else fX12_envied_b92 rec27 M x1 x2 x3 x4)
    refine g_iload 6 rfl dX12_envied_44 ?_
    refine g_aload_n 0 rfl rfl dX12_envied_46 ?_
    refine g_getR (k := 4) (b := 90) clX12 kd_87 (by decide) rfl rfl flX12_35 dX12_envied_47 ?_
    refine g_iconst (v := 0) (by decide) dX12_envied_50 ?_
    refine g_aldL (j := 0) kd_90 (by decide) (by decide) dX12_envied_51 ?_
    refine g_icmp_ge (tgt := 77) rfl dX12_envied_52 (fun c => ?_) (fun c => ?_)
    · refine g_iload 5 rfl dX12_envied_77 ?_
      refine g_iload_n 3 rfl rfl dX12_envied_79 ?_
      refine g_icmp_gt (tgt := 86) rfl dX12_envied_80 (fun c => ?_) (fun c => ?_)
      · refine g_iload 4 rfl dX12_envied_86 ?_
        refine g_istore_n (L' := [(2, .int x4), (0, .ref 87), (1, .int x1), (3, .int x3), (4, .int x4), (5, .int x5), (6, .int x6)]) (by decide) rfl rfl dX12_envied_88 ?_
        refine g_iload 5 rfl dX12_envied_89 ?_
        refine g_istore_n (L' := [(3, .int x5), (2, .int x4), (0, .ref 87), (1, .int x1), (4, .int x4), (5, .int x5), (6, .int x6)]) (by decide) rfl rfl dX12_envied_91 ?_
        exact GO.pick [2, 3, 1, 0, 4] rfl <| SX12_envied_b92  rec27 hrec27 M x1 x4 x5 x4
      · refine g_goto (tgt := 92) rfl dX12_envied_83 ?_
        exact GO.pick [0, 1, 2, 3, 4] rfl <| SX12_envied_b92  rec27 hrec27 M x1 x2 x3 x4
    · refine g_iload 5 rfl dX12_envied_55 ?_
      refine g_aload_n 0 rfl rfl dX12_envied_57 ?_
      refine g_iload 6 rfl dX12_envied_58 ?_
      refine g_callVI (y := miX12_envyOf) (As := [.int x6]) (rest := [.int x5]) clX12 kd_87 rfl moX12_envyOf rfl mlX12_377 (by first | decide | omega) (by decide) (by simp [Value.category]) rfl dX12_envied_60 (SX12_envyOf  M x6) (fun M4 v5 => ?_)
      refine g_iload 4 rfl dX12_envied_63 ?_
      refine g_ishr dX12_envied_65 ?_
      refine g_iconst (v := 1) (by decide) dX12_envied_66 ?_
      refine g_iand dX12_envied_67 ?_
      refine g_iadd dX12_envied_68 ?_
      refine g_istore (L' := [(5, .int (x5 + ((v5 >>> (x4 &&& 31)) &&& 1))), (0, .ref 87), (1, .int x1), (2, .int x2), (3, .int x3), (4, .int x4), (6, .int x6)]) (by decide) rfl dX12_envied_69 ?_
      refine g_iinc (v := x6 + 1) (L' := [(6, .int (x6 + 1)), (5, .int (x5 + ((v5 >>> (x4 &&& 31)) &&& 1))), (0, .ref 87), (1, .int x1), (2, .int x2), (3, .int x3), (4, .int x4)]) 6 rfl rfl (by decide) rfl dX12_envied_71 ?_
      refine g_goto (tgt := 44) rfl dX12_envied_74 ?_
      exact GO.pick [2, 3, 4, 5, 6, 1, 0] rfl <| hrec44 M4 x1 x2 x3 x4 (x5 + ((v5 >>> (x4 &&& 31)) &&& 1)) (x6 + 1)
def fX12_envied_b27 : Nat → Mem → Int32 → Int32 → Int32 → Int32 → RS
  | 0 => fun _ _ _ _ _ => none
  | n + 1 => fun M x1 x2 x3 x4 => if x4 < (gi M 90 0) then fX12_envied_b44 (fX12_envied_b27 n) FU M x1 x2 x3 x4 0 0 else if x1 = 0 then some (M, .inr (some (.int x2))) else some (M, .inr (some (.int x3)))
theorem SX12_envied_b27 (n : Nat) : ∀ (M : Mem) (x1 : Int32) (x2 : Int32) (x3 : Int32) (x4 : Int32), GO miX12_envied (5) 0 0 0 0 27 [(0, .ref 87), (1, .int x1), (2, .int x2), (3, .int x3), (4, .int x4)] [] M (fX12_envied_b27 n M x1 x2 x3 x4) := by
  induction n with
  | zero => intro M x1 x2 x3 x4 ; exact GO.none
  | succ n hrec27 =>
    intro M x1 x2 x3 x4 
    show GO miX12_envied (5) 0 0 0 0 27 [(0, .ref 87), (1, .int x1), (2, .int x2), (3, .int x3), (4, .int x4)] [] M (if x4 < (gi M 90 0) then fX12_envied_b44 (fX12_envied_b27 n) FU M x1 x2 x3 x4 0 0 else if x1 = 0 then some (M, .inr (some (.int x2))) else some (M, .inr (some (.int x3))))
    refine g_iload 4 rfl dX12_envied_27 ?_
    refine g_aload_n 0 rfl rfl dX12_envied_29 ?_
    refine g_getR (k := 4) (b := 90) clX12 kd_87 (by decide) rfl rfl flX12_35 dX12_envied_30 ?_
    refine g_iconst (v := 0) (by decide) dX12_envied_33 ?_
    refine g_aldL (j := 0) kd_90 (by decide) (by decide) dX12_envied_34 ?_
    refine g_icmp_ge (tgt := 98) rfl dX12_envied_35 (fun c => ?_) (fun c => ?_)
    · refine g_iload_n 1 rfl rfl dX12_envied_98 ?_
      refine g_if_ne (tgt := 106) rfl dX12_envied_99 (fun c => ?_) (fun c => ?_)
      · refine g_iload_n 3 rfl rfl dX12_envied_106 ?_
        exact g_ireturn rfl (by decide) (by decide) dX12_envied_107 rfl rfl
      · refine g_iload_n 2 rfl rfl dX12_envied_102 ?_
        refine g_goto (tgt := 107) rfl dX12_envied_103 ?_
        exact g_ireturn rfl (by decide) (by decide) dX12_envied_107 rfl rfl
    · refine g_iconst (v := 0) (by decide) dX12_envied_38 ?_
      refine g_istore (L' := [(5, .int 0), (0, .ref 87), (1, .int x1), (2, .int x2), (3, .int x3), (4, .int x4)]) (by decide) rfl dX12_envied_39 ?_
      refine g_iconst (v := 0) (by decide) dX12_envied_41 ?_
      refine g_istore (L' := [(6, .int 0), (5, .int 0), (0, .ref 87), (1, .int x1), (2, .int x2), (3, .int x3), (4, .int x4)]) (by decide) rfl dX12_envied_42 ?_
      exact GO.pick [2, 3, 4, 5, 6, 1, 0] rfl <| SX12_envied_b44  (fX12_envied_b27 n) hrec27 FU M x1 x2 x3 x4 0 0
def fX12_envied (M : Mem) (x1 : Int32) : RS := wr (si M 87 3 0) (fun M1 => if x1 < 0 then fX12_envied_b14  M1 else if 1 < x1 then fX12_envied_b14  M1 else fX12_envied_b27  FU M1 x1 (-1) 0 0)
theorem SX12_envied (M : Mem) (x1 : Int32) : CTO (5) miX12_envied 0 0 [.ref 87, .int x1] M (fX12_envied  M x1) := by
  refine CTO.of (by decide) (by simp [lg_sl, Value.category]) ?_
  show GO miX12_envied (5) 0 0 0 0 0 [(0, .ref 87), (1, .int x1)] [] M (wr (si M 87 3 0) (fun M1 => if x1 < 0 then fX12_envied_b14  M1 else if 1 < x1 then fX12_envied_b14  M1 else fX12_envied_b27  FU M1 x1 (-1) 0 0))
  refine g_aload_n 0 rfl rfl dX12_envied_0 ?_
  refine g_iconst (v := 0) (by decide) dX12_envied_1 ?_
  refine g_putI (k := 3) clX12 kd_87 (by decide) rfl (by decide) rfl flX12_140 dX12_envied_2 ?_
  refine GO.wr (fun M1 => ?_)
  refine g_iload_n 1 rfl rfl dX12_envied_5 ?_
  refine g_if_lt (tgt := 14) rfl dX12_envied_6 (fun c => ?_) (fun c => ?_)
  · exact GO.pick [0] rfl <| SX12_envied_b14  M1
  · refine g_iload_n 1 rfl rfl dX12_envied_9 ?_
    refine g_iconst (v := 1) (by decide) dX12_envied_10 ?_
    refine g_icmp_le (tgt := 20) rfl dX12_envied_11 (fun c => ?_) (fun c => ?_)
    · refine g_iconst (v := (-1)) (by decide) dX12_envied_20 ?_
      refine g_istore_n (L' := [(2, .int (-1)), (0, .ref 87), (1, .int x1)]) (by decide) rfl rfl dX12_envied_21 ?_
      refine g_iconst (v := 0) (by decide) dX12_envied_22 ?_
      refine g_istore_n (L' := [(3, .int 0), (2, .int (-1)), (0, .ref 87), (1, .int x1)]) (by decide) rfl rfl dX12_envied_23 ?_
      refine g_iconst (v := 0) (by decide) dX12_envied_24 ?_
      refine g_istore (L' := [(4, .int 0), (3, .int 0), (2, .int (-1)), (0, .ref 87), (1, .int x1)]) (by decide) rfl dX12_envied_25 ?_
      exact GO.pick [3, 4, 2, 1, 0] rfl <| SX12_envied_b27  FU M1 x1 (-1) 0 0
    · exact GO.pick [0] rfl <| SX12_envied_b14  M1
def fX12_without_b21 (M : Mem)  : RS := bI (fX12_fail M 1) (fun M17 v18 => some (M17, .inr (some (.int v18))))
theorem SX12_without_b21 (M : Mem)  : GO miX12_without (5) 0 0 0 0 21 [(0, .ref 87)] [] M (fX12_without_b21 M ) := by
  show GO miX12_without (5) 0 0 0 0 21 [(0, .ref 87)] [] M (bI (fX12_fail M 1) (fun M17 v18 => some (M17, .inr (some (.int v18)))))
  refine g_aload_n 0 rfl rfl dX12_without_21 ?_
  refine g_iconst (v := 1) (by decide) dX12_without_22 ?_
  refine g_callVI (y := miX12_fail) (As := [.int 1]) (rest := []) clX12 kd_87 rfl moX12_fail rfl mlX12_290 (by first | decide | omega) (by decide) (by simp [Value.category]) rfl dX12_without_23 (SX12_fail  M 1) (fun M17 v18 => ?_)
  exact g_ireturn rfl (by decide) (by decide) dX12_without_26 rfl rfl
def fX12_without (M : Mem) (x1 : Int32) (x2 : Int32) : RS := wr (si M 87 3 0) (fun M1 => bI (fX12_isHouse M1 x1) (fun M2 v3 => if v3 = 0 then fX12_without_b21  M2 else bI (fX12_isHouse M2 x2) (fun M4 v5 => if v5 = 0 then fX12_without_b21  M4 else if x1 = x2 then bI (fX12_fail M4 2) (fun M15 v16 => some (M15, .inr (some (.int v16)))) else bV (fX12_pack 111 M4 0) (fun M6 => wr (si M6 87 42 x1) (fun M8 => bV (fX12_takeShares M8) (fun M9 => wr (si M9 87 42 (-1)) (fun M11 => chk (inb x2 8) (bV (fX12_unpack 111 M11 0) (fun M13 => some (M13, .inr (some (.int (gi M11 103 (ix x2))))))))))))))
theorem SX12_without (M : Mem) (x1 : Int32) (x2 : Int32) : CTO (5) miX12_without 0 0 [.ref 87, .int x1, .int x2] M (fX12_without  M x1 x2) := by
  refine CTO.of (by decide) (by simp [lg_sl, Value.category]) ?_
  show GO miX12_without (5) 0 0 0 0 0 [(0, .ref 87), (1, .int x1), (2, .int x2)] [] M (wr (si M 87 3 0) (fun M1 => bI (fX12_isHouse M1 x1) (fun M2 v3 => if v3 = 0 then fX12_without_b21  M2 else bI (fX12_isHouse M2 x2) (fun M4 v5 => if v5 = 0 then fX12_without_b21  M4 else if x1 = x2 then bI (fX12_fail M4 2) (fun M15 v16 => some (M15, .inr (some (.int v16)))) else bV (fX12_pack 111 M4 0) (fun M6 => wr (si M6 87 42 x1) (fun M8 => bV (fX12_takeShares M8) (fun M9 => wr (si M9 87 42 (-1)) (fun M11 => chk (inb x2 8) (bV (fX12_unpack 111 M11 0) (fun M13 => some (M13, .inr (some (.int (gi M11 103 (ix x2)))))))))))))))
  refine g_aload_n 0 rfl rfl dX12_without_0 ?_
  refine g_iconst (v := 0) (by decide) dX12_without_1 ?_
  refine g_putI (k := 3) clX12 kd_87 (by decide) rfl (by decide) rfl flX12_140 dX12_without_2 ?_
  refine GO.wr (fun M1 => ?_)
  refine g_aload_n 0 rfl rfl dX12_without_5 ?_
  refine g_iload_n 1 rfl rfl dX12_without_6 ?_
  refine g_callVI (y := miX12_isHouse) (As := [.int x1]) (rest := []) clX12 kd_87 rfl moX12_isHouse rfl mlX12_371 (by first | decide | omega) (by decide) (by simp [Value.category]) rfl dX12_without_7 (SX12_isHouse  M1 x1) (fun M2 v3 => ?_)
  refine g_if_eq (tgt := 21) rfl dX12_without_10 (fun c => ?_) (fun c => ?_)
  · exact GO.pick [0] rfl <| SX12_without_b21  M2
  · refine g_aload_n 0 rfl rfl dX12_without_13 ?_
    refine g_iload_n 2 rfl rfl dX12_without_14 ?_
    refine g_callVI (y := miX12_isHouse) (As := [.int x2]) (rest := []) clX12 kd_87 rfl moX12_isHouse rfl mlX12_371 (by first | decide | omega) (by decide) (by simp [Value.category]) rfl dX12_without_15 (SX12_isHouse  M2 x2) (fun M4 v5 => ?_)
    refine g_if_ne (tgt := 27) rfl dX12_without_18 (fun c => ?_) (fun c => ?_)
    · refine g_iload_n 1 rfl rfl dX12_without_27 ?_
      refine g_iload_n 2 rfl rfl dX12_without_28 ?_
      refine g_icmp_ne (tgt := 38) rfl dX12_without_29 (fun c => ?_) (fun c => ?_)
      · refine g_aload_n 0 rfl rfl dX12_without_38 ?_
        refine g_aload_n 0 rfl rfl dX12_without_39 ?_
        refine g_getR (k := 47) (b := 111) clX12 kd_87 (by decide) rfl rfl flX12_104 dX12_without_40 ?_
        refine g_iconst (v := 0) (by decide) dX12_without_43 ?_
        refine g_callVV (y := miX12_pack) (As := [.ref 111, .int 0]) (rest := []) clX12 kd_87 rfl moX12_pack rfl mlX12_387 (by first | decide | omega) (by decide) (by simp [Value.category]) rfl dX12_without_44 (SX12_pack 111 (by decide) M4 0) (fun M6 => ?_)
        refine g_aload_n 0 rfl rfl dX12_without_47 ?_
        refine g_iload_n 1 rfl rfl dX12_without_48 ?_
        refine g_putI (k := 42) clX12 kd_87 (by decide) rfl (by decide) rfl flX12_91 dX12_without_49 ?_
        refine GO.wr (fun M8 => ?_)
        refine g_aload_n 0 rfl rfl dX12_without_52 ?_
        refine g_callVV (y := miX12_takeShares) (As := []) (rest := []) clX12 kd_87 rfl moX12_takeShares rfl mlX12_317 (by first | decide | omega) (by decide) (by simp [Value.category]) rfl dX12_without_53 (SX12_takeShares  M8) (fun M9 => ?_)
        refine g_aload_n 0 rfl rfl dX12_without_56 ?_
        refine g_iconst (v := (-1)) (by decide) dX12_without_57 ?_
        refine g_putI (k := 42) clX12 kd_87 (by decide) rfl (by decide) rfl flX12_91 dX12_without_58 ?_
        refine GO.wr (fun M11 => ?_)
        refine g_aload_n 0 rfl rfl dX12_without_61 ?_
        refine g_getR (k := 28) (b := 103) clX12 kd_87 (by decide) rfl rfl flX12_76 dX12_without_62 ?_
        refine g_iload_n 2 rfl rfl dX12_without_65 ?_
        refine g_ald kd_103 dX12_without_66 (fun hi12 => ?_)
        refine g_istore_n (L' := [(3, .int (gi M11 103 (ix x2))), (0, .ref 87), (1, .int x1), (2, .int x2)]) (by decide) rfl rfl dX12_without_67 ?_
        refine g_aload_n 1 rfl rfl dX12_without_68 ?_
        refine g_aload_n 1 rfl rfl dX12_without_69 ?_
        refine g_getR (k := 47) (b := 111) clX12 kd_87 (by decide) rfl rfl flX12_104 dX12_without_70 ?_
        refine g_iconst (v := 0) (by decide) dX12_without_73 ?_
        refine g_callVV (y := miX12_unpack) (As := [.ref 111, .int 0]) (rest := []) clX12 kd_87 rfl moX12_unpack rfl mlX12_420 (by first | decide | omega) (by decide) (by simp [Value.category]) rfl dX12_without_74 (SX12_unpack 111 (by decide) M11 0) (fun M13 => ?_)
        refine g_iload_n 0 rfl rfl dX12_without_77 ?_
        exact g_ireturn rfl (by decide) (by decide) dX12_without_78 rfl rfl
      · refine g_aload_n 0 rfl rfl dX12_without_32 ?_
        refine g_iconst (v := 2) (by decide) dX12_without_33 ?_
        refine g_callVI (y := miX12_fail) (As := [.int 2]) (rest := []) clX12 kd_87 rfl moX12_fail rfl mlX12_290 (by first | decide | omega) (by decide) (by simp [Value.category]) rfl dX12_without_34 (SX12_fail  M4 2) (fun M15 v16 => ?_)
        exact g_ireturn rfl (by decide) (by decide) dX12_without_37 rfl rfl
    · exact GO.pick [0] rfl <| SX12_without_b21  M4
def fX12_lastPlace_b97 (rec40 : Mem → Int32 → Int32 → Int32 → Int32 → RS) (M : Mem) (x1 : Int32) (x2 : Int32) (x3 : Int32) (x4 : Int32) : RS := bV (fX12_unpack 111 M 0) (fun M17 => rec40 M17 x1 x2 x3 (x4 + 1))
theorem SX12_lastPlace_b97 (rec40 : Mem → Int32 → Int32 → Int32 → Int32 → RS) (hrec40 : ∀ (M : Mem) (x1 : Int32) (x2 : Int32) (x3 : Int32) (x4 : Int32), GO miX12_lastPlace (6) 0 0 0 0 40 [(0, .ref 87), (1, .int x1), (2, .int x2), (3, .int x3), (4, .int x4)] [] M (rec40 M x1 x2 x3 x4)) (M : Mem) (x1 : Int32) (x2 : Int32) (x3 : Int32) (x4 : Int32) : GO miX12_lastPlace (6) 0 0 0 0 97 [(0, .ref 87), (1, .int x1), (2, .int x2), (3, .int x3), (4, .int x4)] [] M (fX12_lastPlace_b97 rec40 M x1 x2 x3 x4) := by
  show GO miX12_lastPlace (6) 0 0 0 0 97 [(0, .ref 87), (1, .int x1), (2, .int x2), (3, .int x3), (4, .int x4)] [] M (bV (fX12_unpack 111 M 0) (fun M17 => rec40 M17 x1 x2 x3 (x4 + 1)))
  refine g_aload_n 0 rfl rfl dX12_lastPlace_97 ?_
  refine g_aload_n 0 rfl rfl dX12_lastPlace_98 ?_
  refine g_getR (k := 47) (b := 111) clX12 kd_87 (by decide) rfl rfl flX12_104 dX12_lastPlace_99 ?_
  refine g_iconst (v := 0) (by decide) dX12_lastPlace_102 ?_
  refine g_callVV (y := miX12_unpack) (As := [.ref 111, .int 0]) (rest := []) clX12 kd_87 rfl moX12_unpack rfl mlX12_420 (by first | decide | omega) (by decide) (by simp [Value.category]) rfl dX12_lastPlace_103 (SX12_unpack 111 (by decide) M 0) (fun M17 => ?_)
  refine g_iinc (v := x4 + 1) (L' := [(4, .int (x4 + 1)), (0, .ref 87), (1, .int x1), (2, .int x2), (3, .int x3)]) 4 rfl rfl (by decide) rfl dX12_lastPlace_106 ?_
  refine g_goto (tgt := 40) rfl dX12_lastPlace_109 ?_
  exact GO.pick [1, 2, 3, 4, 0] rfl <| hrec40 M17 x1 x2 x3 (x4 + 1)
def fX12_lastPlace_b94 (rec40 : Mem → Int32 → Int32 → Int32 → Int32 → RS) (M : Mem) (x1 : Int32) (x2 : Int32) (x4 : Int32) : RS := fX12_lastPlace_b97 rec40 M x1 x2 x4 x4
theorem SX12_lastPlace_b94 (rec40 : Mem → Int32 → Int32 → Int32 → Int32 → RS) (hrec40 : ∀ (M : Mem) (x1 : Int32) (x2 : Int32) (x3 : Int32) (x4 : Int32), GO miX12_lastPlace (6) 0 0 0 0 40 [(0, .ref 87), (1, .int x1), (2, .int x2), (3, .int x3), (4, .int x4)] [] M (rec40 M x1 x2 x3 x4)) (M : Mem) (x1 : Int32) (x2 : Int32) (x4 : Int32) : GO miX12_lastPlace (6) 0 0 0 0 94 [(0, .ref 87), (1, .int x1), (2, .int x2), (4, .int x4)] [] M (fX12_lastPlace_b94 rec40 M x1 x2 x4) := by
  show GO miX12_lastPlace (6) 0 0 0 0 94 [(0, .ref 87), (1, .int x1), (2, .int x2), (4, .int x4)] [] M (fX12_lastPlace_b97 rec40 M x1 x2 x4 x4)
  refine g_iload 3 rfl dX12_lastPlace_94 ?_
  refine g_istore_n (L' := [(3, .int x4), (0, .ref 87), (1, .int x1), (2, .int x2), (4, .int x4)]) (by decide) rfl rfl dX12_lastPlace_96 ?_
  exact GO.pick [1, 2, 3, 0, 4] rfl <| SX12_lastPlace_b97  rec40 hrec40 M x1 x2 x4 x4
def fX12_lastPlace_b40 : Nat → Mem → Int32 → Int32 → Int32 → Int32 → RS
  | 0 => fun _ _ _ _ _ => none
  | n + 1 => fun M x1 x2 x3 x4 => if x4 < (gi M 90 0) then bI (fX12_moveTo M x1 x4) (fun M9 v10 => if x2 = (-1) then fX12_lastPlace_b94 (fX12_lastPlace_b40 n) M9 x1 x2 x4 else chk (inb x1 8) (if (gi M9 103 (ix x1)) = (-1) then fX12_lastPlace_b97 (fX12_lastPlace_b40 n) M9 x1 x2 x3 x4 else chk (inb x1 8) (bI (fX12_worthOf M9 x1 (gi M9 103 (ix x1))) (fun M13 v14 => bI (fX12_worthOf M13 x1 x2) (fun M15 v16 => if v14 < v16 then fX12_lastPlace_b97 (fX12_lastPlace_b40 n) M15 x1 x2 x3 x4 else fX12_lastPlace_b94 (fX12_lastPlace_b40 n) M15 x1 x2 x4))))) else some (M, .inr (some (.int x3)))
theorem SX12_lastPlace_b40 (n : Nat) : ∀ (M : Mem) (x1 : Int32) (x2 : Int32) (x3 : Int32) (x4 : Int32), GO miX12_lastPlace (6) 0 0 0 0 40 [(0, .ref 87), (1, .int x1), (2, .int x2), (3, .int x3), (4, .int x4)] [] M (fX12_lastPlace_b40 n M x1 x2 x3 x4) := by
  induction n with
  | zero => intro M x1 x2 x3 x4 ; exact GO.none
  | succ n hrec40 =>
    intro M x1 x2 x3 x4 
    show GO miX12_lastPlace (6) 0 0 0 0 40 [(0, .ref 87), (1, .int x1), (2, .int x2), (3, .int x3), (4, .int x4)] [] M (if x4 < (gi M 90 0) then bI (fX12_moveTo M x1 x4) (fun M9 v10 => if x2 = (-1) then fX12_lastPlace_b94 (fX12_lastPlace_b40 n) M9 x1 x2 x4 else chk (inb x1 8) (if (gi M9 103 (ix x1)) = (-1) then fX12_lastPlace_b97 (fX12_lastPlace_b40 n) M9 x1 x2 x3 x4 else chk (inb x1 8) (bI (fX12_worthOf M9 x1 (gi M9 103 (ix x1))) (fun M13 v14 => bI (fX12_worthOf M13 x1 x2) (fun M15 v16 => if v14 < v16 then fX12_lastPlace_b97 (fX12_lastPlace_b40 n) M15 x1 x2 x3 x4 else fX12_lastPlace_b94 (fX12_lastPlace_b40 n) M15 x1 x2 x4))))) else some (M, .inr (some (.int x3))))
    refine g_iload 4 rfl dX12_lastPlace_40 ?_
    refine g_aload_n 0 rfl rfl dX12_lastPlace_42 ?_
    refine g_getR (k := 4) (b := 90) clX12 kd_87 (by decide) rfl rfl flX12_35 dX12_lastPlace_43 ?_
    refine g_iconst (v := 0) (by decide) dX12_lastPlace_46 ?_
    refine g_aldL (j := 0) kd_90 (by decide) (by decide) dX12_lastPlace_47 ?_
    refine g_icmp_ge (tgt := 112) rfl dX12_lastPlace_48 (fun c => ?_) (fun c => ?_)
    · refine g_iload_n 3 rfl rfl dX12_lastPlace_112 ?_
      exact g_ireturn rfl (by decide) (by decide) dX12_lastPlace_113 rfl rfl
    · refine g_aload_n 0 rfl rfl dX12_lastPlace_51 ?_
      refine g_iload_n 1 rfl rfl dX12_lastPlace_52 ?_
      refine g_iload 4 rfl dX12_lastPlace_53 ?_
      refine g_callVI (y := miX12_moveTo) (As := [.int x1, .int x4]) (rest := []) clX12 kd_87 rfl moX12_moveTo rfl mlX12_407 (by first | decide | omega) (by decide) (by simp [Value.category]) rfl dX12_lastPlace_55 (SX12_moveTo  M x1 x4) (fun M9 v10 => ?_)
      refine g_pop_int dX12_lastPlace_58 ?_
      refine g_iload_n 2 rfl rfl dX12_lastPlace_59 ?_
      refine g_iconst (v := (-1)) (by decide) dX12_lastPlace_60 ?_
      refine g_icmp_eq (tgt := 94) rfl dX12_lastPlace_61 (fun c => ?_) (fun c => ?_)
      · exact GO.pick [0, 1, 2, 4] rfl <| SX12_lastPlace_b94  (fX12_lastPlace_b40 n) hrec40 M9 x1 x2 x4
      · refine g_aload_n 0 rfl rfl dX12_lastPlace_64 ?_
        refine g_getR (k := 28) (b := 103) clX12 kd_87 (by decide) rfl rfl flX12_76 dX12_lastPlace_65 ?_
        refine g_iload_n 1 rfl rfl dX12_lastPlace_68 ?_
        refine g_ald kd_103 dX12_lastPlace_69 (fun hi11 => ?_)
        refine g_iconst (v := (-1)) (by decide) dX12_lastPlace_70 ?_
        refine g_icmp_eq (tgt := 97) rfl dX12_lastPlace_71 (fun c => ?_) (fun c => ?_)
        · exact GO.pick [0, 1, 2, 3, 4] rfl <| SX12_lastPlace_b97  (fX12_lastPlace_b40 n) hrec40 M9 x1 x2 x3 x4
        · refine g_aload_n 0 rfl rfl dX12_lastPlace_74 ?_
          refine g_iload_n 1 rfl rfl dX12_lastPlace_75 ?_
          refine g_aload_n 0 rfl rfl dX12_lastPlace_76 ?_
          refine g_getR (k := 28) (b := 103) clX12 kd_87 (by decide) rfl rfl flX12_76 dX12_lastPlace_77 ?_
          refine g_iload_n 1 rfl rfl dX12_lastPlace_80 ?_
          refine g_ald kd_103 dX12_lastPlace_81 (fun hi12 => ?_)
          refine g_callVI (y := miX12_worthOf) (As := [.int x1, .int (gi M9 103 (ix x1))]) (rest := []) clX12 kd_87 rfl moX12_worthOf rfl mlX12_362 (by first | decide | omega) (by decide) (by simp [Value.category]) rfl dX12_lastPlace_82 (SX12_worthOf  M9 x1 (gi M9 103 (ix x1))) (fun M13 v14 => ?_)
          refine g_aload_n 0 rfl rfl dX12_lastPlace_85 ?_
          refine g_iload_n 1 rfl rfl dX12_lastPlace_86 ?_
          refine g_iload_n 2 rfl rfl dX12_lastPlace_87 ?_
          refine g_callVI (y := miX12_worthOf) (As := [.int x1, .int x2]) (rest := [.int v14]) clX12 kd_87 rfl moX12_worthOf rfl mlX12_362 (by first | decide | omega) (by decide) (by simp [Value.category]) rfl dX12_lastPlace_88 (SX12_worthOf  M13 x1 x2) (fun M15 v16 => ?_)
          refine g_icmp_lt (tgt := 97) rfl dX12_lastPlace_91 (fun c => ?_) (fun c => ?_)
          · exact GO.pick [0, 1, 2, 3, 4] rfl <| SX12_lastPlace_b97  (fX12_lastPlace_b40 n) hrec40 M15 x1 x2 x3 x4
          · exact GO.pick [0, 1, 2, 4] rfl <| SX12_lastPlace_b94  (fX12_lastPlace_b40 n) hrec40 M15 x1 x2 x4
def fX12_lastPlace (M : Mem) (x1 : Int32) : RS := wr (si M 87 3 0) (fun M1 => bI (fX12_isHouse M1 x1) (fun M2 v3 => if v3 = 0 then bI (fX12_fail M2 1) (fun M7 v8 => some (M7, .inr (some (.int v8)))) else bV (fX12_pack 111 M2 0) (fun M4 => chk (inb x1 8) (fX12_lastPlace_b40  FU M4 x1 (gi M4 103 (ix x1)) (-1) 0))))
theorem SX12_lastPlace (M : Mem) (x1 : Int32) : CTO (6) miX12_lastPlace 0 0 [.ref 87, .int x1] M (fX12_lastPlace  M x1) := by
  refine CTO.of (by decide) (by simp [lg_sl, Value.category]) ?_
  show GO miX12_lastPlace (6) 0 0 0 0 0 [(0, .ref 87), (1, .int x1)] [] M (wr (si M 87 3 0) (fun M1 => bI (fX12_isHouse M1 x1) (fun M2 v3 => if v3 = 0 then bI (fX12_fail M2 1) (fun M7 v8 => some (M7, .inr (some (.int v8)))) else bV (fX12_pack 111 M2 0) (fun M4 => chk (inb x1 8) (fX12_lastPlace_b40  FU M4 x1 (gi M4 103 (ix x1)) (-1) 0)))))
  refine g_aload_n 0 rfl rfl dX12_lastPlace_0 ?_
  refine g_iconst (v := 0) (by decide) dX12_lastPlace_1 ?_
  refine g_putI (k := 3) clX12 kd_87 (by decide) rfl (by decide) rfl flX12_140 dX12_lastPlace_2 ?_
  refine GO.wr (fun M1 => ?_)
  refine g_aload_n 0 rfl rfl dX12_lastPlace_5 ?_
  refine g_iload_n 1 rfl rfl dX12_lastPlace_6 ?_
  refine g_callVI (y := miX12_isHouse) (As := [.int x1]) (rest := []) clX12 kd_87 rfl moX12_isHouse rfl mlX12_371 (by first | decide | omega) (by decide) (by simp [Value.category]) rfl dX12_lastPlace_7 (SX12_isHouse  M1 x1) (fun M2 v3 => ?_)
  refine g_if_ne (tgt := 19) rfl dX12_lastPlace_10 (fun c => ?_) (fun c => ?_)
  · refine g_aload_n 0 rfl rfl dX12_lastPlace_19 ?_
    refine g_aload_n 0 rfl rfl dX12_lastPlace_20 ?_
    refine g_getR (k := 47) (b := 111) clX12 kd_87 (by decide) rfl rfl flX12_104 dX12_lastPlace_21 ?_
    refine g_iconst (v := 0) (by decide) dX12_lastPlace_24 ?_
    refine g_callVV (y := miX12_pack) (As := [.ref 111, .int 0]) (rest := []) clX12 kd_87 rfl moX12_pack rfl mlX12_387 (by first | decide | omega) (by decide) (by simp [Value.category]) rfl dX12_lastPlace_25 (SX12_pack 111 (by decide) M2 0) (fun M4 => ?_)
    refine g_aload_n 0 rfl rfl dX12_lastPlace_28 ?_
    refine g_getR (k := 28) (b := 103) clX12 kd_87 (by decide) rfl rfl flX12_76 dX12_lastPlace_29 ?_
    refine g_iload_n 1 rfl rfl dX12_lastPlace_32 ?_
    refine g_ald kd_103 dX12_lastPlace_33 (fun hi6 => ?_)
    refine g_istore_n (L' := [(2, .int (gi M4 103 (ix x1))), (0, .ref 87), (1, .int x1)]) (by decide) rfl rfl dX12_lastPlace_34 ?_
    refine g_iconst (v := (-1)) (by decide) dX12_lastPlace_35 ?_
    refine g_istore_n (L' := [(3, .int (-1)), (2, .int (gi M4 103 (ix x1))), (0, .ref 87), (1, .int x1)]) (by decide) rfl rfl dX12_lastPlace_36 ?_
    refine g_iconst (v := 0) (by decide) dX12_lastPlace_37 ?_
    refine g_istore (L' := [(4, .int 0), (3, .int (-1)), (2, .int (gi M4 103 (ix x1))), (0, .ref 87), (1, .int x1)]) (by decide) rfl dX12_lastPlace_38 ?_
    exact GO.pick [3, 4, 2, 1, 0] rfl <| SX12_lastPlace_b40  FU M4 x1 (gi M4 103 (ix x1)) (-1) 0
  · refine g_aload_n 0 rfl rfl dX12_lastPlace_13 ?_
    refine g_iconst (v := 1) (by decide) dX12_lastPlace_14 ?_
    refine g_callVI (y := miX12_fail) (As := [.int 1]) (rest := []) clX12 kd_87 rfl moX12_fail rfl mlX12_290 (by first | decide | omega) (by decide) (by simp [Value.category]) rfl dX12_lastPlace_15 (SX12_fail  M2 1) (fun M7 v8 => ?_)
    exact g_ireturn rfl (by decide) (by decide) dX12_lastPlace_18 rfl rfl
def fX12_famine (M : Mem) (x1 : Int32) : RS := wr (si M 87 3 0) (fun M1 => bI (fX12_isIn M1 (Int32.toInt64 x1) 0 50) (fun M2 v3 => if v3 = 0 then bI (fX12_fail M2 1) (fun M12 v13 => some (M12, .inr (some (.int v13)))) else bV (fX12_pack 111 M2 0) (fun M4 => bV (fX12_goOn M4 x1) (fun M6 => bI (fX12_bitsOf M6 (gi M6 87 32)) (fun M8 v9 => bV (fX12_unpack 111 M8 0) (fun M10 => some (M10, .inr (some (.int v9)))))))))
theorem SX12_famine (M : Mem) (x1 : Int32) : CTO (6) miX12_famine 0 0 [.ref 87, .int x1] M (fX12_famine  M x1) := by
  refine CTO.of (by decide) (by simp [lg_sl, Value.category]) ?_
  show GO miX12_famine (6) 0 0 0 0 0 [(0, .ref 87), (1, .int x1)] [] M (wr (si M 87 3 0) (fun M1 => bI (fX12_isIn M1 (Int32.toInt64 x1) 0 50) (fun M2 v3 => if v3 = 0 then bI (fX12_fail M2 1) (fun M12 v13 => some (M12, .inr (some (.int v13)))) else bV (fX12_pack 111 M2 0) (fun M4 => bV (fX12_goOn M4 x1) (fun M6 => bI (fX12_bitsOf M6 (gi M6 87 32)) (fun M8 v9 => bV (fX12_unpack 111 M8 0) (fun M10 => some (M10, .inr (some (.int v9))))))))))
  refine g_aload_n 0 rfl rfl dX12_famine_0 ?_
  refine g_iconst (v := 0) (by decide) dX12_famine_1 ?_
  refine g_putI (k := 3) clX12 kd_87 (by decide) rfl (by decide) rfl flX12_140 dX12_famine_2 ?_
  refine GO.wr (fun M1 => ?_)
  refine g_iload_n 1 rfl rfl dX12_famine_5 ?_
  refine g_i2l dX12_famine_6 ?_
  refine g_lconst (v := 0) (by decide) dX12_famine_7 ?_
  refine g_ldc2 (v := 50) coX12_460 dX12_famine_8 ?_
  refine g_callSI (y := miX12_isIn) (As := [.long (Int32.toInt64 x1), .long 0, .long 50]) (rest := []) moX12_isIn rfl mlX12_143 (by first | decide | omega) (by decide) (by simp [Value.category]) rfl dX12_famine_11 (SX12_isIn  M1 (Int32.toInt64 x1) 0 50) (fun M2 v3 => ?_)
  refine g_if_ne (tgt := 23) rfl dX12_famine_14 (fun c => ?_) (fun c => ?_)
  · refine g_aload_n 0 rfl rfl dX12_famine_23 ?_
    refine g_aload_n 0 rfl rfl dX12_famine_24 ?_
    refine g_getR (k := 47) (b := 111) clX12 kd_87 (by decide) rfl rfl flX12_104 dX12_famine_25 ?_
    refine g_iconst (v := 0) (by decide) dX12_famine_28 ?_
    refine g_callVV (y := miX12_pack) (As := [.ref 111, .int 0]) (rest := []) clX12 kd_87 rfl moX12_pack rfl mlX12_387 (by first | decide | omega) (by decide) (by simp [Value.category]) rfl dX12_famine_29 (SX12_pack 111 (by decide) M2 0) (fun M4 => ?_)
    refine g_aload_n 0 rfl rfl dX12_famine_32 ?_
    refine g_iload_n 1 rfl rfl dX12_famine_33 ?_
    refine g_callVV (y := miX12_goOn) (As := [.int x1]) (rest := []) clX12 kd_87 rfl moX12_goOn rfl mlX12_417 (by first | decide | omega) (by decide) (by simp [Value.category]) rfl dX12_famine_34 (SX12_goOn  M4 x1) (fun M6 => ?_)
    refine g_aload_n 0 rfl rfl dX12_famine_37 ?_
    refine g_getI (k := 32) clX12 kd_87 (by decide) rfl flX12_305 dX12_famine_38 ?_
    refine g_callSI (y := miX12_bitsOf) (As := [.int (gi M6 87 32)]) (rest := []) moX12_bitsOf rfl mlX12_431 (by first | decide | omega) (by decide) (by simp [Value.category]) rfl dX12_famine_41 (SX12_bitsOf  M6 (gi M6 87 32)) (fun M8 v9 => ?_)
    refine g_istore_n (L' := [(2, .int v9), (0, .ref 87), (1, .int x1)]) (by decide) rfl rfl dX12_famine_44 ?_
    refine g_aload_n 1 rfl rfl dX12_famine_45 ?_
    refine g_aload_n 1 rfl rfl dX12_famine_46 ?_
    refine g_getR (k := 47) (b := 111) clX12 kd_87 (by decide) rfl rfl flX12_104 dX12_famine_47 ?_
    refine g_iconst (v := 0) (by decide) dX12_famine_50 ?_
    refine g_callVV (y := miX12_unpack) (As := [.ref 111, .int 0]) (rest := []) clX12 kd_87 rfl moX12_unpack rfl mlX12_420 (by first | decide | omega) (by decide) (by simp [Value.category]) rfl dX12_famine_51 (SX12_unpack 111 (by decide) M8 0) (fun M10 => ?_)
    refine g_iload_n 0 rfl rfl dX12_famine_54 ?_
    exact g_ireturn rfl (by decide) (by decide) dX12_famine_55 rfl rfl
  · refine g_aload_n 0 rfl rfl dX12_famine_17 ?_
    refine g_iconst (v := 1) (by decide) dX12_famine_18 ?_
    refine g_callVI (y := miX12_fail) (As := [.int 1]) (rest := []) clX12 kd_87 rfl moX12_fail rfl mlX12_290 (by first | decide | omega) (by decide) (by simp [Value.category]) rfl dX12_famine_19 (SX12_fail  M2 1) (fun M12 v13 => ?_)
    exact g_ireturn rfl (by decide) (by decide) dX12_famine_22 rfl rfl
def fX12_ownHarvest (M : Mem) (x1 : Int32) (x2 : Int32) : RS := chk (inb x1 8) (if (gi M 103 (ix x1)) = (-1) then some (M, .inr (some (.int 0))) else chk (inb x1 8) (bI (fX12_harvestOf M x1 (gi M 103 (ix x1)) x2) (fun M3 v4 => some (M3, .inr (some (.int v4))))))
theorem SX12_ownHarvest (M : Mem) (x1 : Int32) (x2 : Int32) : CTO (4) miX12_ownHarvest 0 0 [.ref 87, .int x1, .int x2] M (fX12_ownHarvest  M x1 x2) := by
  refine CTO.of (by decide) (by simp [lg_sl, Value.category]) ?_
  show GO miX12_ownHarvest (4) 0 0 0 0 0 [(0, .ref 87), (1, .int x1), (2, .int x2)] [] M (chk (inb x1 8) (if (gi M 103 (ix x1)) = (-1) then some (M, .inr (some (.int 0))) else chk (inb x1 8) (bI (fX12_harvestOf M x1 (gi M 103 (ix x1)) x2) (fun M3 v4 => some (M3, .inr (some (.int v4)))))))
  refine g_aload_n 0 rfl rfl dX12_ownHarvest_0 ?_
  refine g_getR (k := 28) (b := 103) clX12 kd_87 (by decide) rfl rfl flX12_76 dX12_ownHarvest_1 ?_
  refine g_iload_n 1 rfl rfl dX12_ownHarvest_4 ?_
  refine g_ald kd_103 dX12_ownHarvest_5 (fun hi1 => ?_)
  refine g_iconst (v := (-1)) (by decide) dX12_ownHarvest_6 ?_
  refine g_icmp_ne (tgt := 14) rfl dX12_ownHarvest_7 (fun c => ?_) (fun c => ?_)
  · refine g_aload_n 0 rfl rfl dX12_ownHarvest_14 ?_
    refine g_iload_n 1 rfl rfl dX12_ownHarvest_15 ?_
    refine g_aload_n 0 rfl rfl dX12_ownHarvest_16 ?_
    refine g_getR (k := 28) (b := 103) clX12 kd_87 (by decide) rfl rfl flX12_76 dX12_ownHarvest_17 ?_
    refine g_iload_n 1 rfl rfl dX12_ownHarvest_20 ?_
    refine g_ald kd_103 dX12_ownHarvest_21 (fun hi2 => ?_)
    refine g_iload_n 2 rfl rfl dX12_ownHarvest_22 ?_
    refine g_callVI (y := miX12_harvestOf) (As := [.int x1, .int (gi M 103 (ix x1)), .int x2]) (rest := []) clX12 kd_87 rfl moX12_harvestOf rfl mlX12_365 (by first | decide | omega) (by decide) (by simp [Value.category]) rfl dX12_ownHarvest_23 (SX12_harvestOf  M x1 (gi M 103 (ix x1)) x2) (fun M3 v4 => ?_)
    exact g_ireturn rfl (by decide) (by decide) dX12_ownHarvest_26 rfl rfl
  · refine g_iconst (v := 0) (by decide) dX12_ownHarvest_10 ?_
    refine g_goto (tgt := 26) rfl dX12_ownHarvest_11 ?_
    exact g_ireturn rfl (by decide) (by decide) dX12_ownHarvest_26 rfl rfl
def fX12_bushels_b82 (rec51 : Mem → Int32 → Int32 → Int32 → Int32 → RS) (M : Mem) (x1 : Int32) (x2 : Int32) (x4 : Int32) (s0 : Int32) (s1 : Int32) : RS := bV (fX12_aYear M) (fun M18 => rec51 M18 x1 x2 (s1 + s0) (x4 + 1))
theorem SX12_bushels_b82 (rec51 : Mem → Int32 → Int32 → Int32 → Int32 → RS) (hrec51 : ∀ (M : Mem) (x1 : Int32) (x2 : Int32) (x3 : Int32) (x4 : Int32), GO miX12_bushels (5) 0 0 0 0 51 [(0, .ref 87), (1, .int x1), (2, .int x2), (3, .int x3), (4, .int x4)] [] M (rec51 M x1 x2 x3 x4)) (M : Mem) (x1 : Int32) (x2 : Int32) (x4 : Int32) (s0 : Int32) (s1 : Int32) : GO miX12_bushels (5) 0 0 0 0 82 [(0, .ref 87), (1, .int x1), (2, .int x2), (4, .int x4)] [.int s0, .int s1] M (fX12_bushels_b82 rec51 M x1 x2 x4 s0 s1) := by
  show GO miX12_bushels (5) 0 0 0 0 82 [(0, .ref 87), (1, .int x1), (2, .int x2), (4, .int x4)] [.int s0, .int s1] M (bV (fX12_aYear M) (fun M18 => rec51 M18 x1 x2 (s1 + s0) (x4 + 1)))
  refine g_iadd dX12_bushels_82 ?_
  refine g_istore_n (L' := [(3, .int (s1 + s0)), (0, .ref 87), (1, .int x1), (2, .int x2), (4, .int x4)]) (by decide) rfl rfl dX12_bushels_83 ?_
  refine g_aload_n 1 rfl rfl dX12_bushels_84 ?_
  refine g_callVV (y := miX12_aYear) (As := []) (rest := []) clX12 kd_87 rfl moX12_aYear rfl mlX12_368 (by first | decide | omega) (by decide) (by simp [Value.category]) rfl dX12_bushels_85 (SX12_aYear  M) (fun M18 => ?_)
  refine g_iinc (v := x4 + 1) (L' := [(4, .int (x4 + 1)), (3, .int (s1 + s0)), (0, .ref 87), (1, .int x1), (2, .int x2)]) 4 rfl rfl (by decide) rfl dX12_bushels_88 ?_
  refine g_goto (tgt := 51) rfl dX12_bushels_91 ?_
  exact GO.pick [2, 3, 4, 1, 0] rfl <| hrec51 M18 x1 x2 (s1 + s0) (x4 + 1)
def fX12_bushels_b51 : Nat → Mem → Int32 → Int32 → Int32 → Int32 → RS
  | 0 => fun _ _ _ _ _ => none
  | n + 1 => fun M x1 x2 x3 x4 => if x4 < x2 then bI (fX12_isOf M (gi M 87 32) x1) (fun M14 v15 => if v15 = 0 then bI (fX12_ownHarvest M14 x1 (gi M14 87 31)) (fun M16 v17 => fX12_bushels_b82 (fX12_bushels_b51 n) M16 x1 x2 x4 v17 x3) else fX12_bushels_b82 (fX12_bushels_b51 n) M14 x1 x2 x4 0 x3) else bV (fX12_unpack 111 M 0) (fun M12 => some (M12, .inr (some (.int x3))))
theorem SX12_bushels_b51 (n : Nat) : ∀ (M : Mem) (x1 : Int32) (x2 : Int32) (x3 : Int32) (x4 : Int32), GO miX12_bushels (5) 0 0 0 0 51 [(0, .ref 87), (1, .int x1), (2, .int x2), (3, .int x3), (4, .int x4)] [] M (fX12_bushels_b51 n M x1 x2 x3 x4) := by
  induction n with
  | zero => intro M x1 x2 x3 x4 ; exact GO.none
  | succ n hrec51 =>
    intro M x1 x2 x3 x4 
    show GO miX12_bushels (5) 0 0 0 0 51 [(0, .ref 87), (1, .int x1), (2, .int x2), (3, .int x3), (4, .int x4)] [] M (if x4 < x2 then bI (fX12_isOf M (gi M 87 32) x1) (fun M14 v15 => if v15 = 0 then bI (fX12_ownHarvest M14 x1 (gi M14 87 31)) (fun M16 v17 => fX12_bushels_b82 (fX12_bushels_b51 n) M16 x1 x2 x4 v17 x3) else fX12_bushels_b82 (fX12_bushels_b51 n) M14 x1 x2 x4 0 x3) else bV (fX12_unpack 111 M 0) (fun M12 => some (M12, .inr (some (.int x3)))))
    refine g_iload 4 rfl dX12_bushels_51 ?_
    refine g_iload_n 2 rfl rfl dX12_bushels_53 ?_
    refine g_icmp_ge (tgt := 94) rfl dX12_bushels_54 (fun c => ?_) (fun c => ?_)
    · refine g_aload_n 0 rfl rfl dX12_bushels_94 ?_
      refine g_aload_n 0 rfl rfl dX12_bushels_95 ?_
      refine g_getR (k := 47) (b := 111) clX12 kd_87 (by decide) rfl rfl flX12_104 dX12_bushels_96 ?_
      refine g_iconst (v := 0) (by decide) dX12_bushels_99 ?_
      refine g_callVV (y := miX12_unpack) (As := [.ref 111, .int 0]) (rest := []) clX12 kd_87 rfl moX12_unpack rfl mlX12_420 (by first | decide | omega) (by decide) (by simp [Value.category]) rfl dX12_bushels_100 (SX12_unpack 111 (by decide) M 0) (fun M12 => ?_)
      refine g_iload_n 3 rfl rfl dX12_bushels_103 ?_
      exact g_ireturn rfl (by decide) (by decide) dX12_bushels_104 rfl rfl
    · refine g_iload_n 3 rfl rfl dX12_bushels_57 ?_
      refine g_aload_n 0 rfl rfl dX12_bushels_58 ?_
      refine g_getI (k := 32) clX12 kd_87 (by decide) rfl flX12_305 dX12_bushels_59 ?_
      refine g_iload_n 1 rfl rfl dX12_bushels_62 ?_
      refine g_callSI (y := miX12_isOf) (As := [.int (gi M 87 32), .int x1]) (rest := [.int x3]) moX12_isOf rfl mlX12_333 (by first | decide | omega) (by decide) (by simp [Value.category]) rfl dX12_bushels_63 (SX12_isOf  M (gi M 87 32) x1) (fun M14 v15 => ?_)
      refine g_if_eq (tgt := 73) rfl dX12_bushels_66 (fun c => ?_) (fun c => ?_)
      · refine g_aload_n 0 rfl rfl dX12_bushels_73 ?_
        refine g_iload_n 1 rfl rfl dX12_bushels_74 ?_
        refine g_aload_n 0 rfl rfl dX12_bushels_75 ?_
        refine g_getI (k := 31) clX12 kd_87 (by decide) rfl flX12_303 dX12_bushels_76 ?_
        refine g_callVI (y := miX12_ownHarvest) (As := [.int x1, .int (gi M14 87 31)]) (rest := [.int x3]) clX12 kd_87 rfl moX12_ownHarvest rfl mlX12_470 (by first | decide | omega) (by decide) (by simp [Value.category]) rfl dX12_bushels_79 (SX12_ownHarvest  M14 x1 (gi M14 87 31)) (fun M16 v17 => ?_)
        exact GO.pick [0, 1, 2, 4] rfl <| SX12_bushels_b82  (fX12_bushels_b51 n) hrec51 M16 x1 x2 x4 v17 x3
      · refine g_iconst (v := 0) (by decide) dX12_bushels_69 ?_
        refine g_goto (tgt := 82) rfl dX12_bushels_70 ?_
        exact GO.pick [0, 1, 2, 4] rfl <| SX12_bushels_b82  (fX12_bushels_b51 n) hrec51 M14 x1 x2 x4 0 x3
def fX12_bushels (M : Mem) (x1 : Int32) (x2 : Int32) : RS := wr (si M 87 3 0) (fun M1 => bI (fX12_isHouse M1 x1) (fun M2 v3 => if v3 = 0 then bI (fX12_fail M2 1) (fun M10 v11 => some (M10, .inr (some (.int v11)))) else bI (fX12_isIn M2 (Int32.toInt64 x2) 0 50) (fun M4 v5 => if v5 = 0 then bI (fX12_fail M4 2) (fun M8 v9 => some (M8, .inr (some (.int v9)))) else bV (fX12_pack 111 M4 0) (fun M6 => fX12_bushels_b51  FU M6 x1 x2 0 0))))
theorem SX12_bushels (M : Mem) (x1 : Int32) (x2 : Int32) : CTO (5) miX12_bushels 0 0 [.ref 87, .int x1, .int x2] M (fX12_bushels  M x1 x2) := by
  refine CTO.of (by decide) (by simp [lg_sl, Value.category]) ?_
  show GO miX12_bushels (5) 0 0 0 0 0 [(0, .ref 87), (1, .int x1), (2, .int x2)] [] M (wr (si M 87 3 0) (fun M1 => bI (fX12_isHouse M1 x1) (fun M2 v3 => if v3 = 0 then bI (fX12_fail M2 1) (fun M10 v11 => some (M10, .inr (some (.int v11)))) else bI (fX12_isIn M2 (Int32.toInt64 x2) 0 50) (fun M4 v5 => if v5 = 0 then bI (fX12_fail M4 2) (fun M8 v9 => some (M8, .inr (some (.int v9)))) else bV (fX12_pack 111 M4 0) (fun M6 => fX12_bushels_b51  FU M6 x1 x2 0 0)))))
  refine g_aload_n 0 rfl rfl dX12_bushels_0 ?_
  refine g_iconst (v := 0) (by decide) dX12_bushels_1 ?_
  refine g_putI (k := 3) clX12 kd_87 (by decide) rfl (by decide) rfl flX12_140 dX12_bushels_2 ?_
  refine GO.wr (fun M1 => ?_)
  refine g_aload_n 0 rfl rfl dX12_bushels_5 ?_
  refine g_iload_n 1 rfl rfl dX12_bushels_6 ?_
  refine g_callVI (y := miX12_isHouse) (As := [.int x1]) (rest := []) clX12 kd_87 rfl moX12_isHouse rfl mlX12_371 (by first | decide | omega) (by decide) (by simp [Value.category]) rfl dX12_bushels_7 (SX12_isHouse  M1 x1) (fun M2 v3 => ?_)
  refine g_if_ne (tgt := 19) rfl dX12_bushels_10 (fun c => ?_) (fun c => ?_)
  · refine g_iload_n 2 rfl rfl dX12_bushels_19 ?_
    refine g_i2l dX12_bushels_20 ?_
    refine g_lconst (v := 0) (by decide) dX12_bushels_21 ?_
    refine g_ldc2 (v := 50) coX12_460 dX12_bushels_22 ?_
    refine g_callSI (y := miX12_isIn) (As := [.long (Int32.toInt64 x2), .long 0, .long 50]) (rest := []) moX12_isIn rfl mlX12_143 (by first | decide | omega) (by decide) (by simp [Value.category]) rfl dX12_bushels_25 (SX12_isIn  M2 (Int32.toInt64 x2) 0 50) (fun M4 v5 => ?_)
    refine g_if_ne (tgt := 37) rfl dX12_bushels_28 (fun c => ?_) (fun c => ?_)
    · refine g_aload_n 0 rfl rfl dX12_bushels_37 ?_
      refine g_aload_n 0 rfl rfl dX12_bushels_38 ?_
      refine g_getR (k := 47) (b := 111) clX12 kd_87 (by decide) rfl rfl flX12_104 dX12_bushels_39 ?_
      refine g_iconst (v := 0) (by decide) dX12_bushels_42 ?_
      refine g_callVV (y := miX12_pack) (As := [.ref 111, .int 0]) (rest := []) clX12 kd_87 rfl moX12_pack rfl mlX12_387 (by first | decide | omega) (by decide) (by simp [Value.category]) rfl dX12_bushels_43 (SX12_pack 111 (by decide) M4 0) (fun M6 => ?_)
      refine g_iconst (v := 0) (by decide) dX12_bushels_46 ?_
      refine g_istore_n (L' := [(3, .int 0), (0, .ref 87), (1, .int x1), (2, .int x2)]) (by decide) rfl rfl dX12_bushels_47 ?_
      refine g_iconst (v := 0) (by decide) dX12_bushels_48 ?_
      refine g_istore (L' := [(4, .int 0), (3, .int 0), (0, .ref 87), (1, .int x1), (2, .int x2)]) (by decide) rfl dX12_bushels_49 ?_
      exact GO.pick [2, 3, 4, 1, 0] rfl <| SX12_bushels_b51  FU M6 x1 x2 0 0
    · refine g_aload_n 0 rfl rfl dX12_bushels_31 ?_
      refine g_iconst (v := 2) (by decide) dX12_bushels_32 ?_
      refine g_callVI (y := miX12_fail) (As := [.int 2]) (rest := []) clX12 kd_87 rfl moX12_fail rfl mlX12_290 (by first | decide | omega) (by decide) (by simp [Value.category]) rfl dX12_bushels_33 (SX12_fail  M4 2) (fun M8 v9 => ?_)
      exact g_ireturn rfl (by decide) (by decide) dX12_bushels_36 rfl rfl
  · refine g_aload_n 0 rfl rfl dX12_bushels_13 ?_
    refine g_iconst (v := 1) (by decide) dX12_bushels_14 ?_
    refine g_callVI (y := miX12_fail) (As := [.int 1]) (rest := []) clX12 kd_87 rfl moX12_fail rfl mlX12_290 (by first | decide | omega) (by decide) (by simp [Value.category]) rfl dX12_bushels_15 (SX12_fail  M2 1) (fun M10 v11 => ?_)
    exact g_ireturn rfl (by decide) (by decide) dX12_bushels_18 rfl rfl
def fX12_free_b36 (rec9 : Mem → Int32 → Int32 → RS) (M : Mem) (x2 : Int32) (s0 : Int32) (s1 : Int32) : RS := rec9 M (s1 ||| s0) (x2 + 1)
theorem SX12_free_b36 (rec9 : Mem → Int32 → Int32 → RS) (hrec9 : ∀ (M : Mem) (x1 : Int32) (x2 : Int32), GO miX12_free (1) 0 0 0 0 9 [(0, .ref 87), (1, .int x1), (2, .int x2)] [] M (rec9 M x1 x2)) (M : Mem) (x2 : Int32) (s0 : Int32) (s1 : Int32) : GO miX12_free (1) 0 0 0 0 36 [(0, .ref 87), (2, .int x2)] [.int s0, .int s1] M (fX12_free_b36 rec9 M x2 s0 s1) := by
  show GO miX12_free (1) 0 0 0 0 36 [(0, .ref 87), (2, .int x2)] [.int s0, .int s1] M (rec9 M (s1 ||| s0) (x2 + 1))
  refine g_ior dX12_free_36 ?_
  refine g_istore_n (L' := [(1, .int (s1 ||| s0)), (0, .ref 87), (2, .int x2)]) (by decide) rfl rfl dX12_free_37 ?_
  refine g_iinc (v := x2 + 1) (L' := [(2, .int (x2 + 1)), (1, .int (s1 ||| s0)), (0, .ref 87)]) 2 rfl rfl (by decide) rfl dX12_free_38 ?_
  refine g_goto (tgt := 9) rfl dX12_free_41 ?_
  exact GO.pick [2, 1, 0] rfl <| hrec9 M (s1 ||| s0) (x2 + 1)
def fX12_free_b9 : Nat → Mem → Int32 → Int32 → RS
  | 0 => fun _ _ _ => none
  | n + 1 => fun M x1 x2 => if x2 < (gi M 90 1) then bI (fX12_ownerOf M x2) (fun M2 v3 => if v3 = (-1) then fX12_free_b36 (fX12_free_b9 n) M2 x2 ((1 : Int32) <<< (x2 &&& 31)) x1 else fX12_free_b36 (fX12_free_b9 n) M2 x2 0 x1) else some (M, .inr (some (.int x1)))
theorem SX12_free_b9 (n : Nat) : ∀ (M : Mem) (x1 : Int32) (x2 : Int32), GO miX12_free (1) 0 0 0 0 9 [(0, .ref 87), (1, .int x1), (2, .int x2)] [] M (fX12_free_b9 n M x1 x2) := by
  induction n with
  | zero => intro M x1 x2 ; exact GO.none
  | succ n hrec9 =>
    intro M x1 x2 
    show GO miX12_free (1) 0 0 0 0 9 [(0, .ref 87), (1, .int x1), (2, .int x2)] [] M (if x2 < (gi M 90 1) then bI (fX12_ownerOf M x2) (fun M2 v3 => if v3 = (-1) then fX12_free_b36 (fX12_free_b9 n) M2 x2 ((1 : Int32) <<< (x2 &&& 31)) x1 else fX12_free_b36 (fX12_free_b9 n) M2 x2 0 x1) else some (M, .inr (some (.int x1))))
    refine g_iload_n 2 rfl rfl dX12_free_9 ?_
    refine g_aload_n 0 rfl rfl dX12_free_10 ?_
    refine g_getR (k := 4) (b := 90) clX12 kd_87 (by decide) rfl rfl flX12_35 dX12_free_11 ?_
    refine g_iconst (v := 1) (by decide) dX12_free_14 ?_
    refine g_aldL (j := 1) kd_90 (by decide) (by decide) dX12_free_15 ?_
    refine g_icmp_ge (tgt := 44) rfl dX12_free_16 (fun c => ?_) (fun c => ?_)
    · refine g_iload_n 1 rfl rfl dX12_free_44 ?_
      exact g_ireturn rfl (by decide) (by decide) dX12_free_45 rfl rfl
    · refine g_iload_n 1 rfl rfl dX12_free_19 ?_
      refine g_aload_n 0 rfl rfl dX12_free_20 ?_
      refine g_iload_n 2 rfl rfl dX12_free_21 ?_
      refine g_callVI (y := miX12_ownerOf) (As := [.int x2]) (rest := [.int x1]) clX12 kd_87 rfl moX12_ownerOf rfl mlX12_359 (by first | decide | omega) (by decide) (by simp [Value.category]) rfl dX12_free_22 (SX12_ownerOf  M x2) (fun M2 v3 => ?_)
      refine g_iconst (v := (-1)) (by decide) dX12_free_25 ?_
      refine g_icmp_ne (tgt := 35) rfl dX12_free_26 (fun c => ?_) (fun c => ?_)
      · refine g_iconst (v := 0) (by decide) dX12_free_35 ?_
        exact GO.pick [0, 2] rfl <| SX12_free_b36  (fX12_free_b9 n) hrec9 M2 x2 0 x1
      · refine g_iconst (v := 1) (by decide) dX12_free_29 ?_
        refine g_iload_n 2 rfl rfl dX12_free_30 ?_
        refine g_ishl dX12_free_31 ?_
        refine g_goto (tgt := 36) rfl dX12_free_32 ?_
        exact GO.pick [0, 2] rfl <| SX12_free_b36  (fX12_free_b9 n) hrec9 M2 x2 ((1 : Int32) <<< (x2 &&& 31)) x1
def fX12_free (M : Mem)  : RS := wr (si M 87 3 0) (fun M1 => fX12_free_b9  FU M1 0 0)
theorem SX12_free (M : Mem)  : CTO (1) miX12_free 0 0 [.ref 87] M (fX12_free  M ) := by
  refine CTO.of (by decide) (by simp [lg_sl, Value.category]) ?_
  show GO miX12_free (1) 0 0 0 0 0 [(0, .ref 87)] [] M (wr (si M 87 3 0) (fun M1 => fX12_free_b9  FU M1 0 0))
  refine g_aload_n 0 rfl rfl dX12_free_0 ?_
  refine g_iconst (v := 0) (by decide) dX12_free_1 ?_
  refine g_putI (k := 3) clX12 kd_87 (by decide) rfl (by decide) rfl flX12_140 dX12_free_2 ?_
  refine GO.wr (fun M1 => ?_)
  refine g_iconst (v := 0) (by decide) dX12_free_5 ?_
  refine g_istore_n (L' := [(1, .int 0), (0, .ref 87)]) (by decide) rfl rfl dX12_free_6 ?_
  refine g_iconst (v := 0) (by decide) dX12_free_7 ?_
  refine g_istore_n (L' := [(2, .int 0), (1, .int 0), (0, .ref 87)]) (by decide) rfl rfl dX12_free_8 ?_
  exact GO.pick [2, 1, 0] rfl <| SX12_free_b9  FU M1 0 0
def fX12_richest_b74 (rec48 : Mem → Int32 → Int32 → RS) (M : Mem) (x2 : Int32) (x3 : Int32) : RS := rec48 M x2 (x3 + (-1))
theorem SX12_richest_b74 (rec48 : Mem → Int32 → Int32 → RS) (hrec48 : ∀ (M : Mem) (x2 : Int32) (x3 : Int32), GO miX12_richest (6) 0 0 0 0 48 [(0, .ref 87), (2, .int x2), (3, .int x3)] [] M (rec48 M x2 x3)) (M : Mem) (x2 : Int32) (x3 : Int32) : GO miX12_richest (6) 0 0 0 0 74 [(0, .ref 87), (2, .int x2), (3, .int x3)] [] M (fX12_richest_b74 rec48 M x2 x3) := by
  show GO miX12_richest (6) 0 0 0 0 74 [(0, .ref 87), (2, .int x2), (3, .int x3)] [] M (rec48 M x2 (x3 + (-1)))
  refine g_iinc (v := x3 + (-1)) (L' := [(3, .int (x3 + (-1))), (0, .ref 87), (2, .int x2)]) 2 rfl (congrArg _ (by decide)) (by decide) rfl dX12_richest_74 ?_
  refine g_goto (tgt := 48) rfl dX12_richest_77 ?_
  exact GO.pick [1, 2, 0] rfl <| hrec48 M x2 (x3 + (-1))
def fX12_richest_b72 (rec48 : Mem → Int32 → Int32 → RS) (M : Mem) (x3 : Int32) : RS := fX12_richest_b74 rec48 M x3 x3
theorem SX12_richest_b72 (rec48 : Mem → Int32 → Int32 → RS) (hrec48 : ∀ (M : Mem) (x2 : Int32) (x3 : Int32), GO miX12_richest (6) 0 0 0 0 48 [(0, .ref 87), (2, .int x2), (3, .int x3)] [] M (rec48 M x2 x3)) (M : Mem) (x3 : Int32) : GO miX12_richest (6) 0 0 0 0 72 [(0, .ref 87), (3, .int x3)] [] M (fX12_richest_b72 rec48 M x3) := by
  show GO miX12_richest (6) 0 0 0 0 72 [(0, .ref 87), (3, .int x3)] [] M (fX12_richest_b74 rec48 M x3 x3)
  refine g_iload_n 1 rfl rfl dX12_richest_72 ?_
  refine g_istore_n (L' := [(2, .int x3), (0, .ref 87), (3, .int x3)]) (by decide) rfl rfl dX12_richest_73 ?_
  exact GO.pick [1, 0, 2] rfl <| SX12_richest_b74  rec48 hrec48 M x3 x3
def fX12_richest_b48 : Nat → Mem → Int32 → Int32 → RS
  | 0 => fun _ _ _ => none
  | n + 1 => fun M x2 x3 => if x3 < 0 then bV (fX12_unpack 111 M 0) (fun M10 => some (M10, .inr (some (.int x2)))) else if x2 = (-1) then fX12_richest_b72 (fX12_richest_b48 n) M x3 else chk (inb x3 8) (chk (inb x2 8) (if (gi M 102 (ix x3)) < (gi M 102 (ix x2)) then fX12_richest_b74 (fX12_richest_b48 n) M x2 x3 else fX12_richest_b72 (fX12_richest_b48 n) M x3))
theorem SX12_richest_b48 (n : Nat) : ∀ (M : Mem) (x2 : Int32) (x3 : Int32), GO miX12_richest (6) 0 0 0 0 48 [(0, .ref 87), (2, .int x2), (3, .int x3)] [] M (fX12_richest_b48 n M x2 x3) := by
  induction n with
  | zero => intro M x2 x3 ; exact GO.none
  | succ n hrec48 =>
    intro M x2 x3 
    show GO miX12_richest (6) 0 0 0 0 48 [(0, .ref 87), (2, .int x2), (3, .int x3)] [] M (if x3 < 0 then bV (fX12_unpack 111 M 0) (fun M10 => some (M10, .inr (some (.int x2)))) else if x2 = (-1) then fX12_richest_b72 (fX12_richest_b48 n) M x3 else chk (inb x3 8) (chk (inb x2 8) (if (gi M 102 (ix x3)) < (gi M 102 (ix x2)) then fX12_richest_b74 (fX12_richest_b48 n) M x2 x3 else fX12_richest_b72 (fX12_richest_b48 n) M x3)))
    refine g_iload_n 2 rfl rfl dX12_richest_48 ?_
    refine g_if_lt (tgt := 80) rfl dX12_richest_49 (fun c => ?_) (fun c => ?_)
    · refine g_aload_n 0 rfl rfl dX12_richest_80 ?_
      refine g_aload_n 0 rfl rfl dX12_richest_81 ?_
      refine g_getR (k := 47) (b := 111) clX12 kd_87 (by decide) rfl rfl flX12_104 dX12_richest_82 ?_
      refine g_iconst (v := 0) (by decide) dX12_richest_85 ?_
      refine g_callVV (y := miX12_unpack) (As := [.ref 111, .int 0]) (rest := []) clX12 kd_87 rfl moX12_unpack rfl mlX12_420 (by first | decide | omega) (by decide) (by simp [Value.category]) rfl dX12_richest_86 (SX12_unpack 111 (by decide) M 0) (fun M10 => ?_)
      refine g_iload_n 1 rfl rfl dX12_richest_89 ?_
      exact g_ireturn rfl (by decide) (by decide) dX12_richest_90 rfl rfl
    · refine g_iload_n 1 rfl rfl dX12_richest_52 ?_
      refine g_iconst (v := (-1)) (by decide) dX12_richest_53 ?_
      refine g_icmp_eq (tgt := 72) rfl dX12_richest_54 (fun c => ?_) (fun c => ?_)
      · exact GO.pick [0, 2] rfl <| SX12_richest_b72  (fX12_richest_b48 n) hrec48 M x3
      · refine g_aload_n 0 rfl rfl dX12_richest_57 ?_
        refine g_getR (k := 27) (b := 102) clX12 kd_87 (by decide) rfl rfl flX12_73 dX12_richest_58 ?_
        refine g_iload_n 2 rfl rfl dX12_richest_61 ?_
        refine g_ald kd_102 dX12_richest_62 (fun hi12 => ?_)
        refine g_aload_n 0 rfl rfl dX12_richest_63 ?_
        refine g_getR (k := 27) (b := 102) clX12 kd_87 (by decide) rfl rfl flX12_73 dX12_richest_64 ?_
        refine g_iload_n 1 rfl rfl dX12_richest_67 ?_
        refine g_ald kd_102 dX12_richest_68 (fun hi13 => ?_)
        refine g_icmp_lt (tgt := 74) rfl dX12_richest_69 (fun c => ?_) (fun c => ?_)
        · exact GO.pick [0, 1, 2] rfl <| SX12_richest_b74  (fX12_richest_b48 n) hrec48 M x2 x3
        · exact GO.pick [0, 2] rfl <| SX12_richest_b72  (fX12_richest_b48 n) hrec48 M x3
def fX12_richest (M : Mem) (x1 : Int32) : RS := wr (si M 87 3 0) (fun M1 => bI (fX12_isIn M1 (Int32.toInt64 x1) 0 50) (fun M2 v3 => if v3 = 0 then bI (fX12_fail M2 1) (fun M8 v9 => some (M8, .inr (some (.int v9)))) else bV (fX12_pack 111 M2 0) (fun M4 => bV (fX12_goOn M4 x1) (fun M6 => fX12_richest_b48  FU M6 (-1) ((gi M6 90 0) - 1)))))
theorem SX12_richest (M : Mem) (x1 : Int32) : CTO (6) miX12_richest 0 0 [.ref 87, .int x1] M (fX12_richest  M x1) := by
  refine CTO.of (by decide) (by simp [lg_sl, Value.category]) ?_
  show GO miX12_richest (6) 0 0 0 0 0 [(0, .ref 87), (1, .int x1)] [] M (wr (si M 87 3 0) (fun M1 => bI (fX12_isIn M1 (Int32.toInt64 x1) 0 50) (fun M2 v3 => if v3 = 0 then bI (fX12_fail M2 1) (fun M8 v9 => some (M8, .inr (some (.int v9)))) else bV (fX12_pack 111 M2 0) (fun M4 => bV (fX12_goOn M4 x1) (fun M6 => fX12_richest_b48  FU M6 (-1) ((gi M6 90 0) - 1))))))
  refine g_aload_n 0 rfl rfl dX12_richest_0 ?_
  refine g_iconst (v := 0) (by decide) dX12_richest_1 ?_
  refine g_putI (k := 3) clX12 kd_87 (by decide) rfl (by decide) rfl flX12_140 dX12_richest_2 ?_
  refine GO.wr (fun M1 => ?_)
  refine g_iload_n 1 rfl rfl dX12_richest_5 ?_
  refine g_i2l dX12_richest_6 ?_
  refine g_lconst (v := 0) (by decide) dX12_richest_7 ?_
  refine g_ldc2 (v := 50) coX12_460 dX12_richest_8 ?_
  refine g_callSI (y := miX12_isIn) (As := [.long (Int32.toInt64 x1), .long 0, .long 50]) (rest := []) moX12_isIn rfl mlX12_143 (by first | decide | omega) (by decide) (by simp [Value.category]) rfl dX12_richest_11 (SX12_isIn  M1 (Int32.toInt64 x1) 0 50) (fun M2 v3 => ?_)
  refine g_if_ne (tgt := 23) rfl dX12_richest_14 (fun c => ?_) (fun c => ?_)
  · refine g_aload_n 0 rfl rfl dX12_richest_23 ?_
    refine g_aload_n 0 rfl rfl dX12_richest_24 ?_
    refine g_getR (k := 47) (b := 111) clX12 kd_87 (by decide) rfl rfl flX12_104 dX12_richest_25 ?_
    refine g_iconst (v := 0) (by decide) dX12_richest_28 ?_
    refine g_callVV (y := miX12_pack) (As := [.ref 111, .int 0]) (rest := []) clX12 kd_87 rfl moX12_pack rfl mlX12_387 (by first | decide | omega) (by decide) (by simp [Value.category]) rfl dX12_richest_29 (SX12_pack 111 (by decide) M2 0) (fun M4 => ?_)
    refine g_aload_n 0 rfl rfl dX12_richest_32 ?_
    refine g_iload_n 1 rfl rfl dX12_richest_33 ?_
    refine g_callVV (y := miX12_goOn) (As := [.int x1]) (rest := []) clX12 kd_87 rfl moX12_goOn rfl mlX12_417 (by first | decide | omega) (by decide) (by simp [Value.category]) rfl dX12_richest_34 (SX12_goOn  M4 x1) (fun M6 => ?_)
    refine g_iconst (v := (-1)) (by decide) dX12_richest_37 ?_
    refine g_istore_n (L' := [(2, .int (-1)), (0, .ref 87), (1, .int x1)]) (by decide) rfl rfl dX12_richest_38 ?_
    refine g_aload_n 1 rfl rfl dX12_richest_39 ?_
    refine g_getR (k := 4) (b := 90) clX12 kd_87 (by decide) rfl rfl flX12_35 dX12_richest_40 ?_
    refine g_iconst (v := 0) (by decide) dX12_richest_43 ?_
    refine g_aldL (j := 0) kd_90 (by decide) (by decide) dX12_richest_44 ?_
    refine g_iconst (v := 1) (by decide) dX12_richest_45 ?_
    refine g_isub dX12_richest_46 ?_
    refine g_istore_n (L' := [(3, .int ((gi M6 90 0) - 1)), (2, .int (-1)), (0, .ref 87), (1, .int x1)]) (by decide) rfl rfl dX12_richest_47 ?_
    exact GO.pick [2, 1, 0] rfl <| SX12_richest_b48  FU M6 (-1) ((gi M6 90 0) - 1)
  · refine g_aload_n 0 rfl rfl dX12_richest_17 ?_
    refine g_iconst (v := 1) (by decide) dX12_richest_18 ?_
    refine g_callVI (y := miX12_fail) (As := [.int 1]) (rest := []) clX12 kd_87 rfl moX12_fail rfl mlX12_290 (by first | decide | omega) (by decide) (by simp [Value.category]) rfl dX12_richest_19 (SX12_fail  M2 1) (fun M8 v9 => ?_)
    exact g_ireturn rfl (by decide) (by decide) dX12_richest_22 rfl rfl
def fX12_see_b52 (M : Mem)  : RS := bI (fX12_refuse M 2) (fun M17 v18 => some (M17, .inr (some (.int v18))))
theorem SX12_see_b52 (M : Mem)  : GO miX12_see (2) 0 0 0 0 52 [(0, .ref 87)] [] M (fX12_see_b52 M ) := by
  show GO miX12_see (2) 0 0 0 0 52 [(0, .ref 87)] [] M (bI (fX12_refuse M 2) (fun M17 v18 => some (M17, .inr (some (.int v18)))))
  refine g_aload_n 0 rfl rfl dX12_see_52 ?_
  refine g_iconst (v := 2) (by decide) dX12_see_53 ?_
  refine g_callVI (y := miX12_refuse) (As := [.int 2]) (rest := []) clX12 kd_87 rfl moX12_refuse rfl mlX12_404 (by first | decide | omega) (by decide) (by simp [Value.category]) rfl dX12_see_54 (SX12_refuse  M 2) (fun M17 v18 => ?_)
  exact g_ireturn rfl (by decide) (by decide) dX12_see_57 rfl rfl
def fX12_see (M : Mem) (x1 : Int32) (x2 : Int32) (x3 : Int32) : RS := wr (si M 87 3 0) (fun M1 => bI (fX12_isHouse M1 x1) (fun M2 v3 => if v3 = 0 then bI (fX12_fail M2 1) (fun M15 v16 => some (M15, .inr (some (.int v16)))) else if (gi M2 87 39) = 8 then fX12_see_b52  M2 else bI (fX12_isIn M2 (Int32.toInt64 x2) 0 99) (fun M4 v5 => if v5 = 0 then fX12_see_b52  M4 else bI (fX12_isIn M4 (Int32.toInt64 x3) 0 99) (fun M6 v7 => if v7 = 0 then fX12_see_b52  M6 else chk (inb (gi M6 87 39) 8) (wr (si M6 112 (ix (gi M6 87 39)) x1) (fun M9 => chk (inb (gi M9 87 39) 8) (wr (si M9 113 (ix (gi M9 87 39)) x2) (fun M11 => chk (inb (gi M11 87 39) 8) (wr (si M11 114 (ix (gi M11 87 39)) x3) (fun M13 => wr (si M13 87 39 ((gi M13 87 39) + 1)) (fun M14 => some (M14, .inr (some (.int (gi M14 87 39)))))))))))))))
theorem SX12_see (M : Mem) (x1 : Int32) (x2 : Int32) (x3 : Int32) : CTO (2) miX12_see 0 0 [.ref 87, .int x1, .int x2, .int x3] M (fX12_see  M x1 x2 x3) := by
  refine CTO.of (by decide) (by simp [lg_sl, Value.category]) ?_
  show GO miX12_see (2) 0 0 0 0 0 [(0, .ref 87), (1, .int x1), (2, .int x2), (3, .int x3)] [] M (wr (si M 87 3 0) (fun M1 => bI (fX12_isHouse M1 x1) (fun M2 v3 => if v3 = 0 then bI (fX12_fail M2 1) (fun M15 v16 => some (M15, .inr (some (.int v16)))) else if (gi M2 87 39) = 8 then fX12_see_b52  M2 else bI (fX12_isIn M2 (Int32.toInt64 x2) 0 99) (fun M4 v5 => if v5 = 0 then fX12_see_b52  M4 else bI (fX12_isIn M4 (Int32.toInt64 x3) 0 99) (fun M6 v7 => if v7 = 0 then fX12_see_b52  M6 else chk (inb (gi M6 87 39) 8) (wr (si M6 112 (ix (gi M6 87 39)) x1) (fun M9 => chk (inb (gi M9 87 39) 8) (wr (si M9 113 (ix (gi M9 87 39)) x2) (fun M11 => chk (inb (gi M11 87 39) 8) (wr (si M11 114 (ix (gi M11 87 39)) x3) (fun M13 => wr (si M13 87 39 ((gi M13 87 39) + 1)) (fun M14 => some (M14, .inr (some (.int (gi M14 87 39))))))))))))))))
  refine g_aload_n 0 rfl rfl dX12_see_0 ?_
  refine g_iconst (v := 0) (by decide) dX12_see_1 ?_
  refine g_putI (k := 3) clX12 kd_87 (by decide) rfl (by decide) rfl flX12_140 dX12_see_2 ?_
  refine GO.wr (fun M1 => ?_)
  refine g_aload_n 0 rfl rfl dX12_see_5 ?_
  refine g_iload_n 1 rfl rfl dX12_see_6 ?_
  refine g_callVI (y := miX12_isHouse) (As := [.int x1]) (rest := []) clX12 kd_87 rfl moX12_isHouse rfl mlX12_371 (by first | decide | omega) (by decide) (by simp [Value.category]) rfl dX12_see_7 (SX12_isHouse  M1 x1) (fun M2 v3 => ?_)
  refine g_if_ne (tgt := 19) rfl dX12_see_10 (fun c => ?_) (fun c => ?_)
  · refine g_aload_n 0 rfl rfl dX12_see_19 ?_
    refine g_getI (k := 39) clX12 kd_87 (by decide) rfl flX12_323 dX12_see_20 ?_
    refine g_bipush (v := 8) (by decide) dX12_see_23 ?_
    refine g_icmp_eq (tgt := 52) rfl dX12_see_25 (fun c => ?_) (fun c => ?_)
    · exact GO.pick [0] rfl <| SX12_see_b52  M2
    · refine g_iload_n 2 rfl rfl dX12_see_28 ?_
      refine g_i2l dX12_see_29 ?_
      refine g_lconst (v := 0) (by decide) dX12_see_30 ?_
      refine g_ldc2 (v := 99) coX12_462 dX12_see_31 ?_
      refine g_callSI (y := miX12_isIn) (As := [.long (Int32.toInt64 x2), .long 0, .long 99]) (rest := []) moX12_isIn rfl mlX12_143 (by first | decide | omega) (by decide) (by simp [Value.category]) rfl dX12_see_34 (SX12_isIn  M2 (Int32.toInt64 x2) 0 99) (fun M4 v5 => ?_)
      refine g_if_eq (tgt := 52) rfl dX12_see_37 (fun c => ?_) (fun c => ?_)
      · exact GO.pick [0] rfl <| SX12_see_b52  M4
      · refine g_iload_n 3 rfl rfl dX12_see_40 ?_
        refine g_i2l dX12_see_41 ?_
        refine g_lconst (v := 0) (by decide) dX12_see_42 ?_
        refine g_ldc2 (v := 99) coX12_462 dX12_see_43 ?_
        refine g_callSI (y := miX12_isIn) (As := [.long (Int32.toInt64 x3), .long 0, .long 99]) (rest := []) moX12_isIn rfl mlX12_143 (by first | decide | omega) (by decide) (by simp [Value.category]) rfl dX12_see_46 (SX12_isIn  M4 (Int32.toInt64 x3) 0 99) (fun M6 v7 => ?_)
        refine g_if_ne (tgt := 58) rfl dX12_see_49 (fun c => ?_) (fun c => ?_)
        · refine g_aload_n 0 rfl rfl dX12_see_58 ?_
          refine g_getR (k := 48) (b := 112) clX12 kd_87 (by decide) rfl rfl flX12_107 dX12_see_59 ?_
          refine g_aload_n 0 rfl rfl dX12_see_62 ?_
          refine g_getI (k := 39) clX12 kd_87 (by decide) rfl flX12_323 dX12_see_63 ?_
          refine g_iload_n 1 rfl rfl dX12_see_66 ?_
          refine g_ast kd_112 dX12_see_67 (fun hi8 => ?_)
          refine GO.wr (fun M9 => ?_)
          refine g_aload_n 0 rfl rfl dX12_see_68 ?_
          refine g_getR (k := 49) (b := 113) clX12 kd_87 (by decide) rfl rfl flX12_110 dX12_see_69 ?_
          refine g_aload_n 0 rfl rfl dX12_see_72 ?_
          refine g_getI (k := 39) clX12 kd_87 (by decide) rfl flX12_323 dX12_see_73 ?_
          refine g_iload_n 2 rfl rfl dX12_see_76 ?_
          refine g_ast kd_113 dX12_see_77 (fun hi10 => ?_)
          refine GO.wr (fun M11 => ?_)
          refine g_aload_n 0 rfl rfl dX12_see_78 ?_
          refine g_getR (k := 50) (b := 114) clX12 kd_87 (by decide) rfl rfl flX12_113 dX12_see_79 ?_
          refine g_aload_n 0 rfl rfl dX12_see_82 ?_
          refine g_getI (k := 39) clX12 kd_87 (by decide) rfl flX12_323 dX12_see_83 ?_
          refine g_iload_n 3 rfl rfl dX12_see_86 ?_
          refine g_ast kd_114 dX12_see_87 (fun hi12 => ?_)
          refine GO.wr (fun M13 => ?_)
          refine g_aload_n 0 rfl rfl dX12_see_88 ?_
          refine g_dup_ref dX12_see_89 ?_
          refine g_getI (k := 39) clX12 kd_87 (by decide) rfl flX12_323 dX12_see_90 ?_
          refine g_iconst (v := 1) (by decide) dX12_see_93 ?_
          refine g_iadd dX12_see_94 ?_
          refine g_putI (k := 39) clX12 kd_87 (by decide) rfl (by decide) rfl flX12_323 dX12_see_95 ?_
          refine GO.wr (fun M14 => ?_)
          refine g_aload_n 0 rfl rfl dX12_see_98 ?_
          refine g_getI (k := 39) clX12 kd_87 (by decide) rfl flX12_323 dX12_see_99 ?_
          exact g_ireturn rfl (by decide) (by decide) dX12_see_102 rfl rfl
        · exact GO.pick [0] rfl <| SX12_see_b52  M6
  · refine g_aload_n 0 rfl rfl dX12_see_13 ?_
    refine g_iconst (v := 1) (by decide) dX12_see_14 ?_
    refine g_callVI (y := miX12_fail) (As := [.int 1]) (rest := []) clX12 kd_87 rfl moX12_fail rfl mlX12_290 (by first | decide | omega) (by decide) (by simp [Value.category]) rfl dX12_see_15 (SX12_fail  M2 1) (fun M15 v16 => ?_)
    exact g_ireturn rfl (by decide) (by decide) dX12_see_18 rfl rfl
def fX12_isAsSeen_b51 (rec4 : Mem → Int32 → Int32 → Int32 → RS) (M : Mem) (x1 : Int32) (x3 : Int32) (s0 : Int32) : RS := rec4 M x1 s0 (x3 + 1)
theorem SX12_isAsSeen_b51 (rec4 : Mem → Int32 → Int32 → Int32 → RS) (hrec4 : ∀ (M : Mem) (x1 : Int32) (x2 : Int32) (x3 : Int32), GO miX12_isAsSeen (5) 0 0 0 0 4 [(0, .ref 87), (1, .int x1), (2, .int x2), (3, .int x3)] [] M (rec4 M x1 x2 x3)) (M : Mem) (x1 : Int32) (x3 : Int32) (s0 : Int32) : GO miX12_isAsSeen (5) 0 0 0 0 51 [(0, .ref 87), (1, .int x1), (3, .int x3)] [.int s0] M (fX12_isAsSeen_b51 rec4 M x1 x3 s0) := by
  show GO miX12_isAsSeen (5) 0 0 0 0 51 [(0, .ref 87), (1, .int x1), (3, .int x3)] [.int s0] M (rec4 M x1 s0 (x3 + 1))
  refine g_istore_n (L' := [(2, .int s0), (0, .ref 87), (1, .int x1), (3, .int x3)]) (by decide) rfl rfl dX12_isAsSeen_51 ?_
  refine g_iinc (v := x3 + 1) (L' := [(3, .int (x3 + 1)), (2, .int s0), (0, .ref 87), (1, .int x1)]) 3 rfl rfl (by decide) rfl dX12_isAsSeen_52 ?_
  refine g_goto (tgt := 4) rfl dX12_isAsSeen_55 ?_
  exact GO.pick [2, 3, 1, 0] rfl <| hrec4 M x1 s0 (x3 + 1)
def fX12_isAsSeen_b46 (rec4 : Mem → Int32 → Int32 → Int32 → RS) (M : Mem) (x1 : Int32) (x3 : Int32) : RS := fX12_isAsSeen_b51 rec4 M x1 x3 1
theorem SX12_isAsSeen_b46 (rec4 : Mem → Int32 → Int32 → Int32 → RS) (hrec4 : ∀ (M : Mem) (x1 : Int32) (x2 : Int32) (x3 : Int32), GO miX12_isAsSeen (5) 0 0 0 0 4 [(0, .ref 87), (1, .int x1), (2, .int x2), (3, .int x3)] [] M (rec4 M x1 x2 x3)) (M : Mem) (x1 : Int32) (x3 : Int32) : GO miX12_isAsSeen (5) 0 0 0 0 46 [(0, .ref 87), (1, .int x1), (3, .int x3)] [] M (fX12_isAsSeen_b46 rec4 M x1 x3) := by
  show GO miX12_isAsSeen (5) 0 0 0 0 46 [(0, .ref 87), (1, .int x1), (3, .int x3)] [] M (fX12_isAsSeen_b51 rec4 M x1 x3 1)
  refine g_iconst (v := 1) (by decide) dX12_isAsSeen_46 ?_
  refine g_goto (tgt := 51) rfl dX12_isAsSeen_47 ?_
  exact GO.pick [0, 1, 2] rfl <| SX12_isAsSeen_b51  rec4 hrec4 M x1 x3 1
def fX12_isAsSeen_b50 (rec4 : Mem → Int32 → Int32 → Int32 → RS) (M : Mem) (x1 : Int32) (x3 : Int32) : RS := fX12_isAsSeen_b51 rec4 M x1 x3 0
theorem SX12_isAsSeen_b50 (rec4 : Mem → Int32 → Int32 → Int32 → RS) (hrec4 : ∀ (M : Mem) (x1 : Int32) (x2 : Int32) (x3 : Int32), GO miX12_isAsSeen (5) 0 0 0 0 4 [(0, .ref 87), (1, .int x1), (2, .int x2), (3, .int x3)] [] M (rec4 M x1 x2 x3)) (M : Mem) (x1 : Int32) (x3 : Int32) : GO miX12_isAsSeen (5) 0 0 0 0 50 [(0, .ref 87), (1, .int x1), (3, .int x3)] [] M (fX12_isAsSeen_b50 rec4 M x1 x3) := by
  show GO miX12_isAsSeen (5) 0 0 0 0 50 [(0, .ref 87), (1, .int x1), (3, .int x3)] [] M (fX12_isAsSeen_b51 rec4 M x1 x3 0)
  refine g_iconst (v := 0) (by decide) dX12_isAsSeen_50 ?_
  exact GO.pick [0, 1, 2] rfl <| SX12_isAsSeen_b51  rec4 hrec4 M x1 x3 0
def fX12_isAsSeen_b4 : Nat → Mem → Int32 → Int32 → Int32 → RS
  | 0 => fun _ _ _ _ => none
  | n + 1 => fun M x1 x2 x3 => if x3 < (gi M 87 39) then if x2 = 0 then fX12_isAsSeen_b50 (fX12_isAsSeen_b4 n) M x1 x3 else chk (inb x3 8) (if (gi M 112 (ix x3)) = x1 then chk (inb x3 8) (bI (fX12_ownHarvest M x1 (gi M 113 (ix x3))) (fun M3 v4 => chk (inb x3 8) (if v4 = (gi M3 114 (ix x3)) then fX12_isAsSeen_b46 (fX12_isAsSeen_b4 n) M3 x1 x3 else fX12_isAsSeen_b50 (fX12_isAsSeen_b4 n) M3 x1 x3))) else fX12_isAsSeen_b46 (fX12_isAsSeen_b4 n) M x1 x3) else chk (isZ x2) (some (M, .inr (some (.int x2))))
theorem SX12_isAsSeen_b4 (n : Nat) : ∀ (M : Mem) (x1 : Int32) (x2 : Int32) (x3 : Int32), GO miX12_isAsSeen (5) 0 0 0 0 4 [(0, .ref 87), (1, .int x1), (2, .int x2), (3, .int x3)] [] M (fX12_isAsSeen_b4 n M x1 x2 x3) := by
  induction n with
  | zero => intro M x1 x2 x3 ; exact GO.none
  | succ n hrec4 =>
    intro M x1 x2 x3 
    show GO miX12_isAsSeen (5) 0 0 0 0 4 [(0, .ref 87), (1, .int x1), (2, .int x2), (3, .int x3)] [] M (if x3 < (gi M 87 39) then if x2 = 0 then fX12_isAsSeen_b50 (fX12_isAsSeen_b4 n) M x1 x3 else chk (inb x3 8) (if (gi M 112 (ix x3)) = x1 then chk (inb x3 8) (bI (fX12_ownHarvest M x1 (gi M 113 (ix x3))) (fun M3 v4 => chk (inb x3 8) (if v4 = (gi M3 114 (ix x3)) then fX12_isAsSeen_b46 (fX12_isAsSeen_b4 n) M3 x1 x3 else fX12_isAsSeen_b50 (fX12_isAsSeen_b4 n) M3 x1 x3))) else fX12_isAsSeen_b46 (fX12_isAsSeen_b4 n) M x1 x3) else chk (isZ x2) (some (M, .inr (some (.int x2)))))
    refine g_iload_n 3 rfl rfl dX12_isAsSeen_4 ?_
    refine g_aload_n 0 rfl rfl dX12_isAsSeen_5 ?_
    refine g_getI (k := 39) clX12 kd_87 (by decide) rfl flX12_323 dX12_isAsSeen_6 ?_
    refine g_icmp_ge (tgt := 58) rfl dX12_isAsSeen_9 (fun c => ?_) (fun c => ?_)
    · refine g_iload_n 2 rfl rfl dX12_isAsSeen_58 ?_
      refine GO.chk fun hz => ?_
      exact g_zreturn rfl (by decide) (by decide) dX12_isAsSeen_59 hz
    · refine g_iload_n 2 rfl rfl dX12_isAsSeen_12 ?_
      refine g_if_eq (tgt := 50) rfl dX12_isAsSeen_13 (fun c => ?_) (fun c => ?_)
      · exact GO.pick [0, 1, 3] rfl <| SX12_isAsSeen_b50  (fX12_isAsSeen_b4 n) hrec4 M x1 x3
      · refine g_aload_n 0 rfl rfl dX12_isAsSeen_16 ?_
        refine g_getR (k := 48) (b := 112) clX12 kd_87 (by decide) rfl rfl flX12_107 dX12_isAsSeen_17 ?_
        refine g_iload_n 3 rfl rfl dX12_isAsSeen_20 ?_
        refine g_ald kd_112 dX12_isAsSeen_21 (fun hi1 => ?_)
        refine g_iload_n 1 rfl rfl dX12_isAsSeen_22 ?_
        refine g_icmp_ne (tgt := 46) rfl dX12_isAsSeen_23 (fun c => ?_) (fun c => ?_)
        · exact GO.pick [0, 1, 3] rfl <| SX12_isAsSeen_b46  (fX12_isAsSeen_b4 n) hrec4 M x1 x3
        · refine g_aload_n 0 rfl rfl dX12_isAsSeen_26 ?_
          refine g_iload_n 1 rfl rfl dX12_isAsSeen_27 ?_
          refine g_aload_n 0 rfl rfl dX12_isAsSeen_28 ?_
          refine g_getR (k := 49) (b := 113) clX12 kd_87 (by decide) rfl rfl flX12_110 dX12_isAsSeen_29 ?_
          refine g_iload_n 3 rfl rfl dX12_isAsSeen_32 ?_
          refine g_ald kd_113 dX12_isAsSeen_33 (fun hi2 => ?_)
          refine g_callVI (y := miX12_ownHarvest) (As := [.int x1, .int (gi M 113 (ix x3))]) (rest := []) clX12 kd_87 rfl moX12_ownHarvest rfl mlX12_470 (by first | decide | omega) (by decide) (by simp [Value.category]) rfl dX12_isAsSeen_34 (SX12_ownHarvest  M x1 (gi M 113 (ix x3))) (fun M3 v4 => ?_)
          refine g_aload_n 0 rfl rfl dX12_isAsSeen_37 ?_
          refine g_getR (k := 50) (b := 114) clX12 kd_87 (by decide) rfl rfl flX12_113 dX12_isAsSeen_38 ?_
          refine g_iload_n 3 rfl rfl dX12_isAsSeen_41 ?_
          refine g_ald kd_114 dX12_isAsSeen_42 (fun hi5 => ?_)
          refine g_icmp_ne (tgt := 50) rfl dX12_isAsSeen_43 (fun c => ?_) (fun c => ?_)
          · exact GO.pick [0, 1, 3] rfl <| SX12_isAsSeen_b50  (fX12_isAsSeen_b4 n) hrec4 M3 x1 x3
          · exact GO.pick [0, 1, 3] rfl <| SX12_isAsSeen_b46  (fX12_isAsSeen_b4 n) hrec4 M3 x1 x3
def fX12_isAsSeen (M : Mem) (x1 : Int32) : RS := fX12_isAsSeen_b4  FU M x1 1 0
theorem SX12_isAsSeen (M : Mem) (x1 : Int32) : CTO (5) miX12_isAsSeen 0 0 [.ref 87, .int x1] M (fX12_isAsSeen  M x1) := by
  refine CTO.of (by decide) (by simp [lg_sl, Value.category]) ?_
  show GO miX12_isAsSeen (5) 0 0 0 0 0 [(0, .ref 87), (1, .int x1)] [] M (fX12_isAsSeen_b4  FU M x1 1 0)
  refine g_iconst (v := 1) (by decide) dX12_isAsSeen_0 ?_
  refine g_istore_n (L' := [(2, .int 1), (0, .ref 87), (1, .int x1)]) (by decide) rfl rfl dX12_isAsSeen_1 ?_
  refine g_iconst (v := 0) (by decide) dX12_isAsSeen_2 ?_
  refine g_istore_n (L' := [(3, .int 0), (2, .int 1), (0, .ref 87), (1, .int x1)]) (by decide) rfl rfl dX12_isAsSeen_3 ?_
  exact GO.pick [2, 3, 1, 0] rfl <| SX12_isAsSeen_b4  FU M x1 1 0
def fX12_brothers_b70 (rec14 : Mem → Int32 → Int32 → Int32 → RS) (M : Mem) (x2 : Int32) (x3 : Int32) (s0 : Int32) (s1 : Int32) : RS := wr (si M 87 35 x2) (fun M7 => rec14 M7 (s1 ||| s0) x2 (x3 + 1))
theorem SX12_brothers_b70 (rec14 : Mem → Int32 → Int32 → Int32 → RS) (hrec14 : ∀ (M : Mem) (x1 : Int32) (x2 : Int32) (x3 : Int32), GO miX12_brothers (6) 0 0 0 0 14 [(0, .ref 87), (1, .int x1), (2, .int x2), (3, .int x3)] [] M (rec14 M x1 x2 x3)) (M : Mem) (x2 : Int32) (x3 : Int32) (s0 : Int32) (s1 : Int32) : GO miX12_brothers (6) 0 0 0 0 70 [(0, .ref 87), (2, .int x2), (3, .int x3)] [.int s0, .int s1] M (fX12_brothers_b70 rec14 M x2 x3 s0 s1) := by
  show GO miX12_brothers (6) 0 0 0 0 70 [(0, .ref 87), (2, .int x2), (3, .int x3)] [.int s0, .int s1] M (wr (si M 87 35 x2) (fun M7 => rec14 M7 (s1 ||| s0) x2 (x3 + 1)))
  refine g_ior dX12_brothers_70 ?_
  refine g_istore_n (L' := [(1, .int (s1 ||| s0)), (0, .ref 87), (2, .int x2), (3, .int x3)]) (by decide) rfl rfl dX12_brothers_71 ?_
  refine g_aload_n 1 rfl rfl dX12_brothers_72 ?_
  refine g_iload_n 2 rfl rfl dX12_brothers_73 ?_
  refine g_putI (k := 35) clX12 kd_87 (by decide) rfl (by decide) rfl flX12_314 dX12_brothers_74 ?_
  refine GO.wr (fun M7 => ?_)
  refine g_iinc (v := x3 + 1) (L' := [(3, .int (x3 + 1)), (1, .int (s1 ||| s0)), (0, .ref 87), (2, .int x2)]) 3 rfl rfl (by decide) rfl dX12_brothers_77 ?_
  refine g_goto (tgt := 14) rfl dX12_brothers_80 ?_
  exact GO.pick [2, 1, 3, 0] rfl <| hrec14 M7 (s1 ||| s0) x2 (x3 + 1)
def fX12_brothers_b43 (rec14 : Mem → Int32 → Int32 → Int32 → RS) (M : Mem) (x2 : Int32) (x3 : Int32) (s0 : Int32) (s1 : Int32) : RS := wr (si M 87 35 (x2 ^^^ ((1 : Int32) <<< (x3 &&& 31)))) (fun M4 => bI (fX12_isAsSeen M4 x3) (fun M5 v6 => if v6 = 0 then fX12_brothers_b70 rec14 M5 x2 x3 0 (s1 ||| s0) else fX12_brothers_b70 rec14 M5 x2 x3 ((1 : Int32) <<< (x3 &&& 31)) (s1 ||| s0)))
theorem SX12_brothers_b43 (rec14 : Mem → Int32 → Int32 → Int32 → RS) (hrec14 : ∀ (M : Mem) (x1 : Int32) (x2 : Int32) (x3 : Int32), GO miX12_brothers (6) 0 0 0 0 14 [(0, .ref 87), (1, .int x1), (2, .int x2), (3, .int x3)] [] M (rec14 M x1 x2 x3)) (M : Mem) (x2 : Int32) (x3 : Int32) (s0 : Int32) (s1 : Int32) : GO miX12_brothers (6) 0 0 0 0 43 [(0, .ref 87), (2, .int x2), (3, .int x3)] [.int s0, .int s1] M (fX12_brothers_b43 rec14 M x2 x3 s0 s1) := by
  show GO miX12_brothers (6) 0 0 0 0 43 [(0, .ref 87), (2, .int x2), (3, .int x3)] [.int s0, .int s1] M (wr (si M 87 35 (x2 ^^^ ((1 : Int32) <<< (x3 &&& 31)))) (fun M4 => bI (fX12_isAsSeen M4 x3) (fun M5 v6 => if v6 = 0 then fX12_brothers_b70 rec14 M5 x2 x3 0 (s1 ||| s0) else fX12_brothers_b70 rec14 M5 x2 x3 ((1 : Int32) <<< (x3 &&& 31)) (s1 ||| s0))))
  refine g_ior dX12_brothers_43 ?_
  refine g_istore_n (L' := [(1, .int (s1 ||| s0)), (0, .ref 87), (2, .int x2), (3, .int x3)]) (by decide) rfl rfl dX12_brothers_44 ?_
  refine g_aload_n 1 rfl rfl dX12_brothers_45 ?_
  refine g_iload_n 2 rfl rfl dX12_brothers_46 ?_
  refine g_iconst (v := 1) (by decide) dX12_brothers_47 ?_
  refine g_iload_n 3 rfl rfl dX12_brothers_48 ?_
  refine g_ishl dX12_brothers_49 ?_
  refine g_ixor dX12_brothers_50 ?_
  refine g_putI (k := 35) clX12 kd_87 (by decide) rfl (by decide) rfl flX12_314 dX12_brothers_51 ?_
  refine GO.wr (fun M4 => ?_)
  refine g_iload_n 0 rfl rfl dX12_brothers_54 ?_
  refine g_aload_n 1 rfl rfl dX12_brothers_55 ?_
  refine g_iload_n 3 rfl rfl dX12_brothers_56 ?_
  refine g_callVI (y := miX12_isAsSeen) (As := [.int x3]) (rest := [.int (s1 ||| s0)]) clX12 kd_87 rfl moX12_isAsSeen rfl mlX12_473 (by first | decide | omega) (by decide) (by simp [Value.category]) rfl dX12_brothers_57 (SX12_isAsSeen  M4 x3) (fun M5 v6 => ?_)
  refine g_if_eq (tgt := 69) rfl dX12_brothers_60 (fun c => ?_) (fun c => ?_)
  · refine g_iconst (v := 0) (by decide) dX12_brothers_69 ?_
    exact GO.pick [1, 2, 3] rfl <| SX12_brothers_b70  rec14 hrec14 M5 x2 x3 0 (s1 ||| s0)
  · refine g_iconst (v := 1) (by decide) dX12_brothers_63 ?_
    refine g_iload_n 3 rfl rfl dX12_brothers_64 ?_
    refine g_ishl dX12_brothers_65 ?_
    refine g_goto (tgt := 70) rfl dX12_brothers_66 ?_
    exact GO.pick [1, 2, 3] rfl <| SX12_brothers_b70  rec14 hrec14 M5 x2 x3 ((1 : Int32) <<< (x3 &&& 31)) (s1 ||| s0)
def fX12_brothers_b14 : Nat → Mem → Int32 → Int32 → Int32 → RS
  | 0 => fun _ _ _ _ => none
  | n + 1 => fun M x1 x2 x3 => if x3 < (gi M 90 0) then bI (fX12_isAsSeen M x3) (fun M2 v3 => if v3 = 0 then fX12_brothers_b43 (fX12_brothers_b14 n) M2 x2 x3 0 x1 else fX12_brothers_b43 (fX12_brothers_b14 n) M2 x2 x3 ((1 : Int32) <<< ((8 + x3) &&& 31)) x1) else some (M, .inr (some (.int x1)))
theorem SX12_brothers_b14 (n : Nat) : ∀ (M : Mem) (x1 : Int32) (x2 : Int32) (x3 : Int32), GO miX12_brothers (6) 0 0 0 0 14 [(0, .ref 87), (1, .int x1), (2, .int x2), (3, .int x3)] [] M (fX12_brothers_b14 n M x1 x2 x3) := by
  induction n with
  | zero => intro M x1 x2 x3 ; exact GO.none
  | succ n hrec14 =>
    intro M x1 x2 x3 
    show GO miX12_brothers (6) 0 0 0 0 14 [(0, .ref 87), (1, .int x1), (2, .int x2), (3, .int x3)] [] M (if x3 < (gi M 90 0) then bI (fX12_isAsSeen M x3) (fun M2 v3 => if v3 = 0 then fX12_brothers_b43 (fX12_brothers_b14 n) M2 x2 x3 0 x1 else fX12_brothers_b43 (fX12_brothers_b14 n) M2 x2 x3 ((1 : Int32) <<< ((8 + x3) &&& 31)) x1) else some (M, .inr (some (.int x1))))
    refine g_iload_n 3 rfl rfl dX12_brothers_14 ?_
    refine g_aload_n 0 rfl rfl dX12_brothers_15 ?_
    refine g_getR (k := 4) (b := 90) clX12 kd_87 (by decide) rfl rfl flX12_35 dX12_brothers_16 ?_
    refine g_iconst (v := 0) (by decide) dX12_brothers_19 ?_
    refine g_aldL (j := 0) kd_90 (by decide) (by decide) dX12_brothers_20 ?_
    refine g_icmp_ge (tgt := 83) rfl dX12_brothers_21 (fun c => ?_) (fun c => ?_)
    · refine g_iload_n 1 rfl rfl dX12_brothers_83 ?_
      exact g_ireturn rfl (by decide) (by decide) dX12_brothers_84 rfl rfl
    · refine g_iload_n 1 rfl rfl dX12_brothers_24 ?_
      refine g_aload_n 0 rfl rfl dX12_brothers_25 ?_
      refine g_iload_n 3 rfl rfl dX12_brothers_26 ?_
      refine g_callVI (y := miX12_isAsSeen) (As := [.int x3]) (rest := [.int x1]) clX12 kd_87 rfl moX12_isAsSeen rfl mlX12_473 (by first | decide | omega) (by decide) (by simp [Value.category]) rfl dX12_brothers_27 (SX12_isAsSeen  M x3) (fun M2 v3 => ?_)
      refine g_if_eq (tgt := 42) rfl dX12_brothers_30 (fun c => ?_) (fun c => ?_)
      · refine g_iconst (v := 0) (by decide) dX12_brothers_42 ?_
        exact GO.pick [0, 2, 3] rfl <| SX12_brothers_b43  (fX12_brothers_b14 n) hrec14 M2 x2 x3 0 x1
      · refine g_iconst (v := 1) (by decide) dX12_brothers_33 ?_
        refine g_bipush (v := 8) (by decide) dX12_brothers_34 ?_
        refine g_iload_n 3 rfl rfl dX12_brothers_36 ?_
        refine g_iadd dX12_brothers_37 ?_
        refine g_ishl dX12_brothers_38 ?_
        refine g_goto (tgt := 43) rfl dX12_brothers_39 ?_
        exact GO.pick [0, 2, 3] rfl <| SX12_brothers_b43  (fX12_brothers_b14 n) hrec14 M2 x2 x3 ((1 : Int32) <<< ((8 + x3) &&& 31)) x1
def fX12_brothers (M : Mem)  : RS := wr (si M 87 3 0) (fun M1 => fX12_brothers_b14  FU M1 0 (gi M1 87 35) 0)
theorem SX12_brothers (M : Mem)  : CTO (6) miX12_brothers 0 0 [.ref 87] M (fX12_brothers  M ) := by
  refine CTO.of (by decide) (by simp [lg_sl, Value.category]) ?_
  show GO miX12_brothers (6) 0 0 0 0 0 [(0, .ref 87)] [] M (wr (si M 87 3 0) (fun M1 => fX12_brothers_b14  FU M1 0 (gi M1 87 35) 0))
  refine g_aload_n 0 rfl rfl dX12_brothers_0 ?_
  refine g_iconst (v := 0) (by decide) dX12_brothers_1 ?_
  refine g_putI (k := 3) clX12 kd_87 (by decide) rfl (by decide) rfl flX12_140 dX12_brothers_2 ?_
  refine GO.wr (fun M1 => ?_)
  refine g_iconst (v := 0) (by decide) dX12_brothers_5 ?_
  refine g_istore_n (L' := [(1, .int 0), (0, .ref 87)]) (by decide) rfl rfl dX12_brothers_6 ?_
  refine g_aload_n 1 rfl rfl dX12_brothers_7 ?_
  refine g_getI (k := 35) clX12 kd_87 (by decide) rfl flX12_314 dX12_brothers_8 ?_
  refine g_istore_n (L' := [(2, .int (gi M1 87 35)), (1, .int 0), (0, .ref 87)]) (by decide) rfl rfl dX12_brothers_11 ?_
  refine g_iconst (v := 0) (by decide) dX12_brothers_12 ?_
  refine g_istore_n (L' := [(3, .int 0), (2, .int (gi M1 87 35)), (1, .int 0), (0, .ref 87)]) (by decide) rfl rfl dX12_brothers_13 ?_
  exact GO.pick [3, 2, 1, 0] rfl <| SX12_brothers_b14  FU M1 0 (gi M1 87 35) 0

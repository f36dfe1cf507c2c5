def fX11_tithes (M : Mem) (x1 : Int32) : RS := bV (fX11_needWithin M x1 0 50) (fun M1 => bV (fX11_foresee M1 x1) (fun M3 => some (M3, .inr (some (.int ((gi M3 62 5) - (gi M3 39 5)))))))
theorem SX11_tithes (M : Mem) (x1 : Int32) : CTO (7) miX11_tithes 1 6 [.ref 0, .int x1] M (fX11_tithes  M x1) := by
  refine CTO.of (by decide) (by simp [lg_sl, Value.category]) ?_
  show GO miX11_tithes (7) 1 6 0 0 0 [(0, .ref 0), (1, .int x1)] [] M (bV (fX11_needWithin M x1 0 50) (fun M1 => bV (fX11_foresee M1 x1) (fun M3 => some (M3, .inr (some (.int ((gi M3 62 5) - (gi M3 39 5))))))))
  refine g_aload_n 0 rfl rfl dX11_tithes_0 ?_
  refine g_iload_n 1 rfl rfl dX11_tithes_1 ?_
  refine g_iconst (v := 0) (by decide) dX11_tithes_2 ?_
  refine g_bipush (v := 50) (by decide) dX11_tithes_3 ?_
  refine g_callVV (y := miX11_needWithin) (As := [.int x1, .int 0, .int 50]) (rest := []) clX11 kd_0 rfl moX11_needWithin rfl mlX11_206 (by first | decide | omega) (by decide) (by simp [Value.category]) rfl dX11_tithes_5 (SX11_needWithin  M x1 0 50) (fun M1 => ?_)
  refine g_aload_n 0 rfl rfl dX11_tithes_8 ?_
  refine g_iload_n 1 rfl rfl dX11_tithes_9 ?_
  refine g_callVV (y := miX11_foresee) (As := [.int x1]) (rest := []) clX11 kd_0 rfl moX11_foresee rfl mlX11_310 (by first | decide | omega) (by decide) (by simp [Value.category]) rfl dX11_tithes_10 (SX11_foresee  M1 x1) (fun M3 => ?_)
  refine g_aload_n 0 rfl rfl dX11_tithes_13 ?_
  refine g_getR (k := 5) (b := 62) clX11 kd_0 (by decide) rfl rfl flX11_52 dX11_tithes_14 ?_
  refine g_getI (k := 5) clX8 kd_62 (by decide) rfl flX11_129 dX11_tithes_17 ?_
  refine g_aload_n 0 rfl rfl dX11_tithes_20 ?_
  refine g_getR (k := 3) (b := 38) clX11 kd_0 (by decide) rfl rfl flX11_42 dX11_tithes_21 ?_
  refine g_getR (k := 0) (b := 39) clX0 kd_38 (by decide) rfl rfl flX11_96 dX11_tithes_24 ?_
  refine g_getI (k := 5) clX8 kd_39 (by decide) rfl flX11_129 dX11_tithes_27 ?_
  refine g_isub dX11_tithes_30 ?_
  exact g_ireturn rfl (by decide) (by decide) dX11_tithes_31 rfl rfl
def fX11_holdsOut_b16 : Nat → Mem → Int32 → RS
  | 0 => fun _ _ => none
  | n + 1 => fun M x1 => if 50 < x1 then some (M, .inr (some (.int (-1)))) else bV (fX3_passYears 62 M 1) (fun M3 => if (gi M3 62 1) = (gi M3 39 1) then (fX11_holdsOut_b16 n) M3 (x1 + 1) else some (M3, .inr (some (.int x1))))
theorem SX11_holdsOut_b16 (n : Nat) : ∀ (M : Mem) (x1 : Int32), GO miX11_holdsOut (6) 0 0 0 0 16 [(0, .ref 0), (1, .int x1)] [] M (fX11_holdsOut_b16 n M x1) := by
  induction n with
  | zero => intro M x1 ; exact GO.none
  | succ n hrec16 =>
    intro M x1 
    show GO miX11_holdsOut (6) 0 0 0 0 16 [(0, .ref 0), (1, .int x1)] [] M (if 50 < x1 then some (M, .inr (some (.int (-1)))) else bV (fX3_passYears 62 M 1) (fun M3 => if (gi M3 62 1) = (gi M3 39 1) then (fX11_holdsOut_b16 n) M3 (x1 + 1) else some (M3, .inr (some (.int x1)))))
    refine g_iload_n 1 rfl rfl dX11_holdsOut_16 ?_
    refine g_bipush (v := 50) (by decide) dX11_holdsOut_17 ?_
    refine g_icmp_gt (tgt := 62) rfl dX11_holdsOut_19 (fun c => ?_) (fun c => ?_)
    · refine g_iconst (v := (-1)) (by decide) dX11_holdsOut_62 ?_
      exact g_ireturn rfl (by decide) (by decide) dX11_holdsOut_63 rfl rfl
    · refine g_aload_n 0 rfl rfl dX11_holdsOut_22 ?_
      refine g_getR (k := 2) (b := 22) clX11 kd_0 (by decide) rfl rfl flX11_35 dX11_holdsOut_23 ?_
      refine g_aload_n 0 rfl rfl dX11_holdsOut_26 ?_
      refine g_getR (k := 5) (b := 62) clX11 kd_0 (by decide) rfl rfl flX11_52 dX11_holdsOut_27 ?_
      refine g_iconst (v := 1) (by decide) dX11_holdsOut_30 ?_
      refine g_callVV (y := miX3_passYears) (As := [.ref 62, .int 1]) (rest := []) clX3 kd_22 rfl moX3_passYears rfl mlX11_240 (by first | decide | omega) (by decide) (by simp [Value.category]) rfl dX11_holdsOut_31 (SX3_passYears 62 (by decide) M 1) (fun M3 => ?_)
      refine g_aload_n 0 rfl rfl dX11_holdsOut_34 ?_
      refine g_getR (k := 5) (b := 62) clX11 kd_0 (by decide) rfl rfl flX11_52 dX11_holdsOut_35 ?_
      refine g_getI (k := 1) clX8 kd_62 (by decide) rfl flX11_126 dX11_holdsOut_38 ?_
      refine g_aload_n 0 rfl rfl dX11_holdsOut_41 ?_
      refine g_getR (k := 3) (b := 38) clX11 kd_0 (by decide) rfl rfl flX11_42 dX11_holdsOut_42 ?_
      refine g_getR (k := 0) (b := 39) clX0 kd_38 (by decide) rfl rfl flX11_96 dX11_holdsOut_45 ?_
      refine g_getI (k := 1) clX8 kd_39 (by decide) rfl flX11_126 dX11_holdsOut_48 ?_
      refine g_icmp_eq (tgt := 56) rfl dX11_holdsOut_51 (fun c => ?_) (fun c => ?_)
      · refine g_iinc (v := x1 + 1) (L' := [(1, .int (x1 + 1)), (0, .ref 0)]) 1 rfl rfl (by decide) rfl dX11_holdsOut_56 ?_
        refine g_goto (tgt := 16) rfl dX11_holdsOut_59 ?_
        exact GO.pick [1, 0] rfl <| hrec16 M3 (x1 + 1)
      · refine g_iload_n 1 rfl rfl dX11_holdsOut_54 ?_
        exact g_ireturn rfl (by decide) (by decide) dX11_holdsOut_55 rfl rfl
def fX11_holdsOut (M : Mem)  : RS := bV (fX8_copyFrom 62 39 M) (fun M1 => fX11_holdsOut_b16  FU M1 1)
theorem SX11_holdsOut (M : Mem)  : CTO (6) miX11_holdsOut 0 0 [.ref 0] M (fX11_holdsOut  M ) := by
  refine CTO.of (by decide) (by simp [lg_sl, Value.category]) ?_
  show GO miX11_holdsOut (6) 0 0 0 0 0 [(0, .ref 0)] [] M (bV (fX8_copyFrom 62 39 M) (fun M1 => fX11_holdsOut_b16  FU M1 1))
  refine g_aload_n 0 rfl rfl dX11_holdsOut_0 ?_
  refine g_getR (k := 5) (b := 62) clX11 kd_0 (by decide) rfl rfl flX11_52 dX11_holdsOut_1 ?_
  refine g_aload_n 0 rfl rfl dX11_holdsOut_4 ?_
  refine g_getR (k := 3) (b := 38) clX11 kd_0 (by decide) rfl rfl flX11_42 dX11_holdsOut_5 ?_
  refine g_getR (k := 0) (b := 39) clX0 kd_38 (by decide) rfl rfl flX11_96 dX11_holdsOut_8 ?_
  refine g_callVV (y := miX8_copyFrom) (As := [.ref 39]) (rest := []) clX8 kd_62 rfl moX8_copyFrom rfl mlX11_299 (by first | decide | omega) (by decide) (by simp [Value.category]) rfl dX11_holdsOut_11 (SX8_copyFrom 62 39 (by decide) (by decide) M) (fun M1 => ?_)
  refine g_iconst (v := 1) (by decide) dX11_holdsOut_14 ?_
  refine g_istore_n (L' := [(1, .int 1), (0, .ref 0)]) (by decide) rfl rfl dX11_holdsOut_15 ?_
  exact GO.pick [1, 0] rfl <| SX11_holdsOut_b16  FU M1 1
def fX11_famine (M : Mem) (x1 : Int32) : RS := bV (fX11_needWithin M x1 0 50) (fun M1 => bV (fX11_foresee M1 x1) (fun M3 => bI (fJ6_bitCount_0f7a4 M3 (gi M3 62 1)) (fun M5 v6 => some (M5, .inr (some (.int v6))))))
theorem SX11_famine (M : Mem) (x1 : Int32) : CTO (7) miX11_famine 1 6 [.ref 0, .int x1] M (fX11_famine  M x1) := by
  refine CTO.of (by decide) (by simp [lg_sl, Value.category]) ?_
  show GO miX11_famine (7) 1 6 0 0 0 [(0, .ref 0), (1, .int x1)] [] M (bV (fX11_needWithin M x1 0 50) (fun M1 => bV (fX11_foresee M1 x1) (fun M3 => bI (fJ6_bitCount_0f7a4 M3 (gi M3 62 1)) (fun M5 v6 => some (M5, .inr (some (.int v6)))))))
  refine g_aload_n 0 rfl rfl dX11_famine_0 ?_
  refine g_iload_n 1 rfl rfl dX11_famine_1 ?_
  refine g_iconst (v := 0) (by decide) dX11_famine_2 ?_
  refine g_bipush (v := 50) (by decide) dX11_famine_3 ?_
  refine g_callVV (y := miX11_needWithin) (As := [.int x1, .int 0, .int 50]) (rest := []) clX11 kd_0 rfl moX11_needWithin rfl mlX11_206 (by first | decide | omega) (by decide) (by simp [Value.category]) rfl dX11_famine_5 (SX11_needWithin  M x1 0 50) (fun M1 => ?_)
  refine g_aload_n 0 rfl rfl dX11_famine_8 ?_
  refine g_iload_n 1 rfl rfl dX11_famine_9 ?_
  refine g_callVV (y := miX11_foresee) (As := [.int x1]) (rest := []) clX11 kd_0 rfl moX11_foresee rfl mlX11_310 (by first | decide | omega) (by decide) (by simp [Value.category]) rfl dX11_famine_10 (SX11_foresee  M1 x1) (fun M3 => ?_)
  refine g_aload_n 0 rfl rfl dX11_famine_13 ?_
  refine g_getR (k := 5) (b := 62) clX11 kd_0 (by decide) rfl rfl flX11_52 dX11_famine_14 ?_
  refine g_getI (k := 1) clX8 kd_62 (by decide) rfl flX11_126 dX11_famine_17 ?_
  refine g_callSI (y := miJ6_bitCount_0f7a4) (As := [.int (gi M3 62 1)]) (rest := []) moJ6_bitCount_0f7a4 rfl mlX11_317 (by first | decide | omega) (by decide) (by simp [Value.category]) rfl dX11_famine_20 (SJ6_bitCount_0f7a4  M3 (gi M3 62 1)) (fun M5 v6 => ?_)
  exact g_ireturn rfl (by decide) (by decide) dX11_famine_23 rfl rfl
def fX11_bushels_b32 : Nat → Mem → Int32 → Int32 → Int32 → Int32 → RS
  | 0 => fun _ _ _ _ _ => none
  | n + 1 => fun M x1 x2 x3 x4 => if x4 < x2 then bI (fX8_isGone 62 M x1) (fun M7 v8 => if v8 = 0 then bI (fX3_cropOnShare 62 M7 x1) (fun M9 v10 => bV (fX3_passYears 62 M9 1) (fun M11 => (fX11_bushels_b32 n) M11 x1 x2 (x3 + v10) (x4 + 1))) else some (M7, .inr (some (.int x3)))) else some (M, .inr (some (.int x3)))
theorem SX11_bushels_b32 (n : Nat) : ∀ (M : Mem) (x1 : Int32) (x2 : Int32) (x3 : Int32) (x4 : Int32), GO miX11_bushels (7) 2 12 2 12 32 [(0, .ref 0), (1, .int x1), (2, .int x2), (3, .int x3), (4, .int x4)] [] M (fX11_bushels_b32 n M x1 x2 x3 x4) := by
  induction n with
  | zero => intro M x1 x2 x3 x4 ; exact GO.none
  | succ n hrec32 =>
    intro M x1 x2 x3 x4 
    show GO miX11_bushels (7) 2 12 2 12 32 [(0, .ref 0), (1, .int x1), (2, .int x2), (3, .int x3), (4, .int x4)] [] M (if x4 < x2 then bI (fX8_isGone 62 M x1) (fun M7 v8 => if v8 = 0 then bI (fX3_cropOnShare 62 M7 x1) (fun M9 v10 => bV (fX3_passYears 62 M9 1) (fun M11 => (fX11_bushels_b32 n) M11 x1 x2 (x3 + v10) (x4 + 1))) else some (M7, .inr (some (.int x3)))) else some (M, .inr (some (.int x3))))
    refine g_iload 4 rfl dX11_bushels_32 ?_
    refine g_iload_n 2 rfl rfl dX11_bushels_34 ?_
    refine g_icmp_ge (tgt := 82) rfl dX11_bushels_35 (fun c => ?_) (fun c => ?_)
    · refine g_iload_n 3 rfl rfl dX11_bushels_82 ?_
      exact g_ireturn rfl (by decide) (by decide) dX11_bushels_83 rfl rfl
    · refine g_aload_n 0 rfl rfl dX11_bushels_38 ?_
      refine g_getR (k := 5) (b := 62) clX11 kd_0 (by decide) rfl rfl flX11_52 dX11_bushels_39 ?_
      refine g_iload_n 1 rfl rfl dX11_bushels_42 ?_
      refine g_callVI (y := miX8_isGone) (As := [.int x1]) (rest := []) clX8 kd_62 rfl moX8_isGone rfl mlX11_313 (by first | decide | omega) (by decide) (by simp [Value.category]) rfl dX11_bushels_43 (SX8_isGone 62 (by decide) M x1) (fun M7 v8 => ?_)
      refine g_if_ne (tgt := 82) rfl dX11_bushels_46 (fun c => ?_) (fun c => ?_)
      · refine g_iload_n 3 rfl rfl dX11_bushels_82 ?_
        exact g_ireturn rfl (by decide) (by decide) dX11_bushels_83 rfl rfl
      · refine g_iload_n 3 rfl rfl dX11_bushels_49 ?_
        refine g_aload_n 0 rfl rfl dX11_bushels_50 ?_
        refine g_getR (k := 2) (b := 22) clX11 kd_0 (by decide) rfl rfl flX11_35 dX11_bushels_51 ?_
        refine g_aload_n 0 rfl rfl dX11_bushels_54 ?_
        refine g_getR (k := 5) (b := 62) clX11 kd_0 (by decide) rfl rfl flX11_52 dX11_bushels_55 ?_
        refine g_iload_n 1 rfl rfl dX11_bushels_58 ?_
        refine g_callVI (y := miX3_cropOnShare) (As := [.ref 62, .int x1]) (rest := [.int x3]) clX3 kd_22 rfl moX3_cropOnShare rfl mlX11_320 (by first | decide | omega) (by decide) (by simp [Value.category]) rfl dX11_bushels_59 (SX3_cropOnShare 62 (by decide) M7 x1) (fun M9 v10 => ?_)
        refine g_iadd dX11_bushels_62 ?_
        refine g_istore_n (L' := [(3, .int (x3 + v10)), (0, .ref 0), (1, .int x1), (2, .int x2), (4, .int x4)]) (by decide) rfl rfl dX11_bushels_63 ?_
        refine g_aload_n 1 rfl rfl dX11_bushels_64 ?_
        refine g_getR (k := 2) (b := 22) clX11 kd_0 (by decide) rfl rfl flX11_35 dX11_bushels_65 ?_
        refine g_aload_n 1 rfl rfl dX11_bushels_68 ?_
        refine g_getR (k := 5) (b := 62) clX11 kd_0 (by decide) rfl rfl flX11_52 dX11_bushels_69 ?_
        refine g_iconst (v := 1) (by decide) dX11_bushels_72 ?_
        refine g_callVV (y := miX3_passYears) (As := [.ref 62, .int 1]) (rest := []) clX3 kd_22 rfl moX3_passYears rfl mlX11_240 (by first | decide | omega) (by decide) (by simp [Value.category]) rfl dX11_bushels_73 (SX3_passYears 62 (by decide) M9 1) (fun M11 => ?_)
        refine g_iinc (v := x4 + 1) (L' := [(4, .int (x4 + 1)), (3, .int (x3 + v10)), (0, .ref 0), (1, .int x1), (2, .int x2)]) 4 rfl rfl (by decide) rfl dX11_bushels_76 ?_
        refine g_goto (tgt := 32) rfl dX11_bushels_79 ?_
        exact GO.pick [2, 3, 4, 1, 0] rfl <| hrec32 M11 x1 x2 (x3 + v10) (x4 + 1)
def fX11_bushels (M : Mem) (x1 : Int32) (x2 : Int32) : RS := bV (fX11_needHouse M x1) (fun M1 => bV (fX11_needWithin M1 x2 0 50) (fun M3 => bV (fX8_copyFrom 62 39 M3) (fun M5 => fX11_bushels_b32  FU M5 x1 x2 0 0)))
theorem SX11_bushels (M : Mem) (x1 : Int32) (x2 : Int32) : CTO (7) miX11_bushels 2 12 [.ref 0, .int x1, .int x2] M (fX11_bushels  M x1 x2) := by
  refine CTO.of (by decide) (by simp [lg_sl, Value.category]) ?_
  show GO miX11_bushels (7) 2 12 0 0 0 [(0, .ref 0), (1, .int x1), (2, .int x2)] [] M (bV (fX11_needHouse M x1) (fun M1 => bV (fX11_needWithin M1 x2 0 50) (fun M3 => bV (fX8_copyFrom 62 39 M3) (fun M5 => fX11_bushels_b32  FU M5 x1 x2 0 0))))
  refine g_aload_n 0 rfl rfl dX11_bushels_0 ?_
  refine g_iload_n 1 rfl rfl dX11_bushels_1 ?_
  refine g_callVV (y := miX11_needHouse) (As := [.int x1]) (rest := []) clX11 kd_0 rfl moX11_needHouse rfl mlX11_157 (by first | decide | omega) (by decide) (by simp [Value.category]) rfl dX11_bushels_2 (SX11_needHouse  M x1) (fun M1 => ?_)
  refine g_aload_n 0 rfl rfl dX11_bushels_5 ?_
  refine g_iload_n 2 rfl rfl dX11_bushels_6 ?_
  refine g_iconst (v := 0) (by decide) dX11_bushels_7 ?_
  refine g_bipush (v := 50) (by decide) dX11_bushels_8 ?_
  refine g_callVV (y := miX11_needWithin) (As := [.int x2, .int 0, .int 50]) (rest := []) clX11 kd_0 rfl moX11_needWithin rfl mlX11_206 (by first | decide | omega) (by decide) (by simp [Value.category]) rfl dX11_bushels_10 (SX11_needWithin  M1 x2 0 50) (fun M3 => ?_)
  refine g_aload_n 0 rfl rfl dX11_bushels_13 ?_
  refine g_getR (k := 5) (b := 62) clX11 kd_0 (by decide) rfl rfl flX11_52 dX11_bushels_14 ?_
  refine g_aload_n 0 rfl rfl dX11_bushels_17 ?_
  refine g_getR (k := 3) (b := 38) clX11 kd_0 (by decide) rfl rfl flX11_42 dX11_bushels_18 ?_
  refine g_getR (k := 0) (b := 39) clX0 kd_38 (by decide) rfl rfl flX11_96 dX11_bushels_21 ?_
  refine g_callVV (y := miX8_copyFrom) (As := [.ref 39]) (rest := []) clX8 kd_62 rfl moX8_copyFrom rfl mlX11_299 (by first | decide | omega) (by decide) (by simp [Value.category]) rfl dX11_bushels_24 (SX8_copyFrom 62 39 (by decide) (by decide) M3) (fun M5 => ?_)
  refine g_iconst (v := 0) (by decide) dX11_bushels_27 ?_
  refine g_istore_n (L' := [(3, .int 0), (0, .ref 0), (1, .int x1), (2, .int x2)]) (by decide) rfl rfl dX11_bushels_28 ?_
  refine g_iconst (v := 0) (by decide) dX11_bushels_29 ?_
  refine g_istore (L' := [(4, .int 0), (3, .int 0), (0, .ref 0), (1, .int x1), (2, .int x2)]) (by decide) rfl dX11_bushels_30 ?_
  exact GO.pick [2, 3, 4, 1, 0] rfl <| SX11_bushels_b32  FU M5 x1 x2 0 0
def fX11_richest_b63 (rec20 : Mem → Int32 → Int32 → Int32 → RS) (M : Mem) (x2 : Int32) (x3 : Int32) (x4 : Int32) : RS := rec20 M x2 x3 (x4 + 1)
theorem SX11_richest_b63 (rec20 : Mem → Int32 → Int32 → Int32 → RS) (hrec20 : ∀ (M : Mem) (x2 : Int32) (x3 : Int32) (x4 : Int32), GO miX11_richest (7) 1 6 1 6 20 [(0, .ref 0), (2, .int x2), (3, .int x3), (4, .int x4)] [] M (rec20 M x2 x3 x4)) (M : Mem) (x2 : Int32) (x3 : Int32) (x4 : Int32) : GO miX11_richest (7) 1 6 1 6 63 [(0, .ref 0), (2, .int x2), (3, .int x3), (4, .int x4)] [] M (fX11_richest_b63 rec20 M x2 x3 x4) := by
  show GO miX11_richest (7) 1 6 1 6 63 [(0, .ref 0), (2, .int x2), (3, .int x3), (4, .int x4)] [] M (rec20 M x2 x3 (x4 + 1))
  refine g_iinc (v := x4 + 1) (L' := [(4, .int (x4 + 1)), (0, .ref 0), (2, .int x2), (3, .int x3)]) 3 rfl rfl (by decide) rfl dX11_richest_63 ?_
  refine g_goto (tgt := 20) rfl dX11_richest_66 ?_
  exact GO.pick [1, 2, 3, 0] rfl <| hrec20 M x2 x3 (x4 + 1)
def fX11_richest_b20 : Nat → Mem → Int32 → Int32 → Int32 → RS
  | 0 => fun _ _ _ _ => none
  | n + 1 => fun M x2 x3 x4 => if x4 < (gi M (isA (gb M 0)) 9) then chk (inb x4 8) (if x3 < (gi M 65 (ix x4)) then chk (inb x4 8) (fX11_richest_b63 (fX11_richest_b20 n) M x4 (gi M 65 (ix x4)) x4) else fX11_richest_b63 (fX11_richest_b20 n) M x2 x3 x4) else some (M, .inr (some (.int x2)))
theorem SX11_richest_b20 (n : Nat) : ∀ (M : Mem) (x2 : Int32) (x3 : Int32) (x4 : Int32), GO miX11_richest (7) 1 6 1 6 20 [(0, .ref 0), (2, .int x2), (3, .int x3), (4, .int x4)] [] M (fX11_richest_b20 n M x2 x3 x4) := by
  induction n with
  | zero => intro M x2 x3 x4 ; exact GO.none
  | succ n hrec20 =>
    intro M x2 x3 x4 
    show GO miX11_richest (7) 1 6 1 6 20 [(0, .ref 0), (2, .int x2), (3, .int x3), (4, .int x4)] [] M (if x4 < (gi M (isA (gb M 0)) 9) then chk (inb x4 8) (if x3 < (gi M 65 (ix x4)) then chk (inb x4 8) (fX11_richest_b63 (fX11_richest_b20 n) M x4 (gi M 65 (ix x4)) x4) else fX11_richest_b63 (fX11_richest_b20 n) M x2 x3 x4) else some (M, .inr (some (.int x2))))
    refine g_iload 3 rfl dX11_richest_20 ?_
    refine g_aload_n 0 rfl rfl dX11_richest_22 ?_
    refine g_getR (k := 2) (b := 22) clX11 kd_0 (by decide) rfl rfl flX11_35 dX11_richest_23 ?_
    refine g_getR (k := 1) (b := (isA (gb M 0))) clX3 kd_22 (by decide) rfl rfl flX11_89 dX11_richest_26 ?_
    refine g_getI (k := 9) clX2 (kv_d3_24_0 _ (isA_dom _)) (by decide) rfl flX11_106 dX11_richest_29 ?_
    refine g_icmp_ge (tgt := 69) rfl dX11_richest_32 (fun c => ?_) (fun c => ?_)
    · refine g_iload_n 1 rfl rfl dX11_richest_69 ?_
      exact g_ireturn rfl (by decide) (by decide) dX11_richest_70 rfl rfl
    · refine g_aload_n 0 rfl rfl dX11_richest_35 ?_
      refine g_getR (k := 5) (b := 62) clX11 kd_0 (by decide) rfl rfl flX11_52 dX11_richest_36 ?_
      refine g_getR (k := 9) (b := 65) clX8 kd_62 (by decide) rfl rfl flX11_175 dX11_richest_39 ?_
      refine g_iload 3 rfl dX11_richest_42 ?_
      refine g_ald kd_65 dX11_richest_44 (fun hi5 => ?_)
      refine g_iload_n 2 rfl rfl dX11_richest_45 ?_
      refine g_icmp_le (tgt := 63) rfl dX11_richest_46 (fun c => ?_) (fun c => ?_)
      · exact GO.pick [0, 1, 2, 3] rfl <| SX11_richest_b63  (fX11_richest_b20 n) hrec20 M x2 x3 x4
      · refine g_aload_n 0 rfl rfl dX11_richest_49 ?_
        refine g_getR (k := 5) (b := 62) clX11 kd_0 (by decide) rfl rfl flX11_52 dX11_richest_50 ?_
        refine g_getR (k := 9) (b := 65) clX8 kd_62 (by decide) rfl rfl flX11_175 dX11_richest_53 ?_
        refine g_iload 3 rfl dX11_richest_56 ?_
        refine g_ald kd_65 dX11_richest_58 (fun hi6 => ?_)
        refine g_istore_n (L' := [(3, .int (gi M 65 (ix x4))), (0, .ref 0), (2, .int x2), (4, .int x4)]) (by decide) rfl rfl dX11_richest_59 ?_
        refine g_iload 3 rfl dX11_richest_60 ?_
        refine g_istore_n (L' := [(2, .int x4), (3, .int (gi M 65 (ix x4))), (0, .ref 0), (4, .int x4)]) (by decide) rfl rfl dX11_richest_62 ?_
        exact GO.pick [2, 0, 1, 3] rfl <| SX11_richest_b63  (fX11_richest_b20 n) hrec20 M x4 (gi M 65 (ix x4)) x4
def fX11_richest (M : Mem) (x1 : Int32) : RS := bV (fX11_needWithin M x1 0 50) (fun M1 => bV (fX11_foresee M1 x1) (fun M3 => fX11_richest_b20  FU M3 (-1) (-1) 0))
theorem SX11_richest (M : Mem) (x1 : Int32) : CTO (7) miX11_richest 1 6 [.ref 0, .int x1] M (fX11_richest  M x1) := by
  refine CTO.of (by decide) (by simp [lg_sl, Value.category]) ?_
  show GO miX11_richest (7) 1 6 0 0 0 [(0, .ref 0), (1, .int x1)] [] M (bV (fX11_needWithin M x1 0 50) (fun M1 => bV (fX11_foresee M1 x1) (fun M3 => fX11_richest_b20  FU M3 (-1) (-1) 0)))
  refine g_aload_n 0 rfl rfl dX11_richest_0 ?_
  refine g_iload_n 1 rfl rfl dX11_richest_1 ?_
  refine g_iconst (v := 0) (by decide) dX11_richest_2 ?_
  refine g_bipush (v := 50) (by decide) dX11_richest_3 ?_
  refine g_callVV (y := miX11_needWithin) (As := [.int x1, .int 0, .int 50]) (rest := []) clX11 kd_0 rfl moX11_needWithin rfl mlX11_206 (by first | decide | omega) (by decide) (by simp [Value.category]) rfl dX11_richest_5 (SX11_needWithin  M x1 0 50) (fun M1 => ?_)
  refine g_aload_n 0 rfl rfl dX11_richest_8 ?_
  refine g_iload_n 1 rfl rfl dX11_richest_9 ?_
  refine g_callVV (y := miX11_foresee) (As := [.int x1]) (rest := []) clX11 kd_0 rfl moX11_foresee rfl mlX11_310 (by first | decide | omega) (by decide) (by simp [Value.category]) rfl dX11_richest_10 (SX11_foresee  M1 x1) (fun M3 => ?_)
  refine g_iconst (v := (-1)) (by decide) dX11_richest_13 ?_
  refine g_istore_n (L' := [(2, .int (-1)), (0, .ref 0), (1, .int x1)]) (by decide) rfl rfl dX11_richest_14 ?_
  refine g_iconst (v := (-1)) (by decide) dX11_richest_15 ?_
  refine g_istore_n (L' := [(3, .int (-1)), (2, .int (-1)), (0, .ref 0), (1, .int x1)]) (by decide) rfl rfl dX11_richest_16 ?_
  refine g_iconst (v := 0) (by decide) dX11_richest_17 ?_
  refine g_istore (L' := [(4, .int 0), (3, .int (-1)), (2, .int (-1)), (0, .ref 0), (1, .int x1)]) (by decide) rfl dX11_richest_18 ?_
  exact GO.pick [3, 2, 1, 0] rfl <| SX11_richest_b20  FU M3 (-1) (-1) 0
def fX8_allStores_b4 : Nat → Mem → Int32 → Int32 → RS
  | 0 => fun _ _ _ => none
  | n + 1 => fun M x1 x2 => if x2 < 8 then chk (inb x2 8) ((fX8_allStores_b4 n) M (x1 + (gi M 65 (ix x2))) (x2 + 1)) else some (M, .inr (some (.int x1)))
theorem SX8_allStores_b4 (n : Nat) : ∀ (M : Mem) (x1 : Int32) (x2 : Int32), GO miX8_allStores (0) 0 0 0 0 4 [(0, .ref 62), (1, .int x1), (2, .int x2)] [] M (fX8_allStores_b4 n M x1 x2) := by
  induction n with
  | zero => intro M x1 x2 ; exact GO.none
  | succ n hrec4 =>
    intro M x1 x2 
    show GO miX8_allStores (0) 0 0 0 0 4 [(0, .ref 62), (1, .int x1), (2, .int x2)] [] M (if x2 < 8 then chk (inb x2 8) ((fX8_allStores_b4 n) M (x1 + (gi M 65 (ix x2))) (x2 + 1)) else some (M, .inr (some (.int x1))))
    refine g_iload_n 2 rfl rfl dX8_allStores_4 ?_
    refine g_bipush (v := 8) (by decide) dX8_allStores_5 ?_
    refine g_icmp_ge (tgt := 25) rfl dX8_allStores_7 (fun c => ?_) (fun c => ?_)
    · refine g_iload_n 1 rfl rfl dX8_allStores_25 ?_
      exact g_ireturn rfl (by decide) (by decide) dX8_allStores_26 rfl rfl
    · refine g_iload_n 1 rfl rfl dX8_allStores_10 ?_
      refine g_aload_n 0 rfl rfl dX8_allStores_11 ?_
      refine g_getR (k := 9) (b := 65) clX8 kd_62 (by decide) rfl rfl flX8_25 dX8_allStores_12 ?_
      refine g_iload_n 2 rfl rfl dX8_allStores_15 ?_
      refine g_ald kd_65 dX8_allStores_16 (fun hi1 => ?_)
      refine g_iadd dX8_allStores_17 ?_
      refine g_istore_n (L' := [(1, .int (x1 + (gi M 65 (ix x2)))), (0, .ref 62), (2, .int x2)]) (by decide) rfl rfl dX8_allStores_18 ?_
      refine g_iinc (v := x2 + 1) (L' := [(2, .int (x2 + 1)), (1, .int (x1 + (gi M 65 (ix x2)))), (0, .ref 62)]) 2 rfl rfl (by decide) rfl dX8_allStores_19 ?_
      refine g_goto (tgt := 4) rfl dX8_allStores_22 ?_
      exact GO.pick [2, 1, 0] rfl <| hrec4 M (x1 + (gi M 65 (ix x2))) (x2 + 1)
def fX8_allStores (M : Mem)  : RS := fX8_allStores_b4  FU M 0 0
theorem SX8_allStores (M : Mem)  : CTO (0) miX8_allStores 0 0 [.ref 62] M (fX8_allStores  M ) := by
  refine CTO.of (by decide) (by simp [lg_sl, Value.category]) ?_
  show GO miX8_allStores (0) 0 0 0 0 0 [(0, .ref 62)] [] M (fX8_allStores_b4  FU M 0 0)
  refine g_iconst (v := 0) (by decide) dX8_allStores_0 ?_
  refine g_istore_n (L' := [(1, .int 0), (0, .ref 62)]) (by decide) rfl rfl dX8_allStores_1 ?_
  refine g_iconst (v := 0) (by decide) dX8_allStores_2 ?_
  refine g_istore_n (L' := [(2, .int 0), (1, .int 0), (0, .ref 62)]) (by decide) rfl rfl dX8_allStores_3 ?_
  exact GO.pick [2, 1, 0] rfl <| SX8_allStores_b4  FU M 0 0
def fX11_change_b110 (rec26 : Mem → Int32 → Int32 → Int32 → Int32 → RS) (M : Mem) (x1 : Int32) (x2 : Int32) (x3 : Int32) (x4 : Int32) : RS := rec26 M x1 x2 x3 (x4 + 1)
theorem SX11_change_b110 (rec26 : Mem → Int32 → Int32 → Int32 → Int32 → RS) (hrec26 : ∀ (M : Mem) (x1 : Int32) (x2 : Int32) (x3 : Int32) (x4 : Int32), GO miX11_change (7) 1 6 1 6 26 [(0, .ref 0), (1, .int x1), (2, .int x2), (3, .int x3), (4, .int x4)] [] M (rec26 M x1 x2 x3 x4)) (M : Mem) (x1 : Int32) (x2 : Int32) (x3 : Int32) (x4 : Int32) : GO miX11_change (7) 1 6 1 6 110 [(0, .ref 0), (1, .int x1), (2, .int x2), (3, .int x3), (4, .int x4)] [] M (fX11_change_b110 rec26 M x1 x2 x3 x4) := by
  show GO miX11_change (7) 1 6 1 6 110 [(0, .ref 0), (1, .int x1), (2, .int x2), (3, .int x3), (4, .int x4)] [] M (rec26 M x1 x2 x3 (x4 + 1))
  refine g_iinc (v := x4 + 1) (L' := [(4, .int (x4 + 1)), (0, .ref 0), (1, .int x1), (2, .int x2), (3, .int x3)]) 4 rfl rfl (by decide) rfl dX11_change_110 ?_
  refine g_goto (tgt := 26) rfl dX11_change_113 ?_
  exact GO.pick [1, 2, 3, 4, 0] rfl <| hrec26 M x1 x2 x3 (x4 + 1)
def fX11_change_b26 : Nat → Mem → Int32 → Int32 → Int32 → Int32 → RS
  | 0 => fun _ _ _ _ _ => none
  | n + 1 => fun M x1 x2 x3 x4 => if x4 < (gi M (isA (gb M 0)) 9) then bV (fX8_copyFrom 62 39 M) (fun M7 => bV (fX8_turnLot 62 M7 x4) (fun M9 => bV (fX3_takeShares 62 M9 (-1)) (fun M11 => bV (fX3_passYears 62 M11 x1) (fun M13 => bI (fX8_allStores M13) (fun M15 v16 => if x2 < v16 then bI (fX8_allStores M15) (fun M17 v18 => fX11_change_b110 (fX11_change_b26 n) M17 x1 v18 x4 x4) else fX11_change_b110 (fX11_change_b26 n) M15 x1 x2 x3 x4))))) else some (M, .inr (some (.int x3)))
theorem SX11_change_b26 (n : Nat) : ∀ (M : Mem) (x1 : Int32) (x2 : Int32) (x3 : Int32) (x4 : Int32), GO miX11_change (7) 1 6 1 6 26 [(0, .ref 0), (1, .int x1), (2, .int x2), (3, .int x3), (4, .int x4)] [] M (fX11_change_b26 n M x1 x2 x3 x4) := by
  induction n with
  | zero => intro M x1 x2 x3 x4 ; exact GO.none
  | succ n hrec26 =>
    intro M x1 x2 x3 x4 
    show GO miX11_change (7) 1 6 1 6 26 [(0, .ref 0), (1, .int x1), (2, .int x2), (3, .int x3), (4, .int x4)] [] M (if x4 < (gi M (isA (gb M 0)) 9) then bV (fX8_copyFrom 62 39 M) (fun M7 => bV (fX8_turnLot 62 M7 x4) (fun M9 => bV (fX3_takeShares 62 M9 (-1)) (fun M11 => bV (fX3_passYears 62 M11 x1) (fun M13 => bI (fX8_allStores M13) (fun M15 v16 => if x2 < v16 then bI (fX8_allStores M15) (fun M17 v18 => fX11_change_b110 (fX11_change_b26 n) M17 x1 v18 x4 x4) else fX11_change_b110 (fX11_change_b26 n) M15 x1 x2 x3 x4))))) else some (M, .inr (some (.int x3))))
    refine g_iload 4 rfl dX11_change_26 ?_
    refine g_aload_n 0 rfl rfl dX11_change_28 ?_
    refine g_getR (k := 2) (b := 22) clX11 kd_0 (by decide) rfl rfl flX11_35 dX11_change_29 ?_
    refine g_getR (k := 1) (b := (isA (gb M 0))) clX3 kd_22 (by decide) rfl rfl flX11_89 dX11_change_32 ?_
    refine g_getI (k := 9) clX2 (kv_d3_24_0 _ (isA_dom _)) (by decide) rfl flX11_106 dX11_change_35 ?_
    refine g_icmp_ge (tgt := 116) rfl dX11_change_38 (fun c => ?_) (fun c => ?_)
    · refine g_iload_n 3 rfl rfl dX11_change_116 ?_
      exact g_ireturn rfl (by decide) (by decide) dX11_change_117 rfl rfl
    · refine g_aload_n 0 rfl rfl dX11_change_41 ?_
      refine g_getR (k := 5) (b := 62) clX11 kd_0 (by decide) rfl rfl flX11_52 dX11_change_42 ?_
      refine g_aload_n 0 rfl rfl dX11_change_45 ?_
      refine g_getR (k := 3) (b := 38) clX11 kd_0 (by decide) rfl rfl flX11_42 dX11_change_46 ?_
      refine g_getR (k := 0) (b := 39) clX0 kd_38 (by decide) rfl rfl flX11_96 dX11_change_49 ?_
      refine g_callVV (y := miX8_copyFrom) (As := [.ref 39]) (rest := []) clX8 kd_62 rfl moX8_copyFrom rfl mlX11_299 (by first | decide | omega) (by decide) (by simp [Value.category]) rfl dX11_change_52 (SX8_copyFrom 62 39 (by decide) (by decide) M) (fun M7 => ?_)
      refine g_aload_n 0 rfl rfl dX11_change_55 ?_
      refine g_getR (k := 5) (b := 62) clX11 kd_0 (by decide) rfl rfl flX11_52 dX11_change_56 ?_
      refine g_iload 4 rfl dX11_change_59 ?_
      refine g_callVV (y := miX8_turnLot) (As := [.int x4]) (rest := []) clX8 kd_62 rfl moX8_turnLot rfl mlX11_230 (by first | decide | omega) (by decide) (by simp [Value.category]) rfl dX11_change_61 (SX8_turnLot 62 (by decide) M7 x4) (fun M9 => ?_)
      refine g_aload_n 0 rfl rfl dX11_change_64 ?_
      refine g_getR (k := 2) (b := 22) clX11 kd_0 (by decide) rfl rfl flX11_35 dX11_change_65 ?_
      refine g_aload_n 0 rfl rfl dX11_change_68 ?_
      refine g_getR (k := 5) (b := 62) clX11 kd_0 (by decide) rfl rfl flX11_52 dX11_change_69 ?_
      refine g_iconst (v := (-1)) (by decide) dX11_change_72 ?_
      refine g_callVV (y := miX3_takeShares) (As := [.ref 62, .int (-1)]) (rest := []) clX3 kd_22 rfl moX3_takeShares rfl mlX11_99 (by first | decide | omega) (by decide) (by simp [Value.category]) rfl dX11_change_73 (SX3_takeShares 62 (by decide) M9 (-1)) (fun M11 => ?_)
      refine g_aload_n 0 rfl rfl dX11_change_76 ?_
      refine g_getR (k := 2) (b := 22) clX11 kd_0 (by decide) rfl rfl flX11_35 dX11_change_77 ?_
      refine g_aload_n 0 rfl rfl dX11_change_80 ?_
      refine g_getR (k := 5) (b := 62) clX11 kd_0 (by decide) rfl rfl flX11_52 dX11_change_81 ?_
      refine g_iload_n 1 rfl rfl dX11_change_84 ?_
      refine g_callVV (y := miX3_passYears) (As := [.ref 62, .int x1]) (rest := []) clX3 kd_22 rfl moX3_passYears rfl mlX11_240 (by first | decide | omega) (by decide) (by simp [Value.category]) rfl dX11_change_85 (SX3_passYears 62 (by decide) M11 x1) (fun M13 => ?_)
      refine g_aload_n 0 rfl rfl dX11_change_88 ?_
      refine g_getR (k := 5) (b := 62) clX11 kd_0 (by decide) rfl rfl flX11_52 dX11_change_89 ?_
      refine g_callVI (y := miX8_allStores) (As := []) (rest := []) clX8 kd_62 rfl moX8_allStores rfl mlX11_323 (by first | decide | omega) (by decide) (by simp [Value.category]) rfl dX11_change_92 (SX8_allStores  M13) (fun M15 v16 => ?_)
      refine g_iload_n 2 rfl rfl dX11_change_95 ?_
      refine g_icmp_le (tgt := 110) rfl dX11_change_96 (fun c => ?_) (fun c => ?_)
      · exact GO.pick [0, 1, 2, 3, 4] rfl <| SX11_change_b110  (fX11_change_b26 n) hrec26 M15 x1 x2 x3 x4
      · refine g_aload_n 0 rfl rfl dX11_change_99 ?_
        refine g_getR (k := 5) (b := 62) clX11 kd_0 (by decide) rfl rfl flX11_52 dX11_change_100 ?_
        refine g_callVI (y := miX8_allStores) (As := []) (rest := []) clX8 kd_62 rfl moX8_allStores rfl mlX11_323 (by first | decide | omega) (by decide) (by simp [Value.category]) rfl dX11_change_103 (SX8_allStores  M15) (fun M17 v18 => ?_)
        refine g_istore_n (L' := [(2, .int v18), (0, .ref 0), (1, .int x1), (3, .int x3), (4, .int x4)]) (by decide) rfl rfl dX11_change_106 ?_
        refine g_iload 4 rfl dX11_change_107 ?_
        refine g_istore_n (L' := [(3, .int x4), (2, .int v18), (0, .ref 0), (1, .int x1), (4, .int x4)]) (by decide) rfl rfl dX11_change_109 ?_
        exact GO.pick [2, 3, 1, 0, 4] rfl <| SX11_change_b110  (fX11_change_b26 n) hrec26 M17 x1 v18 x4 x4
def fX11_change (M : Mem) (x1 : Int32) : RS := bV (fX11_needWithin M x1 1 20) (fun M1 => bV (fX11_foresee M1 x1) (fun M3 => bI (fX8_allStores M3) (fun M5 v6 => fX11_change_b26  FU M5 x1 v6 (-1) 0)))
theorem SX11_change (M : Mem) (x1 : Int32) : CTO (7) miX11_change 1 6 [.ref 0, .int x1] M (fX11_change  M x1) := by
  refine CTO.of (by decide) (by simp [lg_sl, Value.category]) ?_
  show GO miX11_change (7) 1 6 0 0 0 [(0, .ref 0), (1, .int x1)] [] M (bV (fX11_needWithin M x1 1 20) (fun M1 => bV (fX11_foresee M1 x1) (fun M3 => bI (fX8_allStores M3) (fun M5 v6 => fX11_change_b26  FU M5 x1 v6 (-1) 0))))
  refine g_aload_n 0 rfl rfl dX11_change_0 ?_
  refine g_iload_n 1 rfl rfl dX11_change_1 ?_
  refine g_iconst (v := 1) (by decide) dX11_change_2 ?_
  refine g_bipush (v := 20) (by decide) dX11_change_3 ?_
  refine g_callVV (y := miX11_needWithin) (As := [.int x1, .int 1, .int 20]) (rest := []) clX11 kd_0 rfl moX11_needWithin rfl mlX11_206 (by first | decide | omega) (by decide) (by simp [Value.category]) rfl dX11_change_5 (SX11_needWithin  M x1 1 20) (fun M1 => ?_)
  refine g_aload_n 0 rfl rfl dX11_change_8 ?_
  refine g_iload_n 1 rfl rfl dX11_change_9 ?_
  refine g_callVV (y := miX11_foresee) (As := [.int x1]) (rest := []) clX11 kd_0 rfl moX11_foresee rfl mlX11_310 (by first | decide | omega) (by decide) (by simp [Value.category]) rfl dX11_change_10 (SX11_foresee  M1 x1) (fun M3 => ?_)
  refine g_aload_n 0 rfl rfl dX11_change_13 ?_
  refine g_getR (k := 5) (b := 62) clX11 kd_0 (by decide) rfl rfl flX11_52 dX11_change_14 ?_
  refine g_callVI (y := miX8_allStores) (As := []) (rest := []) clX8 kd_62 rfl moX8_allStores rfl mlX11_323 (by first | decide | omega) (by decide) (by simp [Value.category]) rfl dX11_change_17 (SX8_allStores  M3) (fun M5 v6 => ?_)
  refine g_istore_n (L' := [(2, .int v6), (0, .ref 0), (1, .int x1)]) (by decide) rfl rfl dX11_change_20 ?_
  refine g_iconst (v := (-1)) (by decide) dX11_change_21 ?_
  refine g_istore_n (L' := [(3, .int (-1)), (2, .int v6), (0, .ref 0), (1, .int x1)]) (by decide) rfl rfl dX11_change_22 ?_
  refine g_iconst (v := 0) (by decide) dX11_change_23 ?_
  refine g_istore (L' := [(4, .int 0), (3, .int (-1)), (2, .int v6), (0, .ref 0), (1, .int x1)]) (by decide) rfl dX11_change_24 ?_
  exact GO.pick [3, 4, 2, 1, 0] rfl <| SX11_change_b26  FU M5 x1 v6 (-1) 0
def fX3_allStrength_b4 : Nat → Mem → Int32 → Int32 → RS
  | 0 => fun _ _ _ => none
  | n + 1 => fun M x2 x3 => if x3 < (gi M (isA (gb M 0)) 9) then bI (fX3_strengthOf 62 M x3) (fun M1 v2 => (fX3_allStrength_b4 n) M1 (x2 + v2) (x3 + 1)) else some (M, .inr (some (.int x2)))
theorem SX3_allStrength_b4 (n : Nat) : ∀ (M : Mem) (x2 : Int32) (x3 : Int32), GO miX3_allStrength (2) 0 0 0 0 4 [(0, .ref 22), (1, .ref 62), (2, .int x2), (3, .int x3)] [] M (fX3_allStrength_b4 n M x2 x3) := by
  induction n with
  | zero => intro M x2 x3 ; exact GO.none
  | succ n hrec4 =>
    intro M x2 x3 
    show GO miX3_allStrength (2) 0 0 0 0 4 [(0, .ref 22), (1, .ref 62), (2, .int x2), (3, .int x3)] [] M (if x3 < (gi M (isA (gb M 0)) 9) then bI (fX3_strengthOf 62 M x3) (fun M1 v2 => (fX3_allStrength_b4 n) M1 (x2 + v2) (x3 + 1)) else some (M, .inr (some (.int x2))))
    refine g_iload_n 3 rfl rfl dX3_allStrength_4 ?_
    refine g_aload_n 0 rfl rfl dX3_allStrength_5 ?_
    refine g_getR (k := 1) (b := (isA (gb M 0))) clX3 kd_22 (by decide) rfl rfl flX3_18 dX3_allStrength_6 ?_
    refine g_getI (k := 9) clX2 (kv_d3_24_0 _ (isA_dom _)) (by decide) rfl flX3_38 dX3_allStrength_9 ?_
    refine g_icmp_ge (tgt := 30) rfl dX3_allStrength_12 (fun c => ?_) (fun c => ?_)
    · refine g_iload_n 2 rfl rfl dX3_allStrength_30 ?_
      exact g_ireturn rfl (by decide) (by decide) dX3_allStrength_31 rfl rfl
    · refine g_iload_n 2 rfl rfl dX3_allStrength_15 ?_
      refine g_aload_n 0 rfl rfl dX3_allStrength_16 ?_
      refine g_aload_n 1 rfl rfl dX3_allStrength_17 ?_
      refine g_iload_n 3 rfl rfl dX3_allStrength_18 ?_
      refine g_callVI (y := miX3_strengthOf) (As := [.ref 62, .int x3]) (rest := [.int x2]) clX3 kd_22 rfl moX3_strengthOf rfl mlX3_42 (by first | decide | omega) (by decide) (by simp [Value.category]) rfl dX3_allStrength_19 (SX3_strengthOf 62 (by decide) M x3) (fun M1 v2 => ?_)
      refine g_iadd dX3_allStrength_22 ?_
      refine g_istore_n (L' := [(2, .int (x2 + v2)), (0, .ref 22), (1, .ref 62), (3, .int x3)]) (by decide) rfl rfl dX3_allStrength_23 ?_
      refine g_iinc (v := x3 + 1) (L' := [(3, .int (x3 + 1)), (2, .int (x2 + v2)), (0, .ref 22), (1, .ref 62)]) 3 rfl rfl (by decide) rfl dX3_allStrength_24 ?_
      refine g_goto (tgt := 4) rfl dX3_allStrength_27 ?_
      exact GO.pick [2, 3, 1, 0] rfl <| hrec4 M1 (x2 + v2) (x3 + 1)
def fX3_allStrength (M : Mem)  : RS := fX3_allStrength_b4  FU M 0 0
theorem SX3_allStrength (M : Mem)  : CTO (2) miX3_allStrength 0 0 [.ref 22, .ref 62] M (fX3_allStrength  M ) := by
  refine CTO.of (by decide) (by simp [lg_sl, Value.category]) ?_
  show GO miX3_allStrength (2) 0 0 0 0 0 [(0, .ref 22), (1, .ref 62)] [] M (fX3_allStrength_b4  FU M 0 0)
  refine g_iconst (v := 0) (by decide) dX3_allStrength_0 ?_
  refine g_istore_n (L' := [(2, .int 0), (0, .ref 22), (1, .ref 62)]) (by decide) rfl rfl dX3_allStrength_1 ?_
  refine g_iconst (v := 0) (by decide) dX3_allStrength_2 ?_
  refine g_istore_n (L' := [(3, .int 0), (2, .int 0), (0, .ref 22), (1, .ref 62)]) (by decide) rfl rfl dX3_allStrength_3 ?_
  exact GO.pick [2, 3, 1, 0] rfl <| SX3_allStrength_b4  FU M 0 0
def fX11_lotsFor_b96 (rec23 : Mem → Int32 → Int32 → Int32 → Int32 → RS) (M : Mem) (x1 : Int32) (x2 : Int32) (x3 : Int32) (x4 : Int32) : RS := rec23 M x1 x2 x3 (x4 + 1)
theorem SX11_lotsFor_b96 (rec23 : Mem → Int32 → Int32 → Int32 → Int32 → RS) (hrec23 : ∀ (M : Mem) (x1 : Int32) (x2 : Int32) (x3 : Int32) (x4 : Int32), GO miX11_lotsFor (7) 2 12 2 12 23 [(0, .ref 0), (1, .int x1), (2, .int x2), (3, .int x3), (4, .int x4)] [] M (rec23 M x1 x2 x3 x4)) (M : Mem) (x1 : Int32) (x2 : Int32) (x3 : Int32) (x4 : Int32) : GO miX11_lotsFor (7) 2 12 2 12 96 [(0, .ref 0), (1, .int x1), (2, .int x2), (3, .int x3), (4, .int x4)] [] M (fX11_lotsFor_b96 rec23 M x1 x2 x3 x4) := by
  show GO miX11_lotsFor (7) 2 12 2 12 96 [(0, .ref 0), (1, .int x1), (2, .int x2), (3, .int x3), (4, .int x4)] [] M (rec23 M x1 x2 x3 (x4 + 1))
  refine g_iinc (v := x4 + 1) (L' := [(4, .int (x4 + 1)), (0, .ref 0), (1, .int x1), (2, .int x2), (3, .int x3)]) 4 rfl rfl (by decide) rfl dX11_lotsFor_96 ?_
  refine g_goto (tgt := 23) rfl dX11_lotsFor_99 ?_
  exact GO.pick [1, 2, 3, 4, 0] rfl <| hrec23 M x1 x2 x3 (x4 + 1)
def fX11_lotsFor_b71 (rec23 : Mem → Int32 → Int32 → Int32 → Int32 → RS) (M : Mem) (x1 : Int32) (x2 : Int32) (x3 : Int32) (x4 : Int32) (s0 : Int32) : RS := if s0 = 0 then fX11_lotsFor_b96 rec23 M x1 x2 x3 x4 else bI (fX3_allStrength M) (fun M8 v9 => if v9 < x1 then fX11_lotsFor_b96 rec23 M8 x1 x2 x3 x4 else fX11_lotsFor_b96 rec23 M8 x1 x2 (x3 + 1) x4)
theorem SX11_lotsFor_b71 (rec23 : Mem → Int32 → Int32 → Int32 → Int32 → RS) (hrec23 : ∀ (M : Mem) (x1 : Int32) (x2 : Int32) (x3 : Int32) (x4 : Int32), GO miX11_lotsFor (7) 2 12 2 12 23 [(0, .ref 0), (1, .int x1), (2, .int x2), (3, .int x3), (4, .int x4)] [] M (rec23 M x1 x2 x3 x4)) (M : Mem) (x1 : Int32) (x2 : Int32) (x3 : Int32) (x4 : Int32) (s0 : Int32) : GO miX11_lotsFor (7) 2 12 2 12 71 [(0, .ref 0), (1, .int x1), (2, .int x2), (3, .int x3), (4, .int x4)] [.int s0] M (fX11_lotsFor_b71 rec23 M x1 x2 x3 x4 s0) := by
  show GO miX11_lotsFor (7) 2 12 2 12 71 [(0, .ref 0), (1, .int x1), (2, .int x2), (3, .int x3), (4, .int x4)] [.int s0] M (if s0 = 0 then fX11_lotsFor_b96 rec23 M x1 x2 x3 x4 else bI (fX3_allStrength M) (fun M8 v9 => if v9 < x1 then fX11_lotsFor_b96 rec23 M8 x1 x2 x3 x4 else fX11_lotsFor_b96 rec23 M8 x1 x2 (x3 + 1) x4))
  refine g_istore (L' := [(5, .int s0), (0, .ref 0), (1, .int x1), (2, .int x2), (3, .int x3), (4, .int x4)]) (by decide) rfl dX11_lotsFor_71 ?_
  refine g_iload 0 rfl dX11_lotsFor_73 ?_
  refine g_if_eq (tgt := 96) rfl dX11_lotsFor_75 (fun c => ?_) (fun c => ?_)
  · exact GO.pick [1, 2, 3, 4, 5] rfl <| SX11_lotsFor_b96  rec23 hrec23 M x1 x2 x3 x4
  · refine g_aload_n 1 rfl rfl dX11_lotsFor_78 ?_
    refine g_getR (k := 2) (b := 22) clX11 kd_0 (by decide) rfl rfl flX11_35 dX11_lotsFor_79 ?_
    refine g_aload_n 1 rfl rfl dX11_lotsFor_82 ?_
    refine g_getR (k := 5) (b := 62) clX11 kd_0 (by decide) rfl rfl flX11_52 dX11_lotsFor_83 ?_
    refine g_callVI (y := miX3_allStrength) (As := [.ref 62]) (rest := []) clX3 kd_22 rfl moX3_allStrength rfl mlX11_326 (by first | decide | omega) (by decide) (by simp [Value.category]) rfl dX11_lotsFor_86 (SX3_allStrength  M) (fun M8 v9 => ?_)
    refine g_iload_n 2 rfl rfl dX11_lotsFor_89 ?_
    refine g_icmp_lt (tgt := 96) rfl dX11_lotsFor_90 (fun c => ?_) (fun c => ?_)
    · exact GO.pick [1, 2, 3, 4, 5] rfl <| SX11_lotsFor_b96  rec23 hrec23 M8 x1 x2 x3 x4
    · refine g_iinc (v := x3 + 1) (L' := [(3, .int (x3 + 1)), (5, .int s0), (0, .ref 0), (1, .int x1), (2, .int x2), (4, .int x4)]) 4 rfl rfl (by decide) rfl dX11_lotsFor_93 ?_
      exact GO.pick [2, 3, 4, 0, 5] rfl <| SX11_lotsFor_b96  rec23 hrec23 M8 x1 x2 (x3 + 1) x4
def fX11_lotsFor_b66 (rec23 : Mem → Int32 → Int32 → Int32 → Int32 → RS) (M : Mem) (x1 : Int32) (x2 : Int32) (x3 : Int32) (x4 : Int32) : RS := fX11_lotsFor_b71 rec23 M x1 x2 x3 x4 1
theorem SX11_lotsFor_b66 (rec23 : Mem → Int32 → Int32 → Int32 → Int32 → RS) (hrec23 : ∀ (M : Mem) (x1 : Int32) (x2 : Int32) (x3 : Int32) (x4 : Int32), GO miX11_lotsFor (7) 2 12 2 12 23 [(0, .ref 0), (1, .int x1), (2, .int x2), (3, .int x3), (4, .int x4)] [] M (rec23 M x1 x2 x3 x4)) (M : Mem) (x1 : Int32) (x2 : Int32) (x3 : Int32) (x4 : Int32) : GO miX11_lotsFor (7) 2 12 2 12 66 [(0, .ref 0), (1, .int x1), (2, .int x2), (3, .int x3), (4, .int x4)] [] M (fX11_lotsFor_b66 rec23 M x1 x2 x3 x4) := by
  show GO miX11_lotsFor (7) 2 12 2 12 66 [(0, .ref 0), (1, .int x1), (2, .int x2), (3, .int x3), (4, .int x4)] [] M (fX11_lotsFor_b71 rec23 M x1 x2 x3 x4 1)
  refine g_iconst (v := 1) (by decide) dX11_lotsFor_66 ?_
  refine g_goto (tgt := 71) rfl dX11_lotsFor_67 ?_
  exact GO.pick [0, 1, 2, 3, 4] rfl <| SX11_lotsFor_b71  rec23 hrec23 M x1 x2 x3 x4 1
def fX11_lotsFor_b23 : Nat → Mem → Int32 → Int32 → Int32 → Int32 → RS
  | 0 => fun _ _ _ _ _ => none
  | n + 1 => fun M x1 x2 x3 x4 => if x4 < ((1 : Int32) <<< ((gi M (isA (gb M 0)) 9) &&& 31)) then wr (si M 62 0 x4) (fun M5 => if x2 = (-1) then fX11_lotsFor_b66 (fX11_lotsFor_b23 n) M5 x1 x2 x3 x4 else bI (fX8_lotOf 62 M5 x2) (fun M6 v7 => if v7 = 1 then fX11_lotsFor_b66 (fX11_lotsFor_b23 n) M6 x1 x2 x3 x4 else fX11_lotsFor_b71 (fX11_lotsFor_b23 n) M6 x1 x2 x3 x4 0)) else some (M, .inr (some (.int x3)))
theorem SX11_lotsFor_b23 (n : Nat) : ∀ (M : Mem) (x1 : Int32) (x2 : Int32) (x3 : Int32) (x4 : Int32), GO miX11_lotsFor (7) 2 12 2 12 23 [(0, .ref 0), (1, .int x1), (2, .int x2), (3, .int x3), (4, .int x4)] [] M (fX11_lotsFor_b23 n M x1 x2 x3 x4) := by
  induction n with
  | zero => intro M x1 x2 x3 x4 ; exact GO.none
  | succ n hrec23 =>
    intro M x1 x2 x3 x4 
    show GO miX11_lotsFor (7) 2 12 2 12 23 [(0, .ref 0), (1, .int x1), (2, .int x2), (3, .int x3), (4, .int x4)] [] M (if x4 < ((1 : Int32) <<< ((gi M (isA (gb M 0)) 9) &&& 31)) then wr (si M 62 0 x4) (fun M5 => if x2 = (-1) then fX11_lotsFor_b66 (fX11_lotsFor_b23 n) M5 x1 x2 x3 x4 else bI (fX8_lotOf 62 M5 x2) (fun M6 v7 => if v7 = 1 then fX11_lotsFor_b66 (fX11_lotsFor_b23 n) M6 x1 x2 x3 x4 else fX11_lotsFor_b71 (fX11_lotsFor_b23 n) M6 x1 x2 x3 x4 0)) else some (M, .inr (some (.int x3))))
    refine g_iload 4 rfl dX11_lotsFor_23 ?_
    refine g_iconst (v := 1) (by decide) dX11_lotsFor_25 ?_
    refine g_aload_n 0 rfl rfl dX11_lotsFor_26 ?_
    refine g_getR (k := 2) (b := 22) clX11 kd_0 (by decide) rfl rfl flX11_35 dX11_lotsFor_27 ?_
    refine g_getR (k := 1) (b := (isA (gb M 0))) clX3 kd_22 (by decide) rfl rfl flX11_89 dX11_lotsFor_30 ?_
    refine g_getI (k := 9) clX2 (kv_d3_24_0 _ (isA_dom _)) (by decide) rfl flX11_106 dX11_lotsFor_33 ?_
    refine g_ishl dX11_lotsFor_36 ?_
    refine g_icmp_ge (tgt := 102) rfl dX11_lotsFor_37 (fun c => ?_) (fun c => ?_)
    · refine g_iload_n 3 rfl rfl dX11_lotsFor_102 ?_
      exact g_ireturn rfl (by decide) (by decide) dX11_lotsFor_103 rfl rfl
    · refine g_aload_n 0 rfl rfl dX11_lotsFor_40 ?_
      refine g_getR (k := 5) (b := 62) clX11 kd_0 (by decide) rfl rfl flX11_52 dX11_lotsFor_41 ?_
      refine g_iload 4 rfl dX11_lotsFor_44 ?_
      refine g_putI (k := 0) clX8 kd_62 (by decide) rfl (by decide) rfl flX11_135 dX11_lotsFor_46 ?_
      refine GO.wr (fun M5 => ?_)
      refine g_iload_n 2 rfl rfl dX11_lotsFor_49 ?_
      refine g_iconst (v := (-1)) (by decide) dX11_lotsFor_50 ?_
      refine g_icmp_eq (tgt := 66) rfl dX11_lotsFor_51 (fun c => ?_) (fun c => ?_)
      · exact GO.pick [0, 1, 2, 3, 4] rfl <| SX11_lotsFor_b66  (fX11_lotsFor_b23 n) hrec23 M5 x1 x2 x3 x4
      · refine g_aload_n 0 rfl rfl dX11_lotsFor_54 ?_
        refine g_getR (k := 5) (b := 62) clX11 kd_0 (by decide) rfl rfl flX11_52 dX11_lotsFor_55 ?_
        refine g_iload_n 2 rfl rfl dX11_lotsFor_58 ?_
        refine g_callVI (y := miX8_lotOf) (As := [.int x2]) (rest := []) clX8 kd_62 rfl moX8_lotOf rfl mlX11_169 (by first | decide | omega) (by decide) (by simp [Value.category]) rfl dX11_lotsFor_59 (SX8_lotOf 62 (by decide) M5 x2) (fun M6 v7 => ?_)
        refine g_iconst (v := 1) (by decide) dX11_lotsFor_62 ?_
        refine g_icmp_ne (tgt := 70) rfl dX11_lotsFor_63 (fun c => ?_) (fun c => ?_)
        · refine g_iconst (v := 0) (by decide) dX11_lotsFor_70 ?_
          exact GO.pick [0, 1, 2, 3, 4] rfl <| SX11_lotsFor_b71  (fX11_lotsFor_b23 n) hrec23 M6 x1 x2 x3 x4 0
        · exact GO.pick [0, 1, 2, 3, 4] rfl <| SX11_lotsFor_b66  (fX11_lotsFor_b23 n) hrec23 M6 x1 x2 x3 x4
def fX11_lotsFor_b10 (M : Mem) (x1 : Int32) (x2 : Int32) : RS := bV (fX11_needWithin M x1 0 99) (fun M3 => fX11_lotsFor_b23  FU M3 x1 x2 0 0)
theorem SX11_lotsFor_b10 (M : Mem) (x1 : Int32) (x2 : Int32) : GO miX11_lotsFor (7) 2 12 1 6 10 [(0, .ref 0), (1, .int x1), (2, .int x2)] [] M (fX11_lotsFor_b10 M x1 x2) := by
  show GO miX11_lotsFor (7) 2 12 1 6 10 [(0, .ref 0), (1, .int x1), (2, .int x2)] [] M (bV (fX11_needWithin M x1 0 99) (fun M3 => fX11_lotsFor_b23  FU M3 x1 x2 0 0))
  refine g_aload_n 0 rfl rfl dX11_lotsFor_10 ?_
  refine g_iload_n 1 rfl rfl dX11_lotsFor_11 ?_
  refine g_iconst (v := 0) (by decide) dX11_lotsFor_12 ?_
  refine g_bipush (v := 99) (by decide) dX11_lotsFor_13 ?_
  refine g_callVV (y := miX11_needWithin) (As := [.int x1, .int 0, .int 99]) (rest := []) clX11 kd_0 rfl moX11_needWithin rfl mlX11_206 (by first | decide | omega) (by decide) (by simp [Value.category]) rfl dX11_lotsFor_15 (SX11_needWithin  M x1 0 99) (fun M3 => ?_)
  refine g_iconst (v := 0) (by decide) dX11_lotsFor_18 ?_
  refine g_istore_n (L' := [(3, .int 0), (0, .ref 0), (1, .int x1), (2, .int x2)]) (by decide) rfl rfl dX11_lotsFor_19 ?_
  refine g_iconst (v := 0) (by decide) dX11_lotsFor_20 ?_
  refine g_istore (L' := [(4, .int 0), (3, .int 0), (0, .ref 0), (1, .int x1), (2, .int x2)]) (by decide) rfl dX11_lotsFor_21 ?_
  exact GO.pick [2, 3, 4, 1, 0] rfl <| SX11_lotsFor_b23  FU M3 x1 x2 0 0
def fX11_lotsFor (M : Mem) (x1 : Int32) (x2 : Int32) : RS := if x2 = (-1) then fX11_lotsFor_b10  M x1 x2 else bV (fX11_needHouse M x2) (fun M1 => fX11_lotsFor_b10  M1 x1 x2)
theorem SX11_lotsFor (M : Mem) (x1 : Int32) (x2 : Int32) : CTO (7) miX11_lotsFor 2 12 [.ref 0, .int x1, .int x2] M (fX11_lotsFor  M x1 x2) := by
  refine CTO.of (by decide) (by simp [lg_sl, Value.category]) ?_
  show GO miX11_lotsFor (7) 2 12 0 0 0 [(0, .ref 0), (1, .int x1), (2, .int x2)] [] M (if x2 = (-1) then fX11_lotsFor_b10  M x1 x2 else bV (fX11_needHouse M x2) (fun M1 => fX11_lotsFor_b10  M1 x1 x2))
  refine g_iload_n 2 rfl rfl dX11_lotsFor_0 ?_
  refine g_iconst (v := (-1)) (by decide) dX11_lotsFor_1 ?_
  refine g_icmp_eq (tgt := 10) rfl dX11_lotsFor_2 (fun c => ?_) (fun c => ?_)
  · exact GO.pick [0, 1, 2] rfl <| GO.widen (k := 1) (j := 6) (by decide) (by decide) <| SX11_lotsFor_b10  M x1 x2
  · refine g_aload_n 0 rfl rfl dX11_lotsFor_5 ?_
    refine g_iload_n 2 rfl rfl dX11_lotsFor_6 ?_
    refine g_callVV (y := miX11_needHouse) (As := [.int x2]) (rest := []) clX11 kd_0 rfl moX11_needHouse rfl mlX11_157 (by first | decide | omega) (by decide) (by simp [Value.category]) rfl dX11_lotsFor_7 (SX11_needHouse  M x2) (fun M1 => ?_)
    exact GO.pick [0, 1, 2] rfl <| SX11_lotsFor_b10  M1 x1 x2
def fX8_mostStore_b4 : Nat → Mem → Int32 → Int32 → RS
  | 0 => fun _ _ _ => none
  | n + 1 => fun M x1 x2 => if x2 < 8 then chk (inb x2 8) ((fX8_mostStore_b4 n) M (if x1 < (gi M 65 (ix x2)) then (gi M 65 (ix x2)) else x1) (x2 + 1)) else some (M, .inr (some (.int x1)))
theorem SX8_mostStore_b4 (n : Nat) : ∀ (M : Mem) (x1 : Int32) (x2 : Int32), GO miX8_mostStore (1) 0 0 0 0 4 [(0, .ref 62), (1, .int x1), (2, .int x2)] [] M (fX8_mostStore_b4 n M x1 x2) := by
  induction n with
  | zero => intro M x1 x2 ; exact GO.none
  | succ n hrec4 =>
    intro M x1 x2 
    show GO miX8_mostStore (1) 0 0 0 0 4 [(0, .ref 62), (1, .int x1), (2, .int x2)] [] M (if x2 < 8 then chk (inb x2 8) ((fX8_mostStore_b4 n) M (if x1 < (gi M 65 (ix x2)) then (gi M 65 (ix x2)) else x1) (x2 + 1)) else some (M, .inr (some (.int x1))))
    refine g_iload_n 2 rfl rfl dX8_mostStore_4 ?_
    refine g_bipush (v := 8) (by decide) dX8_mostStore_5 ?_
    refine g_icmp_ge (tgt := 27) rfl dX8_mostStore_7 (fun c => ?_) (fun c => ?_)
    · refine g_iload_n 1 rfl rfl dX8_mostStore_27 ?_
      exact g_ireturn rfl (by decide) (by decide) dX8_mostStore_28 rfl rfl
    · refine g_iload_n 1 rfl rfl dX8_mostStore_10 ?_
      refine g_aload_n 0 rfl rfl dX8_mostStore_11 ?_
      refine g_getR (k := 9) (b := 65) clX8 kd_62 (by decide) rfl rfl flX8_25 dX8_mostStore_12 ?_
      refine g_iload_n 2 rfl rfl dX8_mostStore_15 ?_
      refine g_ald kd_65 dX8_mostStore_16 (fun hi1 => ?_)
      refine g_mmax mlX8_56 ms_max mt_Math mc_max (by first | decide | omega) (by decide) (by simp [Value.category]) dX8_mostStore_17 ?_
      refine g_istore_n (L' := [(1, .int (if x1 < (gi M 65 (ix x2)) then (gi M 65 (ix x2)) else x1)), (0, .ref 62), (2, .int x2)]) (by decide) rfl rfl dX8_mostStore_20 ?_
      refine g_iinc (v := x2 + 1) (L' := [(2, .int (x2 + 1)), (1, .int (if x1 < (gi M 65 (ix x2)) then (gi M 65 (ix x2)) else x1)), (0, .ref 62)]) 2 rfl rfl (by decide) rfl dX8_mostStore_21 ?_
      refine g_goto (tgt := 4) rfl dX8_mostStore_24 ?_
      exact GO.pick [2, 1, 0] rfl <| hrec4 M (if x1 < (gi M 65 (ix x2)) then (gi M 65 (ix x2)) else x1) (x2 + 1)
def fX8_mostStore (M : Mem)  : RS := fX8_mostStore_b4  FU M 0 0
theorem SX8_mostStore (M : Mem)  : CTO (1) miX8_mostStore 0 0 [.ref 62] M (fX8_mostStore  M ) := by
  refine CTO.of (by decide) (by simp [lg_sl, Value.category]) ?_
  show GO miX8_mostStore (1) 0 0 0 0 0 [(0, .ref 62)] [] M (fX8_mostStore_b4  FU M 0 0)
  refine g_iconst (v := 0) (by decide) dX8_mostStore_0 ?_
  refine g_istore_n (L' := [(1, .int 0), (0, .ref 62)]) (by decide) rfl rfl dX8_mostStore_1 ?_
  refine g_iconst (v := 0) (by decide) dX8_mostStore_2 ?_
  refine g_istore_n (L' := [(2, .int 0), (1, .int 0), (0, .ref 62)]) (by decide) rfl rfl dX8_mostStore_3 ?_
  exact GO.pick [2, 1, 0] rfl <| SX8_mostStore_b4  FU M 0 0
def fX11_founders_b141 (rec43 : Mem → Int32 → Int32 → Int32 → Int32 → Int32 → Int32 → Int32 → RS) (M : Mem) (x2 : Int32) (x3 : Int32) (x4 : Int32) (x5 : Int32) (x7 : Int32) (x8 : Int32) (s0 : Int32) (s1 : Int32) : RS := rec43 M x2 x3 x4 x5 (s1 + s0) x7 (x8 + 1)
theorem SX11_founders_b141 (rec43 : Mem → Int32 → Int32 → Int32 → Int32 → Int32 → Int32 → Int32 → RS) (hrec43 : ∀ (M : Mem) (x2 : Int32) (x3 : Int32) (x4 : Int32) (x5 : Int32) (x6 : Int32) (x7 : Int32) (x8 : Int32), GO miX11_founders (7) 2 12 2 12 43 [(0, .ref 0), (2, .int x2), (3, .int x3), (4, .int x4), (5, .int x5), (6, .int x6), (7, .int x7), (8, .int x8)] [] M (rec43 M x2 x3 x4 x5 x6 x7 x8)) (M : Mem) (x2 : Int32) (x3 : Int32) (x4 : Int32) (x5 : Int32) (x7 : Int32) (x8 : Int32) (s0 : Int32) (s1 : Int32) : GO miX11_founders (7) 2 12 2 12 141 [(0, .ref 0), (2, .int x2), (3, .int x3), (4, .int x4), (5, .int x5), (7, .int x7), (8, .int x8)] [.int s0, .int s1] M (fX11_founders_b141 rec43 M x2 x3 x4 x5 x7 x8 s0 s1) := by
  show GO miX11_founders (7) 2 12 2 12 141 [(0, .ref 0), (2, .int x2), (3, .int x3), (4, .int x4), (5, .int x5), (7, .int x7), (8, .int x8)] [.int s0, .int s1] M (rec43 M x2 x3 x4 x5 (s1 + s0) x7 (x8 + 1))
  refine g_iadd dX11_founders_141 ?_
  refine g_istore (L' := [(6, .int (s1 + s0)), (0, .ref 0), (2, .int x2), (3, .int x3), (4, .int x4), (5, .int x5), (7, .int x7), (8, .int x8)]) (by decide) rfl dX11_founders_142 ?_
  refine g_iinc (v := x8 + 1) (L' := [(8, .int (x8 + 1)), (6, .int (s1 + s0)), (0, .ref 0), (2, .int x2), (3, .int x3), (4, .int x4), (5, .int x5), (7, .int x7)]) 7 rfl rfl (by decide) rfl dX11_founders_144 ?_
  refine g_goto (tgt := 43) rfl dX11_founders_147 ?_
  exact GO.pick [2, 3, 4, 5, 6, 1, 7, 0] rfl <| hrec43 M x2 x3 x4 x5 (s1 + s0) x7 (x8 + 1)
def fX11_founders_b43 : Nat → Mem → Int32 → Int32 → Int32 → Int32 → Int32 → Int32 → Int32 → RS
  | 0 => fun _ _ _ _ _ _ _ _ => none
  | n + 1 => fun M x2 x3 x4 x5 x6 x7 x8 => if x8 < x2 then bV (fX8_beginYears 62 M) (fun M7 => bI (fX3_drawLots 62 M7 x7) (fun M9 v10 => bV (fX3_takeShares 62 M9 (-1)) (fun M11 => bV (fX3_passYears 62 M11 5) (fun M13 => bI (fJ6_bitCount_0f7a4 M13 (gi M13 62 1)) (fun M15 v16 => bI (fX8_mostStore M15) (fun M17 v18 => if (gi M17 62 1) = 0 then fX11_founders_b141 (fX11_founders_b43 n) M17 x2 x3 (x4 + v16) (if x5 < v18 then v18 else x5) v10 x8 1 x6 else fX11_founders_b141 (fX11_founders_b43 n) M17 x2 x3 (x4 + v16) (if x5 < v18 then v18 else x5) v10 x8 0 x6)))))) else if x3 = 0 then some (M, .inr (some (.int x4))) else if x3 = 1 then some (M, .inr (some (.int x5))) else some (M, .inr (some (.int x6)))
theorem SX11_founders_b43 (n : Nat) : ∀ (M : Mem) (x2 : Int32) (x3 : Int32) (x4 : Int32) (x5 : Int32) (x6 : Int32) (x7 : Int32) (x8 : Int32), GO miX11_founders (7) 2 12 2 12 43 [(0, .ref 0), (2, .int x2), (3, .int x3), (4, .int x4), (5, .int x5), (6, .int x6), (7, .int x7), (8, .int x8)] [] M (fX11_founders_b43 n M x2 x3 x4 x5 x6 x7 x8) := by
  induction n with
  | zero => intro M x2 x3 x4 x5 x6 x7 x8 ; exact GO.none
  | succ n hrec43 =>
    intro M x2 x3 x4 x5 x6 x7 x8 
    show GO miX11_founders (7) 2 12 2 12 43 [(0, .ref 0), (2, .int x2), (3, .int x3), (4, .int x4), (5, .int x5), (6, .int x6), (7, .int x7), (8, .int x8)] [] M (if x8 < x2 then bV (fX8_beginYears 62 M) (fun M7 => bI (fX3_drawLots 62 M7 x7) (fun M9 v10 => bV (fX3_takeShares 62 M9 (-1)) (fun M11 => bV (fX3_passYears 62 M11 5) (fun M13 => bI (fJ6_bitCount_0f7a4 M13 (gi M13 62 1)) (fun M15 v16 => bI (fX8_mostStore M15) (fun M17 v18 => if (gi M17 62 1) = 0 then fX11_founders_b141 (fX11_founders_b43 n) M17 x2 x3 (x4 + v16) (if x5 < v18 then v18 else x5) v10 x8 1 x6 else fX11_founders_b141 (fX11_founders_b43 n) M17 x2 x3 (x4 + v16) (if x5 < v18 then v18 else x5) v10 x8 0 x6)))))) else if x3 = 0 then some (M, .inr (some (.int x4))) else if x3 = 1 then some (M, .inr (some (.int x5))) else some (M, .inr (some (.int x6))))
    refine g_iload 7 rfl dX11_founders_43 ?_
    refine g_iload_n 1 rfl rfl dX11_founders_45 ?_
    refine g_icmp_ge (tgt := 150) rfl dX11_founders_46 (fun c => ?_) (fun c => ?_)
    · refine g_iload_n 2 rfl rfl dX11_founders_150 ?_
      refine g_if_ne (tgt := 159) rfl dX11_founders_151 (fun c => ?_) (fun c => ?_)
      · refine g_iload_n 2 rfl rfl dX11_founders_159 ?_
        refine g_iconst (v := 1) (by decide) dX11_founders_160 ?_
        refine g_icmp_ne (tgt := 169) rfl dX11_founders_161 (fun c => ?_) (fun c => ?_)
        · refine g_iload 5 rfl dX11_founders_169 ?_
          exact g_ireturn rfl (by decide) (by decide) dX11_founders_171 rfl rfl
        · refine g_iload 4 rfl dX11_founders_164 ?_
          refine g_goto (tgt := 171) rfl dX11_founders_166 ?_
          exact g_ireturn rfl (by decide) (by decide) dX11_founders_171 rfl rfl
      · refine g_iload 3 rfl dX11_founders_154 ?_
        refine g_goto (tgt := 171) rfl dX11_founders_156 ?_
        exact g_ireturn rfl (by decide) (by decide) dX11_founders_171 rfl rfl
    · refine g_aload_n 0 rfl rfl dX11_founders_49 ?_
      refine g_getR (k := 5) (b := 62) clX11 kd_0 (by decide) rfl rfl flX11_52 dX11_founders_50 ?_
      refine g_callVV (y := miX8_beginYears) (As := []) (rest := []) clX8 kd_62 rfl moX8_beginYears rfl mlX11_329 (by first | decide | omega) (by decide) (by simp [Value.category]) rfl dX11_founders_53 (SX8_beginYears 62 (by decide) M) (fun M7 => ?_)
      refine g_aload_n 0 rfl rfl dX11_founders_56 ?_
      refine g_getR (k := 2) (b := 22) clX11 kd_0 (by decide) rfl rfl flX11_35 dX11_founders_57 ?_
      refine g_aload_n 0 rfl rfl dX11_founders_60 ?_
      refine g_getR (k := 5) (b := 62) clX11 kd_0 (by decide) rfl rfl flX11_52 dX11_founders_61 ?_
      refine g_iload 6 rfl dX11_founders_64 ?_
      refine g_callVI (y := miX3_drawLots) (As := [.ref 62, .int x7]) (rest := []) clX3 kd_22 rfl moX3_drawLots rfl mlX11_227 (by first | decide | omega) (by decide) (by simp [Value.category]) rfl dX11_founders_66 (SX3_drawLots 62 (by decide) M7 x7) (fun M9 v10 => ?_)
      refine g_istore (L' := [(7, .int v10), (0, .ref 0), (2, .int x2), (3, .int x3), (4, .int x4), (5, .int x5), (6, .int x6), (8, .int x8)]) (by decide) rfl dX11_founders_69 ?_
      refine g_aload_n 1 rfl rfl dX11_founders_71 ?_
      refine g_getR (k := 2) (b := 22) clX11 kd_0 (by decide) rfl rfl flX11_35 dX11_founders_72 ?_
      refine g_aload_n 1 rfl rfl dX11_founders_75 ?_
      refine g_getR (k := 5) (b := 62) clX11 kd_0 (by decide) rfl rfl flX11_52 dX11_founders_76 ?_
      refine g_iconst (v := (-1)) (by decide) dX11_founders_79 ?_
      refine g_callVV (y := miX3_takeShares) (As := [.ref 62, .int (-1)]) (rest := []) clX3 kd_22 rfl moX3_takeShares rfl mlX11_99 (by first | decide | omega) (by decide) (by simp [Value.category]) rfl dX11_founders_80 (SX3_takeShares 62 (by decide) M9 (-1)) (fun M11 => ?_)
      refine g_aload_n 1 rfl rfl dX11_founders_83 ?_
      refine g_getR (k := 2) (b := 22) clX11 kd_0 (by decide) rfl rfl flX11_35 dX11_founders_84 ?_
      refine g_aload_n 1 rfl rfl dX11_founders_87 ?_
      refine g_getR (k := 5) (b := 62) clX11 kd_0 (by decide) rfl rfl flX11_52 dX11_founders_88 ?_
      refine g_iconst (v := 5) (by decide) dX11_founders_91 ?_
      refine g_callVV (y := miX3_passYears) (As := [.ref 62, .int 5]) (rest := []) clX3 kd_22 rfl moX3_passYears rfl mlX11_240 (by first | decide | omega) (by decide) (by simp [Value.category]) rfl dX11_founders_92 (SX3_passYears 62 (by decide) M11 5) (fun M13 => ?_)
      refine g_iload 4 rfl dX11_founders_95 ?_
      refine g_aload_n 1 rfl rfl dX11_founders_97 ?_
      refine g_getR (k := 5) (b := 62) clX11 kd_0 (by decide) rfl rfl flX11_52 dX11_founders_98 ?_
      refine g_getI (k := 1) clX8 kd_62 (by decide) rfl flX11_126 dX11_founders_101 ?_
      refine g_callSI (y := miJ6_bitCount_0f7a4) (As := [.int (gi M13 62 1)]) (rest := [.int x4]) moJ6_bitCount_0f7a4 rfl mlX11_317 (by first | decide | omega) (by decide) (by simp [Value.category]) rfl dX11_founders_104 (SJ6_bitCount_0f7a4  M13 (gi M13 62 1)) (fun M15 v16 => ?_)
      refine g_iadd dX11_founders_107 ?_
      refine g_istore (L' := [(4, .int (x4 + v16)), (7, .int v10), (0, .ref 0), (2, .int x2), (3, .int x3), (5, .int x5), (6, .int x6), (8, .int x8)]) (by decide) rfl dX11_founders_108 ?_
      refine g_iload 5 rfl dX11_founders_110 ?_
      refine g_aload_n 2 rfl rfl dX11_founders_112 ?_
      refine g_getR (k := 5) (b := 62) clX11 kd_0 (by decide) rfl rfl flX11_52 dX11_founders_113 ?_
      refine g_callVI (y := miX8_mostStore) (As := []) (rest := [.int x5]) clX8 kd_62 rfl moX8_mostStore rfl mlX11_332 (by first | decide | omega) (by decide) (by simp [Value.category]) rfl dX11_founders_116 (SX8_mostStore  M15) (fun M17 v18 => ?_)
      refine g_mmax mlX11_281 ms_max mt_Math mc_max (by first | decide | omega) (by decide) (by simp [Value.category]) dX11_founders_119 ?_
      refine g_istore (L' := [(5, .int (if x5 < v18 then v18 else x5)), (4, .int (x4 + v16)), (7, .int v10), (0, .ref 0), (2, .int x2), (3, .int x3), (6, .int x6), (8, .int x8)]) (by decide) rfl dX11_founders_122 ?_
      refine g_iload 6 rfl dX11_founders_124 ?_
      refine g_aload_n 3 rfl rfl dX11_founders_126 ?_
      refine g_getR (k := 5) (b := 62) clX11 kd_0 (by decide) rfl rfl flX11_52 dX11_founders_127 ?_
      refine g_getI (k := 1) clX8 kd_62 (by decide) rfl flX11_126 dX11_founders_130 ?_
      refine g_if_ne (tgt := 140) rfl dX11_founders_133 (fun c => ?_) (fun c => ?_)
      · refine g_iconst (v := 0) (by decide) dX11_founders_140 ?_
        exact GO.pick [3, 4, 5, 1, 0, 2, 7] rfl <| SX11_founders_b141  (fX11_founders_b43 n) hrec43 M17 x2 x3 (x4 + v16) (if x5 < v18 then v18 else x5) v10 x8 0 x6
      · refine g_iconst (v := 1) (by decide) dX11_founders_136 ?_
        refine g_goto (tgt := 141) rfl dX11_founders_137 ?_
        exact GO.pick [3, 4, 5, 1, 0, 2, 7] rfl <| SX11_founders_b141  (fX11_founders_b43 n) hrec43 M17 x2 x3 (x4 + v16) (if x5 < v18 then v18 else x5) v10 x8 1 x6
def fX11_founders (M : Mem) (x1 : Int32) (x2 : Int32) (x3 : Int32) : RS := bV (fX11_needWhat M x3 3) (fun M1 => bV (fX11_needWithin M1 x2 0 30) (fun M3 => bV (fX8_copyFrom 62 39 M3) (fun M5 => fX11_founders_b43  FU M5 x2 x3 0 0 0 x1 0)))
theorem SX11_founders (M : Mem) (x1 : Int32) (x2 : Int32) (x3 : Int32) : CTO (7) miX11_founders 2 12 [.ref 0, .int x1, .int x2, .int x3] M (fX11_founders  M x1 x2 x3) := by
  refine CTO.of (by decide) (by simp [lg_sl, Value.category]) ?_
  show GO miX11_founders (7) 2 12 0 0 0 [(0, .ref 0), (1, .int x1), (2, .int x2), (3, .int x3)] [] M (bV (fX11_needWhat M x3 3) (fun M1 => bV (fX11_needWithin M1 x2 0 30) (fun M3 => bV (fX8_copyFrom 62 39 M3) (fun M5 => fX11_founders_b43  FU M5 x2 x3 0 0 0 x1 0))))
  refine g_aload_n 0 rfl rfl dX11_founders_0 ?_
  refine g_iload_n 3 rfl rfl dX11_founders_1 ?_
  refine g_iconst (v := 3) (by decide) dX11_founders_2 ?_
  refine g_callVV (y := miX11_needWhat) (As := [.int x3, .int 3]) (rest := []) clX11 kd_0 rfl moX11_needWhat rfl mlX11_257 (by first | decide | omega) (by decide) (by simp [Value.category]) rfl dX11_founders_3 (SX11_needWhat  M x3 3) (fun M1 => ?_)
  refine g_aload_n 0 rfl rfl dX11_founders_6 ?_
  refine g_iload_n 2 rfl rfl dX11_founders_7 ?_
  refine g_iconst (v := 0) (by decide) dX11_founders_8 ?_
  refine g_bipush (v := 30) (by decide) dX11_founders_9 ?_
  refine g_callVV (y := miX11_needWithin) (As := [.int x2, .int 0, .int 30]) (rest := []) clX11 kd_0 rfl moX11_needWithin rfl mlX11_206 (by first | decide | omega) (by decide) (by simp [Value.category]) rfl dX11_founders_11 (SX11_needWithin  M1 x2 0 30) (fun M3 => ?_)
  refine g_aload_n 0 rfl rfl dX11_founders_14 ?_
  refine g_getR (k := 5) (b := 62) clX11 kd_0 (by decide) rfl rfl flX11_52 dX11_founders_15 ?_
  refine g_aload_n 0 rfl rfl dX11_founders_18 ?_
  refine g_getR (k := 3) (b := 38) clX11 kd_0 (by decide) rfl rfl flX11_42 dX11_founders_19 ?_
  refine g_getR (k := 0) (b := 39) clX0 kd_38 (by decide) rfl rfl flX11_96 dX11_founders_22 ?_
  refine g_callVV (y := miX8_copyFrom) (As := [.ref 39]) (rest := []) clX8 kd_62 rfl moX8_copyFrom rfl mlX11_299 (by first | decide | omega) (by decide) (by simp [Value.category]) rfl dX11_founders_25 (SX8_copyFrom 62 39 (by decide) (by decide) M3) (fun M5 => ?_)
  refine g_iconst (v := 0) (by decide) dX11_founders_28 ?_
  refine g_istore (L' := [(4, .int 0), (0, .ref 0), (1, .int x1), (2, .int x2), (3, .int x3)]) (by decide) rfl dX11_founders_29 ?_
  refine g_iconst (v := 0) (by decide) dX11_founders_31 ?_
  refine g_istore (L' := [(5, .int 0), (4, .int 0), (0, .ref 0), (1, .int x1), (2, .int x2), (3, .int x3)]) (by decide) rfl dX11_founders_32 ?_
  refine g_iconst (v := 0) (by decide) dX11_founders_34 ?_
  refine g_istore (L' := [(6, .int 0), (5, .int 0), (4, .int 0), (0, .ref 0), (1, .int x1), (2, .int x2), (3, .int x3)]) (by decide) rfl dX11_founders_35 ?_
  refine g_iload_n 4 rfl rfl dX11_founders_37 ?_
  refine g_istore (L' := [(7, .int x1), (6, .int 0), (5, .int 0), (4, .int 0), (0, .ref 0), (1, .int x1), (2, .int x2), (3, .int x3)]) (by decide) rfl dX11_founders_38 ?_
  refine g_iconst (v := 0) (by decide) dX11_founders_40 ?_
  refine g_istore (L' := [(8, .int 0), (7, .int x1), (6, .int 0), (5, .int 0), (4, .int 0), (0, .ref 0), (1, .int x1), (2, .int x2), (3, .int x3)]) (by decide) rfl dX11_founders_41 ?_
  exact GO.pick [5, 7, 8, 4, 3, 2, 1, 0] rfl <| SX11_founders_b43  FU M5 x2 x3 0 0 0 x1 0
def fX7_add (M : Mem) (x1 : Int32) (x2 : Int32) (x3 : Int32) : RS := if (gi M 45 3) < 8 then chk (inb (gi M 45 3) 8) (wr (si M 46 (ix (gi M 45 3)) x1) (fun M2 => chk (inb (gi M2 45 3) 8) (wr (si M2 47 (ix (gi M2 45 3)) x2) (fun M4 => chk (inb (gi M4 45 3) 8) (wr (si M4 48 (ix (gi M4 45 3)) x3) (fun M6 => wr (si M6 45 3 ((gi M6 45 3) + 1)) (fun M7 => some (M7, .inr none)))))))) else some (M, .inr none)
theorem SX7_add (M : Mem) (x1 : Int32) (x2 : Int32) (x3 : Int32) : CTO (0) miX7_add 0 0 [.ref 45, .int x1, .int x2, .int x3] M (fX7_add  M x1 x2 x3) := by
  refine CTO.of (by decide) (by simp [lg_sl, Value.category]) ?_
  show GO miX7_add (0) 0 0 0 0 0 [(0, .ref 45), (1, .int x1), (2, .int x2), (3, .int x3)] [] M (if (gi M 45 3) < 8 then chk (inb (gi M 45 3) 8) (wr (si M 46 (ix (gi M 45 3)) x1) (fun M2 => chk (inb (gi M2 45 3) 8) (wr (si M2 47 (ix (gi M2 45 3)) x2) (fun M4 => chk (inb (gi M4 45 3) 8) (wr (si M4 48 (ix (gi M4 45 3)) x3) (fun M6 => wr (si M6 45 3 ((gi M6 45 3) + 1)) (fun M7 => some (M7, .inr none)))))))) else some (M, .inr none))
  refine g_aload_n 0 rfl rfl dX7_add_0 ?_
  refine g_getI (k := 3) clX7 kd_45 (by decide) rfl flX7_21 dX7_add_1 ?_
  refine g_bipush (v := 8) (by decide) dX7_add_4 ?_
  refine g_icmp_ge (tgt := 49) rfl dX7_add_6 (fun c => ?_) (fun c => ?_)
  · exact g_vreturn rfl (by decide) (by decide) dX7_add_49
  · refine g_aload_n 0 rfl rfl dX7_add_9 ?_
    refine g_getR (k := 0) (b := 46) clX7 kd_45 (by decide) rfl rfl flX7_9 dX7_add_10 ?_
    refine g_aload_n 0 rfl rfl dX7_add_13 ?_
    refine g_getI (k := 3) clX7 kd_45 (by decide) rfl flX7_21 dX7_add_14 ?_
    refine g_iload_n 1 rfl rfl dX7_add_17 ?_
    refine g_ast kd_46 dX7_add_18 (fun hi1 => ?_)
    refine GO.wr (fun M2 => ?_)
    refine g_aload_n 0 rfl rfl dX7_add_19 ?_
    refine g_getR (k := 1) (b := 47) clX7 kd_45 (by decide) rfl rfl flX7_15 dX7_add_20 ?_
    refine g_aload_n 0 rfl rfl dX7_add_23 ?_
    refine g_getI (k := 3) clX7 kd_45 (by decide) rfl flX7_21 dX7_add_24 ?_
    refine g_iload_n 2 rfl rfl dX7_add_27 ?_
    refine g_ast kd_47 dX7_add_28 (fun hi3 => ?_)
    refine GO.wr (fun M4 => ?_)
    refine g_aload_n 0 rfl rfl dX7_add_29 ?_
    refine g_getR (k := 2) (b := 48) clX7 kd_45 (by decide) rfl rfl flX7_18 dX7_add_30 ?_
    refine g_aload_n 0 rfl rfl dX7_add_33 ?_
    refine g_getI (k := 3) clX7 kd_45 (by decide) rfl flX7_21 dX7_add_34 ?_
    refine g_iload_n 3 rfl rfl dX7_add_37 ?_
    refine g_ast kd_48 dX7_add_38 (fun hi5 => ?_)
    refine GO.wr (fun M6 => ?_)
    refine g_aload_n 0 rfl rfl dX7_add_39 ?_
    refine g_dup_ref dX7_add_40 ?_
    refine g_getI (k := 3) clX7 kd_45 (by decide) rfl flX7_21 dX7_add_41 ?_
    refine g_iconst (v := 1) (by decide) dX7_add_44 ?_
    refine g_iadd dX7_add_45 ?_
    refine g_putI (k := 3) clX7 kd_45 (by decide) rfl (by decide) rfl flX7_21 dX7_add_46 ?_
    refine GO.wr (fun M7 => ?_)
    exact g_vreturn rfl (by decide) (by decide) dX7_add_49
def fX11_see_b52 (M : Mem)  : RS := bI (fX11_refuse M 2) (fun M5 v6 => some (M5, .inr (some (.int v6))))
theorem SX11_see_b52 (M : Mem)  : GO miX11_see (7) 1 6 1 6 52 [(0, .ref 0)] [] M (fX11_see_b52 M ) := by
  show GO miX11_see (7) 1 6 1 6 52 [(0, .ref 0)] [] M (bI (fX11_refuse M 2) (fun M5 v6 => some (M5, .inr (some (.int v6)))))
  refine g_aload_n 0 rfl rfl dX11_see_52 ?_
  refine g_iconst (v := 2) (by decide) dX11_see_53 ?_
  refine g_callVI (y := miX11_refuse) (As := [.int 2]) (rest := []) clX11 kd_0 rfl moX11_refuse rfl mlX11_233 (by first | decide | omega) (by decide) (by simp [Value.category]) rfl dX11_see_54 (SX11_refuse  M 2) (fun M5 v6 => ?_)
  exact g_ireturn rfl (by decide) (by decide) dX11_see_57 rfl rfl
def fX11_see_b30 (M : Mem) (x1 : Int32) (x2 : Int32) (x3 : Int32) (s0 : Int32) : RS := if s0 = 0 then fX11_see_b52  M else if (gi M 45 3) < 8 then bV (fX7_add M x1 x2 x3) (fun M3 => some (M3, .inr (some (.int (gi M3 45 3))))) else fX11_see_b52  M
theorem SX11_see_b30 (M : Mem) (x1 : Int32) (x2 : Int32) (x3 : Int32) (s0 : Int32) : GO miX11_see (7) 1 6 1 6 30 [(0, .ref 0), (1, .int x1), (2, .int x2), (3, .int x3)] [.int s0] M (fX11_see_b30 M x1 x2 x3 s0) := by
  show GO miX11_see (7) 1 6 1 6 30 [(0, .ref 0), (1, .int x1), (2, .int x2), (3, .int x3)] [.int s0] M (if s0 = 0 then fX11_see_b52  M else if (gi M 45 3) < 8 then bV (fX7_add M x1 x2 x3) (fun M3 => some (M3, .inr (some (.int (gi M3 45 3))))) else fX11_see_b52  M)
  refine g_istore (L' := [(4, .int s0), (0, .ref 0), (1, .int x1), (2, .int x2), (3, .int x3)]) (by decide) rfl dX11_see_30 ?_
  refine g_iload 0 rfl dX11_see_32 ?_
  refine g_if_eq (tgt := 52) rfl dX11_see_34 (fun c => ?_) (fun c => ?_)
  · exact GO.pick [1] rfl <| SX11_see_b52  M
  · refine g_aload_n 1 rfl rfl dX11_see_37 ?_
    refine g_getR (k := 3) (b := 38) clX11 kd_0 (by decide) rfl rfl flX11_42 dX11_see_38 ?_
    refine g_getR (k := 2) (b := 45) clX0 kd_38 (by decide) rfl rfl flX11_147 dX11_see_41 ?_
    refine g_getI (k := 3) clX7 kd_45 (by decide) rfl flX11_151 dX11_see_44 ?_
    refine g_bipush (v := 8) (by decide) dX11_see_47 ?_
    refine g_icmp_lt (tgt := 58) rfl dX11_see_49 (fun c => ?_) (fun c => ?_)
    · refine g_aload_n 1 rfl rfl dX11_see_58 ?_
      refine g_getR (k := 3) (b := 38) clX11 kd_0 (by decide) rfl rfl flX11_42 dX11_see_59 ?_
      refine g_getR (k := 2) (b := 45) clX0 kd_38 (by decide) rfl rfl flX11_147 dX11_see_62 ?_
      refine g_iload_n 2 rfl rfl dX11_see_65 ?_
      refine g_iload_n 3 rfl rfl dX11_see_66 ?_
      refine g_iload_n 4 rfl rfl dX11_see_67 ?_
      refine g_callVV (y := miX7_add) (As := [.int x1, .int x2, .int x3]) (rest := []) clX7 kd_45 rfl moX7_add rfl mlX11_335 (by first | decide | omega) (by decide) (by simp [Value.category]) rfl dX11_see_68 (SX7_add  M x1 x2 x3) (fun M3 => ?_)
      refine g_aload_n 1 rfl rfl dX11_see_71 ?_
      refine g_getR (k := 3) (b := 38) clX11 kd_0 (by decide) rfl rfl flX11_42 dX11_see_72 ?_
      refine g_getR (k := 2) (b := 45) clX0 kd_38 (by decide) rfl rfl flX11_147 dX11_see_75 ?_
      refine g_getI (k := 3) clX7 kd_45 (by decide) rfl flX11_151 dX11_see_78 ?_
      exact g_ireturn rfl (by decide) (by decide) dX11_see_81 rfl rfl
    · exact GO.pick [1] rfl <| SX11_see_b52  M
def fX11_see_b29 (M : Mem) (x1 : Int32) (x2 : Int32) (x3 : Int32) : RS := fX11_see_b30  M x1 x2 x3 0
theorem SX11_see_b29 (M : Mem) (x1 : Int32) (x2 : Int32) (x3 : Int32) : GO miX11_see (7) 1 6 1 6 29 [(0, .ref 0), (1, .int x1), (2, .int x2), (3, .int x3)] [] M (fX11_see_b29 M x1 x2 x3) := by
  show GO miX11_see (7) 1 6 1 6 29 [(0, .ref 0), (1, .int x1), (2, .int x2), (3, .int x3)] [] M (fX11_see_b30  M x1 x2 x3 0)
  refine g_iconst (v := 0) (by decide) dX11_see_29 ?_
  exact GO.pick [0, 1, 2, 3] rfl <| SX11_see_b30  M x1 x2 x3 0
def fX11_see (M : Mem) (x1 : Int32) (x2 : Int32) (x3 : Int32) : RS := bV (fX11_needHouse M x1) (fun M1 => if x2 < 0 then fX11_see_b29  M1 x1 x2 x3 else if 99 < x2 then fX11_see_b29  M1 x1 x2 x3 else if x3 < 0 then fX11_see_b29  M1 x1 x2 x3 else if 99 < x3 then fX11_see_b29  M1 x1 x2 x3 else fX11_see_b30  M1 x1 x2 x3 1)
theorem SX11_see (M : Mem) (x1 : Int32) (x2 : Int32) (x3 : Int32) : CTO (7) miX11_see 1 6 [.ref 0, .int x1, .int x2, .int x3] M (fX11_see  M x1 x2 x3) := by
  refine CTO.of (by decide) (by simp [lg_sl, Value.category]) ?_
  show GO miX11_see (7) 1 6 0 0 0 [(0, .ref 0), (1, .int x1), (2, .int x2), (3, .int x3)] [] M (bV (fX11_needHouse M x1) (fun M1 => if x2 < 0 then fX11_see_b29  M1 x1 x2 x3 else if 99 < x2 then fX11_see_b29  M1 x1 x2 x3 else if x3 < 0 then fX11_see_b29  M1 x1 x2 x3 else if 99 < x3 then fX11_see_b29  M1 x1 x2 x3 else fX11_see_b30  M1 x1 x2 x3 1))
  refine g_aload_n 0 rfl rfl dX11_see_0 ?_
  refine g_iload_n 1 rfl rfl dX11_see_1 ?_
  refine g_callVV (y := miX11_needHouse) (As := [.int x1]) (rest := []) clX11 kd_0 rfl moX11_needHouse rfl mlX11_157 (by first | decide | omega) (by decide) (by simp [Value.category]) rfl dX11_see_2 (SX11_needHouse  M x1) (fun M1 => ?_)
  refine g_iload_n 2 rfl rfl dX11_see_5 ?_
  refine g_if_lt (tgt := 29) rfl dX11_see_6 (fun c => ?_) (fun c => ?_)
  · exact GO.pick [0, 1, 2, 3] rfl <| SX11_see_b29  M1 x1 x2 x3
  · refine g_iload_n 2 rfl rfl dX11_see_9 ?_
    refine g_bipush (v := 99) (by decide) dX11_see_10 ?_
    refine g_icmp_gt (tgt := 29) rfl dX11_see_12 (fun c => ?_) (fun c => ?_)
    · exact GO.pick [0, 1, 2, 3] rfl <| SX11_see_b29  M1 x1 x2 x3
    · refine g_iload_n 3 rfl rfl dX11_see_15 ?_
      refine g_if_lt (tgt := 29) rfl dX11_see_16 (fun c => ?_) (fun c => ?_)
      · exact GO.pick [0, 1, 2, 3] rfl <| SX11_see_b29  M1 x1 x2 x3
      · refine g_iload_n 3 rfl rfl dX11_see_19 ?_
        refine g_bipush (v := 99) (by decide) dX11_see_20 ?_
        refine g_icmp_gt (tgt := 29) rfl dX11_see_22 (fun c => ?_) (fun c => ?_)
        · exact GO.pick [0, 1, 2, 3] rfl <| SX11_see_b29  M1 x1 x2 x3
        · refine g_iconst (v := 1) (by decide) dX11_see_25 ?_
          refine g_goto (tgt := 30) rfl dX11_see_26 ?_
          exact GO.pick [0, 1, 2, 3] rfl <| SX11_see_b30  M1 x1 x2 x3 1
def fX11_cropOfBrother (M : Mem) (x1 : Int32) (x2 : Int32) (x3 : Int32) : RS := chk (inb x1 8) (bI (fX3_cropOf 39 M x1 x2 (gi M 41 (ix x1)) x3) (fun M2 v3 => some (M2, .inr (some (.int v3)))))
theorem SX11_cropOfBrother (M : Mem) (x1 : Int32) (x2 : Int32) (x3 : Int32) : CTO (4) miX11_cropOfBrother 0 0 [.ref 0, .int x1, .int x2, .int x3] M (fX11_cropOfBrother  M x1 x2 x3) := by
  refine CTO.of (by decide) (by simp [lg_sl, Value.category]) ?_
  show GO miX11_cropOfBrother (4) 0 0 0 0 0 [(0, .ref 0), (1, .int x1), (2, .int x2), (3, .int x3)] [] M (chk (inb x1 8) (bI (fX3_cropOf 39 M x1 x2 (gi M 41 (ix x1)) x3) (fun M2 v3 => some (M2, .inr (some (.int v3))))))
  refine g_aload_n 0 rfl rfl dX11_cropOfBrother_0 ?_
  refine g_getR (k := 2) (b := 22) clX11 kd_0 (by decide) rfl rfl flX11_35 dX11_cropOfBrother_1 ?_
  refine g_aload_n 0 rfl rfl dX11_cropOfBrother_4 ?_
  refine g_getR (k := 3) (b := 38) clX11 kd_0 (by decide) rfl rfl flX11_42 dX11_cropOfBrother_5 ?_
  refine g_getR (k := 0) (b := 39) clX0 kd_38 (by decide) rfl rfl flX11_96 dX11_cropOfBrother_8 ?_
  refine g_iload_n 1 rfl rfl dX11_cropOfBrother_11 ?_
  refine g_iload_n 2 rfl rfl dX11_cropOfBrother_12 ?_
  refine g_aload_n 0 rfl rfl dX11_cropOfBrother_13 ?_
  refine g_getR (k := 3) (b := 38) clX11 kd_0 (by decide) rfl rfl flX11_42 dX11_cropOfBrother_14 ?_
  refine g_getR (k := 0) (b := 39) clX0 kd_38 (by decide) rfl rfl flX11_96 dX11_cropOfBrother_17 ?_
  refine g_getR (k := 8) (b := 41) clX8 kd_39 (by decide) rfl rfl flX11_172 dX11_cropOfBrother_20 ?_
  refine g_iload_n 1 rfl rfl dX11_cropOfBrother_23 ?_
  refine g_ald kd_41 dX11_cropOfBrother_24 (fun hi1 => ?_)
  refine g_iload_n 3 rfl rfl dX11_cropOfBrother_25 ?_
  refine g_callVI (y := miX3_cropOf) (As := [.ref 39, .int x1, .int x2, .int (gi M 41 (ix x1)), .int x3]) (rest := []) clX3 kd_22 rfl moX3_cropOf rfl mlX11_210 (by first | decide | omega) (by decide) (by simp [Value.category]) rfl dX11_cropOfBrother_26 (SX3_cropOf 39 (by decide) M x1 x2 (gi M 41 (ix x1)) x3) (fun M2 v3 => ?_)
  exact g_ireturn rfl (by decide) (by decide) dX11_cropOfBrother_29 rfl rfl
def fX11_agrees_b63 (rec11 : Mem → Int32 → Int32 → Int32 → RS) (M : Mem) (x1 : Int32) (x2 : Int32) (x4 : Int32) : RS := rec11 M x1 x2 (x4 + 1)
theorem SX11_agrees_b63 (rec11 : Mem → Int32 → Int32 → Int32 → RS) (hrec11 : ∀ (M : Mem) (x1 : Int32) (x2 : Int32) (x4 : Int32), GO miX11_agrees (5) 0 0 0 0 11 [(0, .ref 0), (1, .int x1), (2, .int x2), (3, .ref 45), (4, .int x4)] [] M (rec11 M x1 x2 x4)) (M : Mem) (x1 : Int32) (x2 : Int32) (x4 : Int32) : GO miX11_agrees (5) 0 0 0 0 63 [(0, .ref 0), (1, .int x1), (2, .int x2), (3, .ref 45), (4, .int x4)] [] M (fX11_agrees_b63 rec11 M x1 x2 x4) := by
  show GO miX11_agrees (5) 0 0 0 0 63 [(0, .ref 0), (1, .int x1), (2, .int x2), (3, .ref 45), (4, .int x4)] [] M (rec11 M x1 x2 (x4 + 1))
  refine g_iinc (v := x4 + 1) (L' := [(4, .int (x4 + 1)), (0, .ref 0), (1, .int x1), (2, .int x2), (3, .ref 45)]) 4 rfl rfl (by decide) rfl dX11_agrees_63 ?_
  refine g_goto (tgt := 11) rfl dX11_agrees_66 ?_
  exact GO.pick [1, 2, 3, 4, 0] rfl <| hrec11 M x1 x2 (x4 + 1)
def fX11_agrees_b11 : Nat → Mem → Int32 → Int32 → Int32 → RS
  | 0 => fun _ _ _ _ => none
  | n + 1 => fun M x1 x2 x4 => if x4 < (gi M 45 3) then if x4 < 8 then chk (inb x4 8) (if (gi M 46 (ix x4)) = x1 then chk (inb x4 8) (bI (fX11_cropOfBrother M x1 x2 (gi M 47 (ix x4))) (fun M3 v4 => chk (inb x4 8) (if v4 = (gi M3 48 (ix x4)) then fX11_agrees_b63 (fX11_agrees_b11 n) M3 x1 x2 x4 else some (M3, .inr (some (.int 0)))))) else fX11_agrees_b63 (fX11_agrees_b11 n) M x1 x2 x4) else some (M, .inr (some (.int 1))) else some (M, .inr (some (.int 1)))
theorem SX11_agrees_b11 (n : Nat) : ∀ (M : Mem) (x1 : Int32) (x2 : Int32) (x4 : Int32), GO miX11_agrees (5) 0 0 0 0 11 [(0, .ref 0), (1, .int x1), (2, .int x2), (3, .ref 45), (4, .int x4)] [] M (fX11_agrees_b11 n M x1 x2 x4) := by
  induction n with
  | zero => intro M x1 x2 x4 ; exact GO.none
  | succ n hrec11 =>
    intro M x1 x2 x4 
    show GO miX11_agrees (5) 0 0 0 0 11 [(0, .ref 0), (1, .int x1), (2, .int x2), (3, .ref 45), (4, .int x4)] [] M (if x4 < (gi M 45 3) then if x4 < 8 then chk (inb x4 8) (if (gi M 46 (ix x4)) = x1 then chk (inb x4 8) (bI (fX11_cropOfBrother M x1 x2 (gi M 47 (ix x4))) (fun M3 v4 => chk (inb x4 8) (if v4 = (gi M3 48 (ix x4)) then fX11_agrees_b63 (fX11_agrees_b11 n) M3 x1 x2 x4 else some (M3, .inr (some (.int 0)))))) else fX11_agrees_b63 (fX11_agrees_b11 n) M x1 x2 x4) else some (M, .inr (some (.int 1))) else some (M, .inr (some (.int 1))))
    refine g_iload 4 rfl dX11_agrees_11 ?_
    refine g_aload_n 3 rfl rfl dX11_agrees_13 ?_
    refine g_getI (k := 3) clX7 kd_45 (by decide) rfl flX11_151 dX11_agrees_14 ?_
    refine g_icmp_ge (tgt := 69) rfl dX11_agrees_17 (fun c => ?_) (fun c => ?_)
    · refine g_iconst (v := 1) (by decide) dX11_agrees_69 ?_
      exact g_zreturn rfl (by decide) (by decide) dX11_agrees_70 (by decide)
    · refine g_iload 4 rfl dX11_agrees_20 ?_
      refine g_bipush (v := 8) (by decide) dX11_agrees_22 ?_
      refine g_icmp_ge (tgt := 69) rfl dX11_agrees_24 (fun c => ?_) (fun c => ?_)
      · refine g_iconst (v := 1) (by decide) dX11_agrees_69 ?_
        exact g_zreturn rfl (by decide) (by decide) dX11_agrees_70 (by decide)
      · refine g_aload_n 3 rfl rfl dX11_agrees_27 ?_
        refine g_getR (k := 0) (b := 46) clX7 kd_45 (by decide) rfl rfl flX11_341 dX11_agrees_28 ?_
        refine g_iload 4 rfl dX11_agrees_31 ?_
        refine g_ald kd_46 dX11_agrees_33 (fun hi1 => ?_)
        refine g_iload_n 1 rfl rfl dX11_agrees_34 ?_
        refine g_icmp_ne (tgt := 63) rfl dX11_agrees_35 (fun c => ?_) (fun c => ?_)
        · exact GO.pick [0, 1, 2, 3, 4] rfl <| SX11_agrees_b63  (fX11_agrees_b11 n) hrec11 M x1 x2 x4
        · refine g_aload_n 0 rfl rfl dX11_agrees_38 ?_
          refine g_iload_n 1 rfl rfl dX11_agrees_39 ?_
          refine g_iload_n 2 rfl rfl dX11_agrees_40 ?_
          refine g_aload_n 3 rfl rfl dX11_agrees_41 ?_
          refine g_getR (k := 1) (b := 47) clX7 kd_45 (by decide) rfl rfl flX11_344 dX11_agrees_42 ?_
          refine g_iload 4 rfl dX11_agrees_45 ?_
          refine g_ald kd_47 dX11_agrees_47 (fun hi2 => ?_)
          refine g_callVI (y := miX11_cropOfBrother) (As := [.int x1, .int x2, .int (gi M 47 (ix x4))]) (rest := []) clX11 kd_0 rfl moX11_cropOfBrother rfl mlX11_346 (by first | decide | omega) (by decide) (by simp [Value.category]) rfl dX11_agrees_48 (SX11_cropOfBrother  M x1 x2 (gi M 47 (ix x4))) (fun M3 v4 => ?_)
          refine g_aload_n 3 rfl rfl dX11_agrees_51 ?_
          refine g_getR (k := 2) (b := 48) clX7 kd_45 (by decide) rfl rfl flX11_350 dX11_agrees_52 ?_
          refine g_iload 4 rfl dX11_agrees_55 ?_
          refine g_ald kd_48 dX11_agrees_57 (fun hi5 => ?_)
          refine g_icmp_eq (tgt := 63) rfl dX11_agrees_58 (fun c => ?_) (fun c => ?_)
          · exact GO.pick [0, 1, 2, 3, 4] rfl <| SX11_agrees_b63  (fX11_agrees_b11 n) hrec11 M3 x1 x2 x4
          · refine g_iconst (v := 0) (by decide) dX11_agrees_61 ?_
            exact g_zreturn rfl (by decide) (by decide) dX11_agrees_62 (by decide)
def fX11_agrees (M : Mem) (x1 : Int32) (x2 : Int32) : RS := fX11_agrees_b11  FU M x1 x2 0
theorem SX11_agrees (M : Mem) (x1 : Int32) (x2 : Int32) : CTO (5) miX11_agrees 0 0 [.ref 0, .int x1, .int x2] M (fX11_agrees  M x1 x2) := by
  refine CTO.of (by decide) (by simp [lg_sl, Value.category]) ?_
  show GO miX11_agrees (5) 0 0 0 0 0 [(0, .ref 0), (1, .int x1), (2, .int x2)] [] M (fX11_agrees_b11  FU M x1 x2 0)
  refine g_aload_n 0 rfl rfl dX11_agrees_0 ?_
  refine g_getR (k := 3) (b := 38) clX11 kd_0 (by decide) rfl rfl flX11_42 dX11_agrees_1 ?_
  refine g_getR (k := 2) (b := 45) clX0 kd_38 (by decide) rfl rfl flX11_147 dX11_agrees_4 ?_
  refine g_astore_n (L' := [(3, .ref 45), (0, .ref 0), (1, .int x1), (2, .int x2)]) (by decide) rfl rfl dX11_agrees_7 ?_
  refine g_iconst (v := 0) (by decide) dX11_agrees_8 ?_
  refine g_istore (L' := [(4, .int 0), (3, .ref 45), (0, .ref 0), (1, .int x1), (2, .int x2)]) (by decide) rfl dX11_agrees_9 ?_
  exact GO.pick [2, 3, 4, 1, 0] rfl <| SX11_agrees_b11  FU M x1 x2 0
def fX11_brothers_b67 (rec6 : Mem → Int32 → Int32 → Int32 → RS) (M : Mem) (x1 : Int32) (x2 : Int32) (x3 : Int32) : RS := rec6 M x1 x2 (x3 + 1)
theorem SX11_brothers_b67 (rec6 : Mem → Int32 → Int32 → Int32 → RS) (hrec6 : ∀ (M : Mem) (x1 : Int32) (x2 : Int32) (x3 : Int32), GO miX11_brothers (6) 0 0 0 0 6 [(0, .ref 0), (1, .int x1), (2, .int x2), (3, .int x3)] [] M (rec6 M x1 x2 x3)) (M : Mem) (x1 : Int32) (x2 : Int32) (x3 : Int32) : GO miX11_brothers (6) 0 0 0 0 67 [(0, .ref 0), (1, .int x1), (2, .int x2), (3, .int x3)] [] M (fX11_brothers_b67 rec6 M x1 x2 x3) := by
  show GO miX11_brothers (6) 0 0 0 0 67 [(0, .ref 0), (1, .int x1), (2, .int x2), (3, .int x3)] [] M (rec6 M x1 x2 (x3 + 1))
  refine g_iinc (v := x3 + 1) (L' := [(3, .int (x3 + 1)), (0, .ref 0), (1, .int x1), (2, .int x2)]) 3 rfl rfl (by decide) rfl dX11_brothers_67 ?_
  refine g_goto (tgt := 6) rfl dX11_brothers_70 ?_
  exact GO.pick [1, 2, 3, 0] rfl <| hrec6 M x1 x2 (x3 + 1)
def fX11_brothers_b51 (rec6 : Mem → Int32 → Int32 → Int32 → RS) (M : Mem) (x1 : Int32) (x2 : Int32) (x3 : Int32) (x4 : Int32) : RS := bI (fX11_agrees M x3 x4) (fun M5 v6 => if v6 = 0 then fX11_brothers_b67 rec6 M5 x1 x2 x3 else fX11_brothers_b67 rec6 M5 x1 (x2 ||| ((1 : Int32) <<< (x3 &&& 31))) x3)
theorem SX11_brothers_b51 (rec6 : Mem → Int32 → Int32 → Int32 → RS) (hrec6 : ∀ (M : Mem) (x1 : Int32) (x2 : Int32) (x3 : Int32), GO miX11_brothers (6) 0 0 0 0 6 [(0, .ref 0), (1, .int x1), (2, .int x2), (3, .int x3)] [] M (rec6 M x1 x2 x3)) (M : Mem) (x1 : Int32) (x2 : Int32) (x3 : Int32) (x4 : Int32) : GO miX11_brothers (6) 0 0 0 0 51 [(0, .ref 0), (1, .int x1), (2, .int x2), (3, .int x3), (4, .int x4)] [] M (fX11_brothers_b51 rec6 M x1 x2 x3 x4) := by
  show GO miX11_brothers (6) 0 0 0 0 51 [(0, .ref 0), (1, .int x1), (2, .int x2), (3, .int x3), (4, .int x4)] [] M (bI (fX11_agrees M x3 x4) (fun M5 v6 => if v6 = 0 then fX11_brothers_b67 rec6 M5 x1 x2 x3 else fX11_brothers_b67 rec6 M5 x1 (x2 ||| ((1 : Int32) <<< (x3 &&& 31))) x3))
  refine g_aload_n 0 rfl rfl dX11_brothers_51 ?_
  refine g_iload_n 3 rfl rfl dX11_brothers_52 ?_
  refine g_iload 4 rfl dX11_brothers_53 ?_
  refine g_callVI (y := miX11_agrees) (As := [.int x3, .int x4]) (rest := []) clX11 kd_0 rfl moX11_agrees rfl mlX11_338 (by first | decide | omega) (by decide) (by simp [Value.category]) rfl dX11_brothers_55 (SX11_agrees  M x3 x4) (fun M5 v6 => ?_)
  refine g_if_eq (tgt := 67) rfl dX11_brothers_58 (fun c => ?_) (fun c => ?_)
  · exact GO.pick [0, 1, 2, 3] rfl <| SX11_brothers_b67  rec6 hrec6 M5 x1 x2 x3
  · refine g_iload_n 2 rfl rfl dX11_brothers_61 ?_
    refine g_iconst (v := 1) (by decide) dX11_brothers_62 ?_
    refine g_iload_n 3 rfl rfl dX11_brothers_63 ?_
    refine g_ishl dX11_brothers_64 ?_
    refine g_ior dX11_brothers_65 ?_
    refine g_istore_n (L' := [(2, .int (x2 ||| ((1 : Int32) <<< (x3 &&& 31)))), (0, .ref 0), (1, .int x1), (3, .int x3), (4, .int x4)]) (by decide) rfl rfl dX11_brothers_66 ?_
    exact GO.pick [1, 2, 0, 3] rfl <| SX11_brothers_b67  rec6 hrec6 M5 x1 (x2 ||| ((1 : Int32) <<< (x3 &&& 31))) x3
def fX11_brothers_b6 : Nat → Mem → Int32 → Int32 → Int32 → RS
  | 0 => fun _ _ _ _ => none
  | n + 1 => fun M x1 x2 x3 => if x3 < (gi M (isA (gb M 0)) 9) then bI (fX8_lotOf 39 M x3) (fun M1 v2 => bI (fX11_agrees M1 x3 (1 - v2)) (fun M3 v4 => if v4 = 0 then fX11_brothers_b51 (fX11_brothers_b6 n) M3 x1 x2 x3 v2 else fX11_brothers_b51 (fX11_brothers_b6 n) M3 (x1 ||| ((1 : Int32) <<< (x3 &&& 31))) x2 x3 v2)) else some (M, .inr (some (.int ((x2 <<< ((8 : Int32) &&& 31)) ||| x1))))
theorem SX11_brothers_b6 (n : Nat) : ∀ (M : Mem) (x1 : Int32) (x2 : Int32) (x3 : Int32), GO miX11_brothers (6) 0 0 0 0 6 [(0, .ref 0), (1, .int x1), (2, .int x2), (3, .int x3)] [] M (fX11_brothers_b6 n M x1 x2 x3) := by
  induction n with
  | zero => intro M x1 x2 x3 ; exact GO.none
  | succ n hrec6 =>
    intro M x1 x2 x3 
    show GO miX11_brothers (6) 0 0 0 0 6 [(0, .ref 0), (1, .int x1), (2, .int x2), (3, .int x3)] [] M (if x3 < (gi M (isA (gb M 0)) 9) then bI (fX8_lotOf 39 M x3) (fun M1 v2 => bI (fX11_agrees M1 x3 (1 - v2)) (fun M3 v4 => if v4 = 0 then fX11_brothers_b51 (fX11_brothers_b6 n) M3 x1 x2 x3 v2 else fX11_brothers_b51 (fX11_brothers_b6 n) M3 (x1 ||| ((1 : Int32) <<< (x3 &&& 31))) x2 x3 v2)) else some (M, .inr (some (.int ((x2 <<< ((8 : Int32) &&& 31)) ||| x1)))))
    refine g_iload_n 3 rfl rfl dX11_brothers_6 ?_
    refine g_aload_n 0 rfl rfl dX11_brothers_7 ?_
    refine g_getR (k := 2) (b := 22) clX11 kd_0 (by decide) rfl rfl flX11_35 dX11_brothers_8 ?_
    refine g_getR (k := 1) (b := (isA (gb M 0))) clX3 kd_22 (by decide) rfl rfl flX11_89 dX11_brothers_11 ?_
    refine g_getI (k := 9) clX2 (kv_d3_24_0 _ (isA_dom _)) (by decide) rfl flX11_106 dX11_brothers_14 ?_
    refine g_icmp_ge (tgt := 73) rfl dX11_brothers_17 (fun c => ?_) (fun c => ?_)
    · refine g_iload_n 2 rfl rfl dX11_brothers_73 ?_
      refine g_bipush (v := 8) (by decide) dX11_brothers_74 ?_
      refine g_ishl dX11_brothers_76 ?_
      refine g_iload_n 1 rfl rfl dX11_brothers_77 ?_
      refine g_ior dX11_brothers_78 ?_
      exact g_ireturn rfl (by decide) (by decide) dX11_brothers_79 rfl rfl
    · refine g_aload_n 0 rfl rfl dX11_brothers_20 ?_
      refine g_getR (k := 3) (b := 38) clX11 kd_0 (by decide) rfl rfl flX11_42 dX11_brothers_21 ?_
      refine g_getR (k := 0) (b := 39) clX0 kd_38 (by decide) rfl rfl flX11_96 dX11_brothers_24 ?_
      refine g_iload_n 3 rfl rfl dX11_brothers_27 ?_
      refine g_callVI (y := miX8_lotOf) (As := [.int x3]) (rest := []) clX8 kd_39 rfl moX8_lotOf rfl mlX11_169 (by first | decide | omega) (by decide) (by simp [Value.category]) rfl dX11_brothers_28 (SX8_lotOf 39 (by decide) M x3) (fun M1 v2 => ?_)
      refine g_istore (L' := [(4, .int v2), (0, .ref 0), (1, .int x1), (2, .int x2), (3, .int x3)]) (by decide) rfl dX11_brothers_31 ?_
      refine g_aload_n 1 rfl rfl dX11_brothers_33 ?_
      refine g_iload_n 4 rfl rfl dX11_brothers_34 ?_
      refine g_iconst (v := 1) (by decide) dX11_brothers_35 ?_
      refine g_iload 0 rfl dX11_brothers_36 ?_
      refine g_isub dX11_brothers_38 ?_
      refine g_callVI (y := miX11_agrees) (As := [.int x3, .int (1 - v2)]) (rest := []) clX11 kd_0 rfl moX11_agrees rfl mlX11_338 (by first | decide | omega) (by decide) (by simp [Value.category]) rfl dX11_brothers_39 (SX11_agrees  M1 x3 (1 - v2)) (fun M3 v4 => ?_)
      refine g_if_eq (tgt := 51) rfl dX11_brothers_42 (fun c => ?_) (fun c => ?_)
      · exact GO.pick [1, 2, 3, 4, 0] rfl <| SX11_brothers_b51  (fX11_brothers_b6 n) hrec6 M3 x1 x2 x3 v2
      · refine g_iload_n 2 rfl rfl dX11_brothers_45 ?_
        refine g_iconst (v := 1) (by decide) dX11_brothers_46 ?_
        refine g_iload_n 4 rfl rfl dX11_brothers_47 ?_
        refine g_ishl dX11_brothers_48 ?_
        refine g_ior dX11_brothers_49 ?_
        refine g_istore_n (L' := [(1, .int (x1 ||| ((1 : Int32) <<< (x3 &&& 31)))), (4, .int v2), (0, .ref 0), (2, .int x2), (3, .int x3)]) (by decide) rfl rfl dX11_brothers_50 ?_
        exact GO.pick [2, 0, 3, 4, 1] rfl <| SX11_brothers_b51  (fX11_brothers_b6 n) hrec6 M3 (x1 ||| ((1 : Int32) <<< (x3 &&& 31))) x2 x3 v2
def fX11_brothers (M : Mem)  : RS := fX11_brothers_b6  FU M 0 0 0
theorem SX11_brothers (M : Mem)  : CTO (6) miX11_brothers 0 0 [.ref 0] M (fX11_brothers  M ) := by
  refine CTO.of (by decide) (by simp [lg_sl, Value.category]) ?_
  show GO miX11_brothers (6) 0 0 0 0 0 [(0, .ref 0)] [] M (fX11_brothers_b6  FU M 0 0 0)
  refine g_iconst (v := 0) (by decide) dX11_brothers_0 ?_
  refine g_istore_n (L' := [(1, .int 0), (0, .ref 0)]) (by decide) rfl rfl dX11_brothers_1 ?_
  refine g_iconst (v := 0) (by decide) dX11_brothers_2 ?_
  refine g_istore_n (L' := [(2, .int 0), (1, .int 0), (0, .ref 0)]) (by decide) rfl rfl dX11_brothers_3 ?_
  refine g_iconst (v := 0) (by decide) dX11_brothers_4 ?_
  refine g_istore_n (L' := [(3, .int 0), (2, .int 0), (1, .int 0), (0, .ref 0)]) (by decide) rfl rfl dX11_brothers_5 ?_
  exact GO.pick [3, 2, 1, 0] rfl <| SX11_brothers_b6  FU M 0 0 0
def fX11_look_b62 (rec19 : Mem → Int32 → Int32 → Int32 → Int32 → Int32 → RS) (M : Mem) (x1 : Int32) (x2 : Int32) (x3 : Int32) (x4 : Int32) (x5 : Int32) : RS := rec19 M x1 x2 x3 x4 (x5 + 1)
theorem SX11_look_b62 (rec19 : Mem → Int32 → Int32 → Int32 → Int32 → Int32 → RS) (hrec19 : ∀ (M : Mem) (x1 : Int32) (x2 : Int32) (x3 : Int32) (x4 : Int32) (x5 : Int32), GO miX11_look (7) 2 12 2 12 19 [(0, .ref 0), (1, .int x1), (2, .int x2), (3, .int x3), (4, .int x4), (5, .int x5)] [] M (rec19 M x1 x2 x3 x4 x5)) (M : Mem) (x1 : Int32) (x2 : Int32) (x3 : Int32) (x4 : Int32) (x5 : Int32) : GO miX11_look (7) 2 12 2 12 62 [(0, .ref 0), (1, .int x1), (2, .int x2), (3, .int x3), (4, .int x4), (5, .int x5)] [] M (fX11_look_b62 rec19 M x1 x2 x3 x4 x5) := by
  show GO miX11_look (7) 2 12 2 12 62 [(0, .ref 0), (1, .int x1), (2, .int x2), (3, .int x3), (4, .int x4), (5, .int x5)] [] M (rec19 M x1 x2 x3 x4 (x5 + 1))
  refine g_iinc (v := x5 + 1) (L' := [(5, .int (x5 + 1)), (0, .ref 0), (1, .int x1), (2, .int x2), (3, .int x3), (4, .int x4)]) 5 rfl rfl (by decide) rfl dX11_look_62 ?_
  refine g_goto (tgt := 19) rfl dX11_look_65 ?_
  exact GO.pick [1, 2, 3, 4, 5, 0] rfl <| hrec19 M x1 x2 x3 x4 (x5 + 1)
def fX11_look_b19 : Nat → Mem → Int32 → Int32 → Int32 → Int32 → Int32 → RS
  | 0 => fun _ _ _ _ _ _ => none
  | n + 1 => fun M x1 x2 x3 x4 x5 => if 99 < x5 then if x2 = 0 then some (M, .inr (some (.int x3))) else some (M, .inr (some (.int x4))) else bI (fX11_cropOfBrother M x1 0 x5) (fun M5 v6 => bI (fX11_cropOfBrother M5 x1 1 x5) (fun M7 v8 => if x4 < (if 0 ≤ (v6 - v8) then (v6 - v8) else 0 - (v6 - v8)) then fX11_look_b62 (fX11_look_b19 n) M7 x1 x2 x5 (if 0 ≤ (v6 - v8) then (v6 - v8) else 0 - (v6 - v8)) x5 else fX11_look_b62 (fX11_look_b19 n) M7 x1 x2 x3 x4 x5))
theorem SX11_look_b19 (n : Nat) : ∀ (M : Mem) (x1 : Int32) (x2 : Int32) (x3 : Int32) (x4 : Int32) (x5 : Int32), GO miX11_look (7) 2 12 2 12 19 [(0, .ref 0), (1, .int x1), (2, .int x2), (3, .int x3), (4, .int x4), (5, .int x5)] [] M (fX11_look_b19 n M x1 x2 x3 x4 x5) := by
  induction n with
  | zero => intro M x1 x2 x3 x4 x5 ; exact GO.none
  | succ n hrec19 =>
    intro M x1 x2 x3 x4 x5 
    show GO miX11_look (7) 2 12 2 12 19 [(0, .ref 0), (1, .int x1), (2, .int x2), (3, .int x3), (4, .int x4), (5, .int x5)] [] M (if 99 < x5 then if x2 = 0 then some (M, .inr (some (.int x3))) else some (M, .inr (some (.int x4))) else bI (fX11_cropOfBrother M x1 0 x5) (fun M5 v6 => bI (fX11_cropOfBrother M5 x1 1 x5) (fun M7 v8 => if x4 < (if 0 ≤ (v6 - v8) then (v6 - v8) else 0 - (v6 - v8)) then fX11_look_b62 (fX11_look_b19 n) M7 x1 x2 x5 (if 0 ≤ (v6 - v8) then (v6 - v8) else 0 - (v6 - v8)) x5 else fX11_look_b62 (fX11_look_b19 n) M7 x1 x2 x3 x4 x5)))
    refine g_iload 5 rfl dX11_look_19 ?_
    refine g_bipush (v := 99) (by decide) dX11_look_21 ?_
    refine g_icmp_gt (tgt := 68) rfl dX11_look_23 (fun c => ?_) (fun c => ?_)
    · refine g_iload_n 2 rfl rfl dX11_look_68 ?_
      refine g_if_ne (tgt := 76) rfl dX11_look_69 (fun c => ?_) (fun c => ?_)
      · refine g_iload 4 rfl dX11_look_76 ?_
        exact g_ireturn rfl (by decide) (by decide) dX11_look_78 rfl rfl
      · refine g_iload_n 3 rfl rfl dX11_look_72 ?_
        refine g_goto (tgt := 78) rfl dX11_look_73 ?_
        exact g_ireturn rfl (by decide) (by decide) dX11_look_78 rfl rfl
    · refine g_aload_n 0 rfl rfl dX11_look_26 ?_
      refine g_iload_n 1 rfl rfl dX11_look_27 ?_
      refine g_iconst (v := 0) (by decide) dX11_look_28 ?_
      refine g_iload 5 rfl dX11_look_29 ?_
      refine g_callVI (y := miX11_cropOfBrother) (As := [.int x1, .int 0, .int x5]) (rest := []) clX11 kd_0 rfl moX11_cropOfBrother rfl mlX11_346 (by first | decide | omega) (by decide) (by simp [Value.category]) rfl dX11_look_31 (SX11_cropOfBrother  M x1 0 x5) (fun M5 v6 => ?_)
      refine g_aload_n 0 rfl rfl dX11_look_34 ?_
      refine g_iload_n 1 rfl rfl dX11_look_35 ?_
      refine g_iconst (v := 1) (by decide) dX11_look_36 ?_
      refine g_iload 5 rfl dX11_look_37 ?_
      refine g_callVI (y := miX11_cropOfBrother) (As := [.int x1, .int 1, .int x5]) (rest := [.int v6]) clX11 kd_0 rfl moX11_cropOfBrother rfl mlX11_346 (by first | decide | omega) (by decide) (by simp [Value.category]) rfl dX11_look_39 (SX11_cropOfBrother  M5 x1 1 x5) (fun M7 v8 => ?_)
      refine g_isub dX11_look_42 ?_
      refine g_mabs mlX11_353 ms_abs mt_Math mc_abs (by first | decide | omega) (by decide) (by simp [Value.category]) dX11_look_43 ?_
      refine g_istore (L' := [(6, .int (if 0 ≤ (v6 - v8) then (v6 - v8) else 0 - (v6 - v8))), (0, .ref 0), (1, .int x1), (2, .int x2), (3, .int x3), (4, .int x4), (5, .int x5)]) (by decide) rfl dX11_look_46 ?_
      refine g_iload 0 rfl dX11_look_48 ?_
      refine g_iload 5 rfl dX11_look_50 ?_
      refine g_icmp_le (tgt := 62) rfl dX11_look_52 (fun c => ?_) (fun c => ?_)
      · exact GO.pick [1, 2, 3, 4, 5, 6] rfl <| SX11_look_b62  (fX11_look_b19 n) hrec19 M7 x1 x2 x3 x4 x5
      · refine g_iload 0 rfl dX11_look_55 ?_
        refine g_istore (L' := [(4, .int (if 0 ≤ (v6 - v8) then (v6 - v8) else 0 - (v6 - v8))), (6, .int (if 0 ≤ (v6 - v8) then (v6 - v8) else 0 - (v6 - v8))), (0, .ref 0), (1, .int x1), (2, .int x2), (3, .int x3), (5, .int x5)]) (by decide) rfl dX11_look_57 ?_
        refine g_iload 6 rfl dX11_look_59 ?_
        refine g_istore_n (L' := [(3, .int x5), (4, .int (if 0 ≤ (v6 - v8) then (v6 - v8) else 0 - (v6 - v8))), (6, .int (if 0 ≤ (v6 - v8) then (v6 - v8) else 0 - (v6 - v8))), (0, .ref 0), (1, .int x1), (2, .int x2), (5, .int x5)]) (by decide) rfl rfl dX11_look_61 ?_
        exact GO.pick [3, 4, 5, 0, 1, 6] rfl <| SX11_look_b62  (fX11_look_b19 n) hrec19 M7 x1 x2 x5 (if 0 ≤ (v6 - v8) then (v6 - v8) else 0 - (v6 - v8)) x5
def fX11_look (M : Mem) (x1 : Int32) (x2 : Int32) : RS := bV (fX11_needHouse M x1) (fun M1 => bV (fX11_needWhat M1 x2 2) (fun M3 => fX11_look_b19  FU M3 x1 x2 (-1) 0 0))
theorem SX11_look (M : Mem) (x1 : Int32) (x2 : Int32) : CTO (7) miX11_look 2 12 [.ref 0, .int x1, .int x2] M (fX11_look  M x1 x2) := by
  refine CTO.of (by decide) (by simp [lg_sl, Value.category]) ?_
  show GO miX11_look (7) 2 12 0 0 0 [(0, .ref 0), (1, .int x1), (2, .int x2)] [] M (bV (fX11_needHouse M x1) (fun M1 => bV (fX11_needWhat M1 x2 2) (fun M3 => fX11_look_b19  FU M3 x1 x2 (-1) 0 0)))
  refine g_aload_n 0 rfl rfl dX11_look_0 ?_
  refine g_iload_n 1 rfl rfl dX11_look_1 ?_
  refine g_callVV (y := miX11_needHouse) (As := [.int x1]) (rest := []) clX11 kd_0 rfl moX11_needHouse rfl mlX11_157 (by first | decide | omega) (by decide) (by simp [Value.category]) rfl dX11_look_2 (SX11_needHouse  M x1) (fun M1 => ?_)
  refine g_aload_n 0 rfl rfl dX11_look_5 ?_
  refine g_iload_n 2 rfl rfl dX11_look_6 ?_
  refine g_iconst (v := 2) (by decide) dX11_look_7 ?_
  refine g_callVV (y := miX11_needWhat) (As := [.int x2, .int 2]) (rest := []) clX11 kd_0 rfl moX11_needWhat rfl mlX11_257 (by first | decide | omega) (by decide) (by simp [Value.category]) rfl dX11_look_8 (SX11_needWhat  M1 x2 2) (fun M3 => ?_)
  refine g_iconst (v := (-1)) (by decide) dX11_look_11 ?_
  refine g_istore_n (L' := [(3, .int (-1)), (0, .ref 0), (1, .int x1), (2, .int x2)]) (by decide) rfl rfl dX11_look_12 ?_
  refine g_iconst (v := 0) (by decide) dX11_look_13 ?_
  refine g_istore (L' := [(4, .int 0), (3, .int (-1)), (0, .ref 0), (1, .int x1), (2, .int x2)]) (by decide) rfl dX11_look_14 ?_
  refine g_iconst (v := 0) (by decide) dX11_look_16 ?_
  refine g_istore (L' := [(5, .int 0), (4, .int 0), (3, .int (-1)), (0, .ref 0), (1, .int x1), (2, .int x2)]) (by decide) rfl dX11_look_17 ?_
  exact GO.pick [3, 4, 5, 2, 1, 0] rfl <| SX11_look_b19  FU M3 x1 x2 (-1) 0 0
def fX11_forget (M : Mem)  : RS := wr (si M 45 3 0) (fun M1 => some (M1, .inr none))
theorem SX11_forget (M : Mem)  : CTO (0) miX11_forget 0 0 [.ref 0] M (fX11_forget  M ) := by
  refine CTO.of (by decide) (by simp [lg_sl, Value.category]) ?_
  show GO miX11_forget (0) 0 0 0 0 0 [(0, .ref 0)] [] M (wr (si M 45 3 0) (fun M1 => some (M1, .inr none)))
  refine g_aload_n 0 rfl rfl dX11_forget_0 ?_
  refine g_getR (k := 3) (b := 38) clX11 kd_0 (by decide) rfl rfl flX11_42 dX11_forget_1 ?_
  refine g_getR (k := 2) (b := 45) clX0 kd_38 (by decide) rfl rfl flX11_147 dX11_forget_4 ?_
  refine g_iconst (v := 0) (by decide) dX11_forget_7 ?_
  refine g_putI (k := 3) clX7 kd_45 (by decide) rfl (by decide) rfl flX11_151 dX11_forget_8 ?_
  refine GO.wr (fun M1 => ?_)
  exact g_vreturn rfl (by decide) (by decide) dX11_forget_11
def fX11_gain_b87 (M : Mem) (x6 : Int64) (s0 : Int32) : RS := if s0 = 0 then some (M, .inr (some (.long 0))) else some (M, .inr (some (.long (x6 - 5))))
theorem SX11_gain_b87 (M : Mem) (x6 : Int64) (s0 : Int32) : GO miX11_gain (5) 0 0 0 0 87 [(6, .long x6)] [.int s0] M (fX11_gain_b87 M x6 s0) := by
  show GO miX11_gain (5) 0 0 0 0 87 [(6, .long x6)] [.int s0] M (if s0 = 0 then some (M, .inr (some (.long 0))) else some (M, .inr (some (.long (x6 - 5)))))
  refine g_istore (L' := [(8, .int s0), (6, .long x6)]) (by decide) rfl dX11_gain_87 ?_
  refine g_iload 0 rfl dX11_gain_89 ?_
  refine g_if_eq (tgt := 103) rfl dX11_gain_91 (fun c => ?_) (fun c => ?_)
  · refine g_lconst (v := 0) (by decide) dX11_gain_103 ?_
    exact g_lreturn rfl (by decide) (by decide) dX11_gain_104
  · refine g_lload 1 rfl dX11_gain_94 ?_
    refine g_ldc2 (v := 5) coX11_364 dX11_gain_96 ?_
    refine g_lsub dX11_gain_99 ?_
    refine g_goto (tgt := 104) rfl dX11_gain_100 ?_
    exact g_lreturn rfl (by decide) (by decide) dX11_gain_104
def fX11_gain (M : Mem) (x1 : Int32) (x2 : Int32) (x3 : Int32) (x4 : Int32) (x5 : Int32) : RS := if x4 = 0 then bL (fX3_worthOfShare 39 M x1 0) (fun M7 v8 => some (M7, .inr (some (.long v8)))) else bI (fX3_worthOf 39 M x1 x3) (fun M1 v2 => if x5 = 0 then some (M1, .inr (some (.long (Int32.toInt64 v2)))) else bI (fX3_strengthOf 39 M1 x1) (fun M3 v4 => bI (fX3_strengthOf 39 M3 x2) (fun M5 v6 => if v6 < v4 then fX11_gain_b87  M5 (Int32.toInt64 v2) 1 else fX11_gain_b87  M5 (Int32.toInt64 v2) 0)))
theorem SX11_gain (M : Mem) (x1 : Int32) (x2 : Int32) (x3 : Int32) (x4 : Int32) (x5 : Int32) : CTO (5) miX11_gain 0 0 [.ref 0, .int x1, .int x2, .int x3, .int x4, .int x5] M (fX11_gain  M x1 x2 x3 x4 x5) := by
  refine CTO.of (by decide) (by simp [lg_sl, Value.category]) ?_
  show GO miX11_gain (5) 0 0 0 0 0 [(0, .ref 0), (1, .int x1), (2, .int x2), (3, .int x3), (4, .int x4), (5, .int x5)] [] M (if x4 = 0 then bL (fX3_worthOfShare 39 M x1 0) (fun M7 v8 => some (M7, .inr (some (.long v8)))) else bI (fX3_worthOf 39 M x1 x3) (fun M1 v2 => if x5 = 0 then some (M1, .inr (some (.long (Int32.toInt64 v2)))) else bI (fX3_strengthOf 39 M1 x1) (fun M3 v4 => bI (fX3_strengthOf 39 M3 x2) (fun M5 v6 => if v6 < v4 then fX11_gain_b87  M5 (Int32.toInt64 v2) 1 else fX11_gain_b87  M5 (Int32.toInt64 v2) 0))))
  refine g_iload 4 rfl dX11_gain_0 ?_
  refine g_if_ne (tgt := 22) rfl dX11_gain_2 (fun c => ?_) (fun c => ?_)
  · refine g_aload_n 0 rfl rfl dX11_gain_22 ?_
    refine g_getR (k := 2) (b := 22) clX11 kd_0 (by decide) rfl rfl flX11_35 dX11_gain_23 ?_
    refine g_aload_n 0 rfl rfl dX11_gain_26 ?_
    refine g_getR (k := 3) (b := 38) clX11 kd_0 (by decide) rfl rfl flX11_42 dX11_gain_27 ?_
    refine g_getR (k := 0) (b := 39) clX0 kd_38 (by decide) rfl rfl flX11_96 dX11_gain_30 ?_
    refine g_iload_n 1 rfl rfl dX11_gain_33 ?_
    refine g_iload_n 3 rfl rfl dX11_gain_34 ?_
    refine g_callVI (y := miX3_worthOf) (As := [.ref 39, .int x1, .int x3]) (rest := []) clX3 kd_22 rfl moX3_worthOf rfl mlX11_202 (by first | decide | omega) (by decide) (by simp [Value.category]) rfl dX11_gain_35 (SX3_worthOf 39 (by decide) M x1 x3) (fun M1 v2 => ?_)
    refine g_i2l dX11_gain_38 ?_
    refine g_lstore (L' := [(6, .long (Int32.toInt64 v2)), (0, .ref 0), (1, .int x1), (2, .int x2), (3, .int x3), (4, .int x4), (5, .int x5)]) (by decide) rfl dX11_gain_39 ?_
    refine g_iload 6 rfl dX11_gain_41 ?_
    refine g_if_ne (tgt := 49) rfl dX11_gain_43 (fun c => ?_) (fun c => ?_)
    · refine g_aload_n 1 rfl rfl dX11_gain_49 ?_
      refine g_getR (k := 2) (b := 22) clX11 kd_0 (by decide) rfl rfl flX11_35 dX11_gain_50 ?_
      refine g_aload_n 1 rfl rfl dX11_gain_53 ?_
      refine g_getR (k := 3) (b := 38) clX11 kd_0 (by decide) rfl rfl flX11_42 dX11_gain_54 ?_
      refine g_getR (k := 0) (b := 39) clX0 kd_38 (by decide) rfl rfl flX11_96 dX11_gain_57 ?_
      refine g_iload_n 2 rfl rfl dX11_gain_60 ?_
      refine g_callVI (y := miX3_strengthOf) (As := [.ref 39, .int x1]) (rest := []) clX3 kd_22 rfl moX3_strengthOf rfl mlX11_290 (by first | decide | omega) (by decide) (by simp [Value.category]) rfl dX11_gain_61 (SX3_strengthOf 39 (by decide) M1 x1) (fun M3 v4 => ?_)
      refine g_aload_n 1 rfl rfl dX11_gain_64 ?_
      refine g_getR (k := 2) (b := 22) clX11 kd_0 (by decide) rfl rfl flX11_35 dX11_gain_65 ?_
      refine g_aload_n 1 rfl rfl dX11_gain_68 ?_
      refine g_getR (k := 3) (b := 38) clX11 kd_0 (by decide) rfl rfl flX11_42 dX11_gain_69 ?_
      refine g_getR (k := 0) (b := 39) clX0 kd_38 (by decide) rfl rfl flX11_96 dX11_gain_72 ?_
      refine g_iload_n 3 rfl rfl dX11_gain_75 ?_
      refine g_callVI (y := miX3_strengthOf) (As := [.ref 39, .int x2]) (rest := [.int v4]) clX3 kd_22 rfl moX3_strengthOf rfl mlX11_290 (by first | decide | omega) (by decide) (by simp [Value.category]) rfl dX11_gain_76 (SX3_strengthOf 39 (by decide) M3 x2) (fun M5 v6 => ?_)
      refine g_icmp_le (tgt := 86) rfl dX11_gain_79 (fun c => ?_) (fun c => ?_)
      · refine g_iconst (v := 0) (by decide) dX11_gain_86 ?_
        exact GO.pick [0] rfl <| SX11_gain_b87  M5 (Int32.toInt64 v2) 0
      · refine g_iconst (v := 1) (by decide) dX11_gain_82 ?_
        refine g_goto (tgt := 87) rfl dX11_gain_83 ?_
        exact GO.pick [0] rfl <| SX11_gain_b87  M5 (Int32.toInt64 v2) 1
    · refine g_lload 0 rfl dX11_gain_46 ?_
      exact g_lreturn rfl (by decide) (by decide) dX11_gain_48
  · refine g_aload_n 0 rfl rfl dX11_gain_5 ?_
    refine g_getR (k := 2) (b := 22) clX11 kd_0 (by decide) rfl rfl flX11_35 dX11_gain_6 ?_
    refine g_aload_n 0 rfl rfl dX11_gain_9 ?_
    refine g_getR (k := 3) (b := 38) clX11 kd_0 (by decide) rfl rfl flX11_42 dX11_gain_10 ?_
    refine g_getR (k := 0) (b := 39) clX0 kd_38 (by decide) rfl rfl flX11_96 dX11_gain_13 ?_
    refine g_iload_n 1 rfl rfl dX11_gain_16 ?_
    refine g_lconst (v := 0) (by decide) dX11_gain_17 ?_
    refine g_callVL (y := miX3_worthOfShare) (As := [.ref 39, .int x1, .long 0]) (rest := []) clX3 kd_22 rfl moX3_worthOfShare rfl mlX11_306 (by first | decide | omega) (by decide) (by simp [Value.category]) rfl dX11_gain_18 (SX3_worthOfShare 39 (by decide) M x1 0) (fun M7 v8 => ?_)
    exact g_lreturn rfl (by decide) (by decide) dX11_gain_21
def fX11_isContent_b14 (M : Mem) (x1 : Int32) (x2 : Int32) (x3 : Int32) (x4 : Int32) (x5 : Int32) (s0 : Int32) (s1 : Int32) (s2 : Int32) (s3 : Int32) : RS := bL (fX11_gain M s3 s2 s1 s0 x5) (fun M1 v2 => bL (fX11_gain M1 x1 x2 x3 x4 x5) (fun M3 v4 => if 0 < (lg_cmp v2 v4) then some (M3, .inr (some (.int 0))) else some (M3, .inr (some (.int 1)))))
theorem SX11_isContent_b14 (M : Mem) (x1 : Int32) (x2 : Int32) (x3 : Int32) (x4 : Int32) (x5 : Int32) (s0 : Int32) (s1 : Int32) (s2 : Int32) (s3 : Int32) : GO miX11_isContent (6) 0 0 0 0 14 [(0, .ref 0), (1, .int x1), (2, .int x2), (3, .int x3), (4, .int x4), (5, .int x5)] [.int s0, .int s1, .int s2, .int s3, .ref 0] M (fX11_isContent_b14 M x1 x2 x3 x4 x5 s0 s1 s2 s3) := by
  show GO miX11_isContent (6) 0 0 0 0 14 [(0, .ref 0), (1, .int x1), (2, .int x2), (3, .int x3), (4, .int x4), (5, .int x5)] [.int s0, .int s1, .int s2, .int s3, .ref 0] M (bL (fX11_gain M s3 s2 s1 s0 x5) (fun M1 v2 => bL (fX11_gain M1 x1 x2 x3 x4 x5) (fun M3 v4 => if 0 < (lg_cmp v2 v4) then some (M3, .inr (some (.int 0))) else some (M3, .inr (some (.int 1))))))
  refine g_iload 5 rfl dX11_isContent_14 ?_
  refine g_callVL (y := miX11_gain) (As := [.int s3, .int s2, .int s1, .int s0, .int x5]) (rest := []) clX11 kd_0 rfl moX11_gain rfl mlX11_360 (by first | decide | omega) (by decide) (by simp [Value.category]) rfl dX11_isContent_16 (SX11_gain  M s3 s2 s1 s0 x5) (fun M1 v2 => ?_)
  refine g_aload_n 0 rfl rfl dX11_isContent_19 ?_
  refine g_iload_n 1 rfl rfl dX11_isContent_20 ?_
  refine g_iload_n 2 rfl rfl dX11_isContent_21 ?_
  refine g_iload_n 3 rfl rfl dX11_isContent_22 ?_
  refine g_iload 4 rfl dX11_isContent_23 ?_
  refine g_iload 5 rfl dX11_isContent_25 ?_
  refine g_callVL (y := miX11_gain) (As := [.int x1, .int x2, .int x3, .int x4, .int x5]) (rest := [.long v2]) clX11 kd_0 rfl moX11_gain rfl mlX11_360 (by first | decide | omega) (by decide) (by simp [Value.category]) rfl dX11_isContent_27 (SX11_gain  M1 x1 x2 x3 x4 x5) (fun M3 v4 => ?_)
  refine g_lcmp dX11_isContent_30 ?_
  refine g_if_gt (tgt := 38) rfl dX11_isContent_31 (fun c => ?_) (fun c => ?_)
  · refine g_iconst (v := 0) (by decide) dX11_isContent_38 ?_
    exact g_zreturn rfl (by decide) (by decide) dX11_isContent_39 (by decide)
  · refine g_iconst (v := 1) (by decide) dX11_isContent_34 ?_
    refine g_goto (tgt := 39) rfl dX11_isContent_35 ?_
    exact g_zreturn rfl (by decide) (by decide) dX11_isContent_39 (by decide)
def fX11_isContent (M : Mem) (x1 : Int32) (x2 : Int32) (x3 : Int32) (x4 : Int32) (x5 : Int32) : RS := if x4 = 0 then fX11_isContent_b14  M x1 x2 x3 x4 x5 1 x3 x2 x1 else fX11_isContent_b14  M x1 x2 x3 x4 x5 0 x3 x2 x1
theorem SX11_isContent (M : Mem) (x1 : Int32) (x2 : Int32) (x3 : Int32) (x4 : Int32) (x5 : Int32) : CTO (6) miX11_isContent 0 0 [.ref 0, .int x1, .int x2, .int x3, .int x4, .int x5] M (fX11_isContent  M x1 x2 x3 x4 x5) := by
  refine CTO.of (by decide) (by simp [lg_sl, Value.category]) ?_
  show GO miX11_isContent (6) 0 0 0 0 0 [(0, .ref 0), (1, .int x1), (2, .int x2), (3, .int x3), (4, .int x4), (5, .int x5)] [] M (if x4 = 0 then fX11_isContent_b14  M x1 x2 x3 x4 x5 1 x3 x2 x1 else fX11_isContent_b14  M x1 x2 x3 x4 x5 0 x3 x2 x1)
  refine g_aload_n 0 rfl rfl dX11_isContent_0 ?_
  refine g_iload_n 1 rfl rfl dX11_isContent_1 ?_
  refine g_iload_n 2 rfl rfl dX11_isContent_2 ?_
  refine g_iload_n 3 rfl rfl dX11_isContent_3 ?_
  refine g_iload 4 rfl dX11_isContent_4 ?_
  refine g_if_ne (tgt := 13) rfl dX11_isContent_6 (fun c => ?_) (fun c => ?_)
  · refine g_iconst (v := 0) (by decide) dX11_isContent_13 ?_
    exact GO.pick [0, 1, 2, 3, 4, 5] rfl <| SX11_isContent_b14  M x1 x2 x3 x4 x5 0 x3 x2 x1
  · refine g_iconst (v := 1) (by decide) dX11_isContent_9 ?_
    refine g_goto (tgt := 14) rfl dX11_isContent_10 ?_
    exact GO.pick [0, 1, 2, 3, 4, 5] rfl <| SX11_isContent_b14  M x1 x2 x3 x4 x5 1 x3 x2 x1
def fX11_game_b134 (rec44 : Mem → Int32 → Int32 → Int32 → Int32 → Int32 → Int32 → Int32 → RS) (M : Mem) (x1 : Int32) (x2 : Int32) (x3 : Int32) (x4 : Int32) (x5 : Int32) (x6 : Int32) (x7 : Int32) : RS := rec44 M x1 x2 x3 x4 x5 x6 (x7 + 1)
theorem SX11_game_b134 (rec44 : Mem → Int32 → Int32 → Int32 → Int32 → Int32 → Int32 → Int32 → RS) (hrec44 : ∀ (M : Mem) (x1 : Int32) (x2 : Int32) (x3 : Int32) (x4 : Int32) (x5 : Int32) (x6 : Int32) (x7 : Int32), GO miX11_game (7) 5 30 4 24 44 [(0, .ref 0), (1, .int x1), (2, .int x2), (3, .int x3), (4, .int x4), (5, .int x5), (6, .int x6), (7, .int x7)] [] M (rec44 M x1 x2 x3 x4 x5 x6 x7)) (M : Mem) (x1 : Int32) (x2 : Int32) (x3 : Int32) (x4 : Int32) (x5 : Int32) (x6 : Int32) (x7 : Int32) : GO miX11_game (7) 5 30 4 24 134 [(0, .ref 0), (1, .int x1), (2, .int x2), (3, .int x3), (4, .int x4), (5, .int x5), (6, .int x6), (7, .int x7)] [] M (fX11_game_b134 rec44 M x1 x2 x3 x4 x5 x6 x7) := by
  show GO miX11_game (7) 5 30 4 24 134 [(0, .ref 0), (1, .int x1), (2, .int x2), (3, .int x3), (4, .int x4), (5, .int x5), (6, .int x6), (7, .int x7)] [] M (rec44 M x1 x2 x3 x4 x5 x6 (x7 + 1))
  refine g_iinc (v := x7 + 1) (L' := [(7, .int (x7 + 1)), (0, .ref 0), (1, .int x1), (2, .int x2), (3, .int x3), (4, .int x4), (5, .int x5), (6, .int x6)]) 7 rfl rfl (by decide) rfl dX11_game_134 ?_
  refine g_goto (tgt := 44) rfl dX11_game_137 ?_
  exact GO.pick [1, 2, 3, 4, 5, 6, 7, 0] rfl <| hrec44 M x1 x2 x3 x4 x5 x6 (x7 + 1)
def fX11_game_b132 (rec44 : Mem → Int32 → Int32 → Int32 → Int32 → Int32 → Int32 → Int32 → RS) (M : Mem) (x1 : Int32) (x2 : Int32) (x3 : Int32) (x4 : Int32) (x5 : Int32) (x7 : Int32) (s0 : Int32) : RS := fX11_game_b134 rec44 M x1 x2 x3 x4 x5 s0 x7
theorem SX11_game_b132 (rec44 : Mem → Int32 → Int32 → Int32 → Int32 → Int32 → Int32 → Int32 → RS) (hrec44 : ∀ (M : Mem) (x1 : Int32) (x2 : Int32) (x3 : Int32) (x4 : Int32) (x5 : Int32) (x6 : Int32) (x7 : Int32), GO miX11_game (7) 5 30 4 24 44 [(0, .ref 0), (1, .int x1), (2, .int x2), (3, .int x3), (4, .int x4), (5, .int x5), (6, .int x6), (7, .int x7)] [] M (rec44 M x1 x2 x3 x4 x5 x6 x7)) (M : Mem) (x1 : Int32) (x2 : Int32) (x3 : Int32) (x4 : Int32) (x5 : Int32) (x7 : Int32) (s0 : Int32) : GO miX11_game (7) 5 30 4 24 132 [(0, .ref 0), (1, .int x1), (2, .int x2), (3, .int x3), (4, .int x4), (5, .int x5), (7, .int x7)] [.int s0] M (fX11_game_b132 rec44 M x1 x2 x3 x4 x5 x7 s0) := by
  show GO miX11_game (7) 5 30 4 24 132 [(0, .ref 0), (1, .int x1), (2, .int x2), (3, .int x3), (4, .int x4), (5, .int x5), (7, .int x7)] [.int s0] M (fX11_game_b134 rec44 M x1 x2 x3 x4 x5 s0 x7)
  refine g_istore (L' := [(6, .int s0), (0, .ref 0), (1, .int x1), (2, .int x2), (3, .int x3), (4, .int x4), (5, .int x5), (7, .int x7)]) (by decide) rfl dX11_game_132 ?_
  exact GO.pick [1, 2, 3, 4, 5, 6, 0, 7] rfl <| SX11_game_b134  rec44 hrec44 M x1 x2 x3 x4 x5 s0 x7
def fX11_game_b76 (rec44 : Mem → Int32 → Int32 → Int32 → Int32 → Int32 → Int32 → Int32 → RS) (M : Mem) (x1 : Int32) (x2 : Int32) (x3 : Int32) (x4 : Int32) (x5 : Int32) (x6 : Int32) (x7 : Int32) (x8 : Int32) (s0 : Int32) : RS := bI (fX11_isContent M x1 x2 x3 x8 s0) (fun M9 v10 => if v10 = 0 then fX11_game_b134 rec44 M9 x1 x2 x3 x4 x5 x6 x7 else bI (fX11_isContent M9 x2 x1 x3 s0 x8) (fun M11 v12 => if v12 = 0 then fX11_game_b134 rec44 M11 x1 x2 x3 x4 x5 x6 x7 else if x6 = (-1) then fX11_game_b132 rec44 M11 x1 x2 x3 x4 (x5 + 1) x7 ((10 * (x7 >>> ((1 : Int32) &&& 31))) + (x7 &&& 1)) else fX11_game_b132 rec44 M11 x1 x2 x3 x4 (x5 + 1) x7 x6))
theorem SX11_game_b76 (rec44 : Mem → Int32 → Int32 → Int32 → Int32 → Int32 → Int32 → Int32 → RS) (hrec44 : ∀ (M : Mem) (x1 : Int32) (x2 : Int32) (x3 : Int32) (x4 : Int32) (x5 : Int32) (x6 : Int32) (x7 : Int32), GO miX11_game (7) 5 30 4 24 44 [(0, .ref 0), (1, .int x1), (2, .int x2), (3, .int x3), (4, .int x4), (5, .int x5), (6, .int x6), (7, .int x7)] [] M (rec44 M x1 x2 x3 x4 x5 x6 x7)) (M : Mem) (x1 : Int32) (x2 : Int32) (x3 : Int32) (x4 : Int32) (x5 : Int32) (x6 : Int32) (x7 : Int32) (x8 : Int32) (s0 : Int32) : GO miX11_game (7) 5 30 4 24 76 [(0, .ref 0), (1, .int x1), (2, .int x2), (3, .int x3), (4, .int x4), (5, .int x5), (6, .int x6), (7, .int x7), (8, .int x8)] [.int s0] M (fX11_game_b76 rec44 M x1 x2 x3 x4 x5 x6 x7 x8 s0) := by
  show GO miX11_game (7) 5 30 4 24 76 [(0, .ref 0), (1, .int x1), (2, .int x2), (3, .int x3), (4, .int x4), (5, .int x5), (6, .int x6), (7, .int x7), (8, .int x8)] [.int s0] M (bI (fX11_isContent M x1 x2 x3 x8 s0) (fun M9 v10 => if v10 = 0 then fX11_game_b134 rec44 M9 x1 x2 x3 x4 x5 x6 x7 else bI (fX11_isContent M9 x2 x1 x3 s0 x8) (fun M11 v12 => if v12 = 0 then fX11_game_b134 rec44 M11 x1 x2 x3 x4 x5 x6 x7 else if x6 = (-1) then fX11_game_b132 rec44 M11 x1 x2 x3 x4 (x5 + 1) x7 ((10 * (x7 >>> ((1 : Int32) &&& 31))) + (x7 &&& 1)) else fX11_game_b132 rec44 M11 x1 x2 x3 x4 (x5 + 1) x7 x6)))
  refine g_istore (L' := [(9, .int s0), (0, .ref 0), (1, .int x1), (2, .int x2), (3, .int x3), (4, .int x4), (5, .int x5), (6, .int x6), (7, .int x7), (8, .int x8)]) (by decide) rfl dX11_game_76 ?_
  refine g_aload_n 1 rfl rfl dX11_game_78 ?_
  refine g_iload_n 2 rfl rfl dX11_game_79 ?_
  refine g_iload_n 3 rfl rfl dX11_game_80 ?_
  refine g_iload_n 4 rfl rfl dX11_game_81 ?_
  refine g_iload 9 rfl dX11_game_82 ?_
  refine g_iload 0 rfl dX11_game_84 ?_
  refine g_callVI (y := miX11_isContent) (As := [.int x1, .int x2, .int x3, .int x8, .int s0]) (rest := []) clX11 kd_0 rfl moX11_isContent rfl mlX11_356 (by first | decide | omega) (by decide) (by simp [Value.category]) rfl dX11_game_86 (SX11_isContent  M x1 x2 x3 x8 s0) (fun M9 v10 => ?_)
  refine g_if_eq (tgt := 134) rfl dX11_game_89 (fun c => ?_) (fun c => ?_)
  · exact GO.pick [1, 2, 3, 4, 5, 6, 7, 8] rfl <| SX11_game_b134  rec44 hrec44 M9 x1 x2 x3 x4 x5 x6 x7
  · refine g_aload_n 1 rfl rfl dX11_game_92 ?_
    refine g_iload_n 3 rfl rfl dX11_game_93 ?_
    refine g_iload_n 2 rfl rfl dX11_game_94 ?_
    refine g_iload_n 4 rfl rfl dX11_game_95 ?_
    refine g_iload 0 rfl dX11_game_96 ?_
    refine g_iload 9 rfl dX11_game_98 ?_
    refine g_callVI (y := miX11_isContent) (As := [.int x2, .int x1, .int x3, .int s0, .int x8]) (rest := []) clX11 kd_0 rfl moX11_isContent rfl mlX11_356 (by first | decide | omega) (by decide) (by simp [Value.category]) rfl dX11_game_100 (SX11_isContent  M9 x2 x1 x3 s0 x8) (fun M11 v12 => ?_)
    refine g_if_eq (tgt := 134) rfl dX11_game_103 (fun c => ?_) (fun c => ?_)
    · exact GO.pick [1, 2, 3, 4, 5, 6, 7, 8] rfl <| SX11_game_b134  rec44 hrec44 M11 x1 x2 x3 x4 x5 x6 x7
    · refine g_iinc (v := x5 + 1) (L' := [(5, .int (x5 + 1)), (9, .int s0), (0, .ref 0), (1, .int x1), (2, .int x2), (3, .int x3), (4, .int x4), (6, .int x6), (7, .int x7), (8, .int x8)]) 6 rfl rfl (by decide) rfl dX11_game_106 ?_
      refine g_iload 7 rfl dX11_game_109 ?_
      refine g_iconst (v := (-1)) (by decide) dX11_game_111 ?_
      refine g_icmp_ne (tgt := 130) rfl dX11_game_112 (fun c => ?_) (fun c => ?_)
      · refine g_iload 7 rfl dX11_game_130 ?_
        exact GO.pick [2, 3, 4, 5, 6, 0, 8] rfl <| SX11_game_b132  rec44 hrec44 M11 x1 x2 x3 x4 (x5 + 1) x7 x6
      · refine g_bipush (v := 10) (by decide) dX11_game_115 ?_
        refine g_iload 8 rfl dX11_game_117 ?_
        refine g_iconst (v := 1) (by decide) dX11_game_119 ?_
        refine g_ishr dX11_game_120 ?_
        refine g_imul dX11_game_121 ?_
        refine g_iload 8 rfl dX11_game_122 ?_
        refine g_iconst (v := 1) (by decide) dX11_game_124 ?_
        refine g_iand dX11_game_125 ?_
        refine g_iadd dX11_game_126 ?_
        refine g_goto (tgt := 132) rfl dX11_game_127 ?_
        exact GO.pick [2, 3, 4, 5, 6, 0, 8] rfl <| SX11_game_b132  rec44 hrec44 M11 x1 x2 x3 x4 (x5 + 1) x7 ((10 * (x7 >>> ((1 : Int32) &&& 31))) + (x7 &&& 1))
def fX11_game_b62 (rec44 : Mem → Int32 → Int32 → Int32 → Int32 → Int32 → Int32 → Int32 → RS) (M : Mem) (x1 : Int32) (x2 : Int32) (x3 : Int32) (x4 : Int32) (x5 : Int32) (x6 : Int32) (x7 : Int32) (s0 : Int32) : RS := if (x7 &&& 1) = 0 then fX11_game_b76 rec44 M x1 x2 x3 x4 x5 x6 x7 s0 0 else fX11_game_b76 rec44 M x1 x2 x3 x4 x5 x6 x7 s0 1
theorem SX11_game_b62 (rec44 : Mem → Int32 → Int32 → Int32 → Int32 → Int32 → Int32 → Int32 → RS) (hrec44 : ∀ (M : Mem) (x1 : Int32) (x2 : Int32) (x3 : Int32) (x4 : Int32) (x5 : Int32) (x6 : Int32) (x7 : Int32), GO miX11_game (7) 5 30 4 24 44 [(0, .ref 0), (1, .int x1), (2, .int x2), (3, .int x3), (4, .int x4), (5, .int x5), (6, .int x6), (7, .int x7)] [] M (rec44 M x1 x2 x3 x4 x5 x6 x7)) (M : Mem) (x1 : Int32) (x2 : Int32) (x3 : Int32) (x4 : Int32) (x5 : Int32) (x6 : Int32) (x7 : Int32) (s0 : Int32) : GO miX11_game (7) 5 30 4 24 62 [(0, .ref 0), (1, .int x1), (2, .int x2), (3, .int x3), (4, .int x4), (5, .int x5), (6, .int x6), (7, .int x7)] [.int s0] M (fX11_game_b62 rec44 M x1 x2 x3 x4 x5 x6 x7 s0) := by
  show GO miX11_game (7) 5 30 4 24 62 [(0, .ref 0), (1, .int x1), (2, .int x2), (3, .int x3), (4, .int x4), (5, .int x5), (6, .int x6), (7, .int x7)] [.int s0] M (if (x7 &&& 1) = 0 then fX11_game_b76 rec44 M x1 x2 x3 x4 x5 x6 x7 s0 0 else fX11_game_b76 rec44 M x1 x2 x3 x4 x5 x6 x7 s0 1)
  refine g_istore (L' := [(8, .int s0), (0, .ref 0), (1, .int x1), (2, .int x2), (3, .int x3), (4, .int x4), (5, .int x5), (6, .int x6), (7, .int x7)]) (by decide) rfl dX11_game_62 ?_
  refine g_iload 8 rfl dX11_game_64 ?_
  refine g_iconst (v := 1) (by decide) dX11_game_66 ?_
  refine g_iand dX11_game_67 ?_
  refine g_if_eq (tgt := 75) rfl dX11_game_68 (fun c => ?_) (fun c => ?_)
  · refine g_iconst (v := 0) (by decide) dX11_game_75 ?_
    exact GO.pick [1, 2, 3, 4, 5, 6, 7, 8, 0] rfl <| SX11_game_b76  rec44 hrec44 M x1 x2 x3 x4 x5 x6 x7 s0 0
  · refine g_iconst (v := 1) (by decide) dX11_game_71 ?_
    refine g_goto (tgt := 76) rfl dX11_game_72 ?_
    exact GO.pick [1, 2, 3, 4, 5, 6, 7, 8, 0] rfl <| SX11_game_b76  rec44 hrec44 M x1 x2 x3 x4 x5 x6 x7 s0 1
def fX11_game_b44 : Nat → Mem → Int32 → Int32 → Int32 → Int32 → Int32 → Int32 → Int32 → RS
  | 0 => fun _ _ _ _ _ _ _ _ => none
  | n + 1 => fun M x1 x2 x3 x4 x5 x6 x7 => if x7 < 4 then if (x7 &&& 2) = 0 then fX11_game_b62 (fX11_game_b44 n) M x1 x2 x3 x4 x5 x6 x7 0 else fX11_game_b62 (fX11_game_b44 n) M x1 x2 x3 x4 x5 x6 x7 1 else if x4 = 0 then some (M, .inr (some (.int x5))) else some (M, .inr (some (.int x6)))
theorem SX11_game_b44 (n : Nat) : ∀ (M : Mem) (x1 : Int32) (x2 : Int32) (x3 : Int32) (x4 : Int32) (x5 : Int32) (x6 : Int32) (x7 : Int32), GO miX11_game (7) 5 30 4 24 44 [(0, .ref 0), (1, .int x1), (2, .int x2), (3, .int x3), (4, .int x4), (5, .int x5), (6, .int x6), (7, .int x7)] [] M (fX11_game_b44 n M x1 x2 x3 x4 x5 x6 x7) := by
  induction n with
  | zero => intro M x1 x2 x3 x4 x5 x6 x7 ; exact GO.none
  | succ n hrec44 =>
    intro M x1 x2 x3 x4 x5 x6 x7 
    show GO miX11_game (7) 5 30 4 24 44 [(0, .ref 0), (1, .int x1), (2, .int x2), (3, .int x3), (4, .int x4), (5, .int x5), (6, .int x6), (7, .int x7)] [] M (if x7 < 4 then if (x7 &&& 2) = 0 then fX11_game_b62 (fX11_game_b44 n) M x1 x2 x3 x4 x5 x6 x7 0 else fX11_game_b62 (fX11_game_b44 n) M x1 x2 x3 x4 x5 x6 x7 1 else if x4 = 0 then some (M, .inr (some (.int x5))) else some (M, .inr (some (.int x6))))
    refine g_iload 7 rfl dX11_game_44 ?_
    refine g_iconst (v := 4) (by decide) dX11_game_46 ?_
    refine g_icmp_ge (tgt := 140) rfl dX11_game_47 (fun c => ?_) (fun c => ?_)
    · refine g_iload 4 rfl dX11_game_140 ?_
      refine g_if_ne (tgt := 150) rfl dX11_game_142 (fun c => ?_) (fun c => ?_)
      · refine g_iload 6 rfl dX11_game_150 ?_
        exact g_ireturn rfl (by decide) (by decide) dX11_game_152 rfl rfl
      · refine g_iload 5 rfl dX11_game_145 ?_
        refine g_goto (tgt := 152) rfl dX11_game_147 ?_
        exact g_ireturn rfl (by decide) (by decide) dX11_game_152 rfl rfl
    · refine g_iload 7 rfl dX11_game_50 ?_
      refine g_iconst (v := 2) (by decide) dX11_game_52 ?_
      refine g_iand dX11_game_53 ?_
      refine g_if_eq (tgt := 61) rfl dX11_game_54 (fun c => ?_) (fun c => ?_)
      · refine g_iconst (v := 0) (by decide) dX11_game_61 ?_
        exact GO.pick [0, 1, 2, 3, 4, 5, 6, 7] rfl <| SX11_game_b62  (fX11_game_b44 n) hrec44 M x1 x2 x3 x4 x5 x6 x7 0
      · refine g_iconst (v := 1) (by decide) dX11_game_57 ?_
        refine g_goto (tgt := 62) rfl dX11_game_58 ?_
        exact GO.pick [0, 1, 2, 3, 4, 5, 6, 7] rfl <| SX11_game_b62  (fX11_game_b44 n) hrec44 M x1 x2 x3 x4 x5 x6 x7 1
def fX11_game (M : Mem) (x1 : Int32) (x2 : Int32) (x3 : Int32) (x4 : Int32) : RS := bV (fX11_needHouse M x1) (fun M1 => bV (fX11_needHouse M1 x2) (fun M3 => bV (fX11_needPlot M3 x3) (fun M5 => bV (fX11_needWhat M5 x4 2) (fun M7 => if x1 = x2 then some (M7, .inl 2) else fX11_game_b44  FU M7 x1 x2 x3 x4 0 (-1) 0))))
theorem SX11_game (M : Mem) (x1 : Int32) (x2 : Int32) (x3 : Int32) (x4 : Int32) : CTO (7) miX11_game 5 30 [.ref 0, .int x1, .int x2, .int x3, .int x4] M (fX11_game  M x1 x2 x3 x4) := by
  refine CTO.of (by decide) (by simp [lg_sl, Value.category]) ?_
  show GO miX11_game (7) 5 30 0 0 0 [(0, .ref 0), (1, .int x1), (2, .int x2), (3, .int x3), (4, .int x4)] [] M (bV (fX11_needHouse M x1) (fun M1 => bV (fX11_needHouse M1 x2) (fun M3 => bV (fX11_needPlot M3 x3) (fun M5 => bV (fX11_needWhat M5 x4 2) (fun M7 => if x1 = x2 then some (M7, .inl 2) else fX11_game_b44  FU M7 x1 x2 x3 x4 0 (-1) 0)))))
  refine g_aload_n 0 rfl rfl dX11_game_0 ?_
  refine g_iload_n 1 rfl rfl dX11_game_1 ?_
  refine g_callVV (y := miX11_needHouse) (As := [.int x1]) (rest := []) clX11 kd_0 rfl moX11_needHouse rfl mlX11_157 (by first | decide | omega) (by decide) (by simp [Value.category]) rfl dX11_game_2 (SX11_needHouse  M x1) (fun M1 => ?_)
  refine g_aload_n 0 rfl rfl dX11_game_5 ?_
  refine g_iload_n 2 rfl rfl dX11_game_6 ?_
  refine g_callVV (y := miX11_needHouse) (As := [.int x2]) (rest := []) clX11 kd_0 rfl moX11_needHouse rfl mlX11_157 (by first | decide | omega) (by decide) (by simp [Value.category]) rfl dX11_game_7 (SX11_needHouse  M1 x2) (fun M3 => ?_)
  refine g_aload_n 0 rfl rfl dX11_game_10 ?_
  refine g_iload_n 3 rfl rfl dX11_game_11 ?_
  refine g_callVV (y := miX11_needPlot) (As := [.int x3]) (rest := []) clX11 kd_0 rfl moX11_needPlot rfl mlX11_184 (by first | decide | omega) (by decide) (by simp [Value.category]) rfl dX11_game_12 (SX11_needPlot  M3 x3) (fun M5 => ?_)
  refine g_aload_n 0 rfl rfl dX11_game_15 ?_
  refine g_iload 4 rfl dX11_game_16 ?_
  refine g_iconst (v := 2) (by decide) dX11_game_18 ?_
  refine g_callVV (y := miX11_needWhat) (As := [.int x4, .int 2]) (rest := []) clX11 kd_0 rfl moX11_needWhat rfl mlX11_257 (by first | decide | omega) (by decide) (by simp [Value.category]) rfl dX11_game_19 (SX11_needWhat  M5 x4 2) (fun M7 => ?_)
  refine g_iload_n 1 rfl rfl dX11_game_22 ?_
  refine g_iload_n 2 rfl rfl dX11_game_23 ?_
  refine g_icmp_ne (tgt := 35) rfl dX11_game_24 (fun c => ?_) (fun c => ?_)
  · refine g_iconst (v := 0) (by decide) dX11_game_35 ?_
    refine g_istore (L' := [(5, .int 0), (0, .ref 0), (1, .int x1), (2, .int x2), (3, .int x3), (4, .int x4)]) (by decide) rfl dX11_game_36 ?_
    refine g_iconst (v := (-1)) (by decide) dX11_game_38 ?_
    refine g_istore (L' := [(6, .int (-1)), (5, .int 0), (0, .ref 0), (1, .int x1), (2, .int x2), (3, .int x3), (4, .int x4)]) (by decide) rfl dX11_game_39 ?_
    refine g_iconst (v := 0) (by decide) dX11_game_41 ?_
    refine g_istore (L' := [(7, .int 0), (6, .int (-1)), (5, .int 0), (0, .ref 0), (1, .int x1), (2, .int x2), (3, .int x3), (4, .int x4)]) (by decide) rfl dX11_game_42 ?_
    exact GO.pick [3, 4, 5, 6, 7, 2, 1, 0] rfl <| SX11_game_b44  FU M7 x1 x2 x3 x4 0 (-1) 0
  · exact g_throw2 rfl (by decide) (by decide) (by decide) dX11_game_27 dX11_game_30 dX11_game_31 dX11_game_34
def fX1_copyFrom (a0 : Nat) (a1 : Nat) (M : Mem)  : RS := wr (scp M (a1 + 1) 0 (a0 + 1) 0 1240) (fun M1 => wr (si M1 a0 1 (gi M1 a1 1)) (fun M2 => wr (si M2 a0 2 (gi M2 a1 2)) (fun M3 => some (M3, .inr none))))
theorem SX1_copyFrom (a0 : Nat) (a1 : Nat) (h0 : a0 ∈ [43, 55]) (h1 : a1 ∈ [43, 55]) (M : Mem)  : CTO (1) miX1_copyFrom 0 0 [.ref a0, .ref a1] M (fX1_copyFrom a0 a1 M ) := by
  refine CTO.of (by decide) (by simp [lg_sl, Value.category]) ?_
  show GO miX1_copyFrom (1) 0 0 0 0 0 [(0, .ref a0), (1, .ref a1)] [] M (wr (scp M (a1 + 1) 0 (a0 + 1) 0 1240) (fun M1 => wr (si M1 a0 1 (gi M1 a1 1)) (fun M2 => wr (si M2 a0 2 (gi M2 a1 2)) (fun M3 => some (M3, .inr none)))))
  refine g_aload_n 1 rfl rfl dX1_copyFrom_0 ?_
  refine g_getR (k := 0) (b := (a1 + 1)) clX1 (kv_d43_55_0 _ h1) (by decide) rfl rfl flX1_11 dX1_copyFrom_1 ?_
  refine g_iconst (v := 0) (by decide) dX1_copyFrom_4 ?_
  refine g_aload_n 0 rfl rfl dX1_copyFrom_5 ?_
  refine g_getR (k := 0) (b := (a0 + 1)) clX1 (kv_d43_55_0 _ h0) (by decide) rfl rfl flX1_11 dX1_copyFrom_6 ?_
  refine g_iconst (v := 0) (by decide) dX1_copyFrom_9 ?_
  refine g_aload_n 0 rfl rfl dX1_copyFrom_10 ?_
  refine g_getR (k := 0) (b := (a0 + 1)) clX1 (kv_d43_55_0 _ h0) (by decide) rfl rfl flX1_11 dX1_copyFrom_11 ?_
  refine g_alen (v := 1240) (kv_d43_55_1 _ h0) (by decide) (by decide) dX1_copyFrom_14 ?_
  refine g_acopy (kv_d43_55_1 _ h1) (kv_d43_55_1 _ h0) (by decide) (by decide) mlX1_31 mn_acopy ms_acopy mt_System (by first | decide | omega) (by simp [Value.category]) dX1_copyFrom_15 ?_
  refine GO.wr (fun M1 => ?_)
  refine g_aload_n 0 rfl rfl dX1_copyFrom_18 ?_
  refine g_aload_n 1 rfl rfl dX1_copyFrom_19 ?_
  refine g_getI (k := 1) clX1 (kv_d43_55_0 _ h1) (by decide) rfl flX1_17 dX1_copyFrom_20 ?_
  refine g_putI (k := 1) clX1 (kv_d43_55_0 _ h0) (by decide) rfl (by decide) rfl flX1_17 dX1_copyFrom_23 ?_
  refine GO.wr (fun M2 => ?_)
  refine g_aload_n 0 rfl rfl dX1_copyFrom_26 ?_
  refine g_aload_n 1 rfl rfl dX1_copyFrom_27 ?_
  refine g_getI (k := 2) clX1 (kv_d43_55_0 _ h1) (by decide) rfl flX1_21 dX1_copyFrom_28 ?_
  refine g_putI (k := 2) clX1 (kv_d43_55_0 _ h0) (by decide) rfl (by decide) rfl flX1_21 dX1_copyFrom_31 ?_
  refine GO.wr (fun M3 => ?_)
  exact g_vreturn rfl (by decide) (by decide) dX1_copyFrom_34
def fX7_copyFrom_b2 (a0 : Nat) (a1 : Nat) : Nat → Mem → Int32 → RS
  | 0 => fun _ _ => none
  | n + 1 => fun M x2 => if x2 < 8 then chk (inb x2 8) (chk (inb x2 8) (wr (si M (a0 + 1) (ix x2) (gi M (a1 + 1) (ix x2))) (fun M4 => chk (inb x2 8) (chk (inb x2 8) (wr (si M4 (a0 + 2) (ix x2) (gi M4 (a1 + 2) (ix x2))) (fun M7 => chk (inb x2 8) (chk (inb x2 8) (wr (si M7 (a0 + 3) (ix x2) (gi M7 (a1 + 3) (ix x2))) (fun M10 => (fX7_copyFrom_b2 a0 a1 n) M10 (x2 + 1)))))))))) else wr (si M a0 3 (gi M a1 3)) (fun M1 => some (M1, .inr none))
theorem SX7_copyFrom_b2 (a0 : Nat) (a1 : Nat) (h0 : a0 ∈ [45, 57]) (h1 : a1 ∈ [45, 57]) (n : Nat) : ∀ (M : Mem) (x2 : Int32), GO miX7_copyFrom (0) 0 0 0 0 2 [(0, .ref a0), (1, .ref a1), (2, .int x2)] [] M (fX7_copyFrom_b2 a0 a1 n M x2) := by
  induction n with
  | zero => intro M x2 ; exact GO.none
  | succ n hrec2 =>
    intro M x2 
    show GO miX7_copyFrom (0) 0 0 0 0 2 [(0, .ref a0), (1, .ref a1), (2, .int x2)] [] M (if x2 < 8 then chk (inb x2 8) (chk (inb x2 8) (wr (si M (a0 + 1) (ix x2) (gi M (a1 + 1) (ix x2))) (fun M4 => chk (inb x2 8) (chk (inb x2 8) (wr (si M4 (a0 + 2) (ix x2) (gi M4 (a1 + 2) (ix x2))) (fun M7 => chk (inb x2 8) (chk (inb x2 8) (wr (si M7 (a0 + 3) (ix x2) (gi M7 (a1 + 3) (ix x2))) (fun M10 => (fX7_copyFrom_b2 a0 a1 n) M10 (x2 + 1)))))))))) else wr (si M a0 3 (gi M a1 3)) (fun M1 => some (M1, .inr none)))
    refine g_iload_n 2 rfl rfl dX7_copyFrom_2 ?_
    refine g_bipush (v := 8) (by decide) dX7_copyFrom_3 ?_
    refine g_icmp_ge (tgt := 50) rfl dX7_copyFrom_5 (fun c => ?_) (fun c => ?_)
    · refine g_aload_n 0 rfl rfl dX7_copyFrom_50 ?_
      refine g_aload_n 1 rfl rfl dX7_copyFrom_51 ?_
      refine g_getI (k := 3) clX7 (kv_d45_57_0 _ h1) (by decide) rfl flX7_21 dX7_copyFrom_52 ?_
      refine g_putI (k := 3) clX7 (kv_d45_57_0 _ h0) (by decide) rfl (by decide) rfl flX7_21 dX7_copyFrom_55 ?_
      refine GO.wr (fun M1 => ?_)
      exact g_vreturn rfl (by decide) (by decide) dX7_copyFrom_58
    · refine g_aload_n 0 rfl rfl dX7_copyFrom_8 ?_
      refine g_getR (k := 0) (b := (a0 + 1)) clX7 (kv_d45_57_0 _ h0) (by decide) rfl rfl flX7_9 dX7_copyFrom_9 ?_
      refine g_iload_n 2 rfl rfl dX7_copyFrom_12 ?_
      refine g_aload_n 1 rfl rfl dX7_copyFrom_13 ?_
      refine g_getR (k := 0) (b := (a1 + 1)) clX7 (kv_d45_57_0 _ h1) (by decide) rfl rfl flX7_9 dX7_copyFrom_14 ?_
      refine g_iload_n 2 rfl rfl dX7_copyFrom_17 ?_
      refine g_ald (kv_d45_57_1 _ h1) dX7_copyFrom_18 (fun hi2 => ?_)
      refine g_ast (kv_d45_57_1 _ h0) dX7_copyFrom_19 (fun hi3 => ?_)
      refine GO.wr (fun M4 => ?_)
      refine g_aload_n 0 rfl rfl dX7_copyFrom_20 ?_
      refine g_getR (k := 1) (b := (a0 + 2)) clX7 (kv_d45_57_0 _ h0) (by decide) rfl rfl flX7_15 dX7_copyFrom_21 ?_
      refine g_iload_n 2 rfl rfl dX7_copyFrom_24 ?_
      refine g_aload_n 1 rfl rfl dX7_copyFrom_25 ?_
      refine g_getR (k := 1) (b := (a1 + 2)) clX7 (kv_d45_57_0 _ h1) (by decide) rfl rfl flX7_15 dX7_copyFrom_26 ?_
      refine g_iload_n 2 rfl rfl dX7_copyFrom_29 ?_
      refine g_ald (kv_d45_57_2 _ h1) dX7_copyFrom_30 (fun hi5 => ?_)
      refine g_ast (kv_d45_57_2 _ h0) dX7_copyFrom_31 (fun hi6 => ?_)
      refine GO.wr (fun M7 => ?_)
      refine g_aload_n 0 rfl rfl dX7_copyFrom_32 ?_
      refine g_getR (k := 2) (b := (a0 + 3)) clX7 (kv_d45_57_0 _ h0) (by decide) rfl rfl flX7_18 dX7_copyFrom_33 ?_
      refine g_iload_n 2 rfl rfl dX7_copyFrom_36 ?_
      refine g_aload_n 1 rfl rfl dX7_copyFrom_37 ?_
      refine g_getR (k := 2) (b := (a1 + 3)) clX7 (kv_d45_57_0 _ h1) (by decide) rfl rfl flX7_18 dX7_copyFrom_38 ?_
      refine g_iload_n 2 rfl rfl dX7_copyFrom_41 ?_
      refine g_ald (kv_d45_57_3 _ h1) dX7_copyFrom_42 (fun hi8 => ?_)
      refine g_ast (kv_d45_57_3 _ h0) dX7_copyFrom_43 (fun hi9 => ?_)
      refine GO.wr (fun M10 => ?_)
      refine g_iinc (v := x2 + 1) (L' := [(2, .int (x2 + 1)), (0, .ref a0), (1, .ref a1)]) 2 rfl rfl (by decide) rfl dX7_copyFrom_44 ?_
      refine g_goto (tgt := 2) rfl dX7_copyFrom_47 ?_
      exact GO.pick [1, 2, 0] rfl <| hrec2 M10 (x2 + 1)
def fX7_copyFrom (a0 : Nat) (a1 : Nat) (M : Mem)  : RS := fX7_copyFrom_b2 a0 a1 FU M 0
theorem SX7_copyFrom (a0 : Nat) (a1 : Nat) (h0 : a0 ∈ [45, 57]) (h1 : a1 ∈ [45, 57]) (M : Mem)  : CTO (0) miX7_copyFrom 0 0 [.ref a0, .ref a1] M (fX7_copyFrom a0 a1 M ) := by
  refine CTO.of (by decide) (by simp [lg_sl, Value.category]) ?_
  show GO miX7_copyFrom (0) 0 0 0 0 0 [(0, .ref a0), (1, .ref a1)] [] M (fX7_copyFrom_b2 a0 a1 FU M 0)
  refine g_iconst (v := 0) (by decide) dX7_copyFrom_0 ?_
  refine g_istore_n (L' := [(2, .int 0), (0, .ref a0), (1, .ref a1)]) (by decide) rfl rfl dX7_copyFrom_1 ?_
  exact GO.pick [1, 2, 0] rfl <| SX7_copyFrom_b2 a0 a1 h0 h1 FU M 0

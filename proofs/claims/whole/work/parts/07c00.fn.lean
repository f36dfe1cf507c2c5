def fX9_append_b3 : Nat → Mem → Int32 → Int32 → RS
  | 0 => fun _ _ _ => none
  | n + 1 => fun M x1 x2 => if x2 < 0 then some (M, .inr none) else if (gi M 1 1) < 700 then chk (inb (gi M 1 1) 700) (wr (si M 2 (ix (gi M 1 1)) ((Int32.toInt8 ((Int32.toInt8 (x1 >>> (x2 &&& 31))).toInt32)).toInt32)) (fun M2 => wr (si M2 1 1 ((gi M2 1 1) + 1)) (fun M3 => (fX9_append_b3 n) M3 x1 (x2 + (-8))))) else some (M, .inr none)
theorem SX9_append_b3 (n : Nat) : ∀ (M : Mem) (x1 : Int32) (x2 : Int32), GO miX9_append (0) 0 0 0 0 3 [(0, .ref 1), (1, .int x1), (2, .int x2)] [] M (fX9_append_b3 n M x1 x2) := by
  induction n with
  | zero => intro M x1 x2 ; exact GO.none
  | succ n hrec3 =>
    intro M x1 x2 
    show GO miX9_append (0) 0 0 0 0 3 [(0, .ref 1), (1, .int x1), (2, .int x2)] [] M (if x2 < 0 then some (M, .inr none) else if (gi M 1 1) < 700 then chk (inb (gi M 1 1) 700) (wr (si M 2 (ix (gi M 1 1)) ((Int32.toInt8 ((Int32.toInt8 (x1 >>> (x2 &&& 31))).toInt32)).toInt32)) (fun M2 => wr (si M2 1 1 ((gi M2 1 1) + 1)) (fun M3 => (fX9_append_b3 n) M3 x1 (x2 + (-8))))) else some (M, .inr none))
    refine g_iload_n 2 rfl rfl dX9_append_3 ?_
    refine g_if_lt (tgt := 48) rfl dX9_append_4 (fun c => ?_) (fun c => ?_)
    · exact g_vreturn rfl (by decide) (by decide) dX9_append_48
    · refine g_aload_n 0 rfl rfl dX9_append_7 ?_
      refine g_getI (k := 1) clX9 kd_1 (by decide) rfl flX9_15 dX9_append_8 ?_
      refine g_aload_n 0 rfl rfl dX9_append_11 ?_
      refine g_getR (k := 0) (b := 2) clX9 kd_1 (by decide) rfl rfl flX9_9 dX9_append_12 ?_
      refine g_alen (v := 700) kd_2 (by decide) (by decide) dX9_append_15 ?_
      refine g_icmp_ge (tgt := 48) rfl dX9_append_16 (fun c => ?_) (fun c => ?_)
      · exact g_vreturn rfl (by decide) (by decide) dX9_append_48
      · refine g_aload_n 0 rfl rfl dX9_append_19 ?_
        refine g_getR (k := 0) (b := 2) clX9 kd_1 (by decide) rfl rfl flX9_9 dX9_append_20 ?_
        refine g_aload_n 0 rfl rfl dX9_append_23 ?_
        refine g_getI (k := 1) clX9 kd_1 (by decide) rfl flX9_15 dX9_append_24 ?_
        refine g_iload_n 1 rfl rfl dX9_append_27 ?_
        refine g_iload_n 2 rfl rfl dX9_append_28 ?_
        refine g_ishr dX9_append_29 ?_
        refine g_i2b dX9_append_30 ?_
        refine g_bast kd_2 dX9_append_31 (fun hi1 => ?_)
        refine GO.wr (fun M2 => ?_)
        refine g_aload_n 0 rfl rfl dX9_append_32 ?_
        refine g_dup_ref dX9_append_33 ?_
        refine g_getI (k := 1) clX9 kd_1 (by decide) rfl flX9_15 dX9_append_34 ?_
        refine g_iconst (v := 1) (by decide) dX9_append_37 ?_
        refine g_iadd dX9_append_38 ?_
        refine g_putI (k := 1) clX9 kd_1 (by decide) rfl (by decide) rfl flX9_15 dX9_append_39 ?_
        refine GO.wr (fun M3 => ?_)
        refine g_iinc (v := x2 + (-8)) (L' := [(2, .int (x2 + (-8))), (0, .ref 1), (1, .int x1)]) 2 rfl (congrArg _ (by decide)) (by decide) rfl dX9_append_42 ?_
        refine g_goto (tgt := 3) rfl dX9_append_45 ?_
        exact GO.pick [1, 2, 0] rfl <| hrec3 M3 x1 (x2 + (-8))
def fX9_append (M : Mem) (x1 : Int32) : RS := fX9_append_b3  FU M x1 24
theorem SX9_append (M : Mem) (x1 : Int32) : CTO (0) miX9_append 0 0 [.ref 1, .int x1] M (fX9_append  M x1) := by
  refine CTO.of (by decide) (by simp [lg_sl, Value.category]) ?_
  show GO miX9_append (0) 0 0 0 0 0 [(0, .ref 1), (1, .int x1)] [] M (fX9_append_b3  FU M x1 24)
  refine g_bipush (v := 24) (by decide) dX9_append_0 ?_
  refine g_istore_n (L' := [(2, .int 24), (0, .ref 1), (1, .int x1)]) (by decide) rfl rfl dX9_append_2 ?_
  exact GO.pick [1, 2, 0] rfl <| SX9_append_b3  FU M x1 24
def fX11_feed (M : Mem) (x1 : Int32) (x2 : Int32) (x3 : Int32) (x4 : Int32) (x5 : Int32) : RS := if 700 < ((gi M 1 1) + 20) then some (M, .inr (some (.int (-1)))) else bV (fX9_append M x1) (fun M1 => bV (fX9_append M1 x2) (fun M3 => bV (fX9_append M3 x3) (fun M5 => bV (fX9_append M5 x4) (fun M7 => bV (fX9_append M7 x5) (fun M9 => some (M9, .inr (some (.int (gi M9 1 1)))))))))
theorem SX11_feed (M : Mem) (x1 : Int32) (x2 : Int32) (x3 : Int32) (x4 : Int32) (x5 : Int32) : CTO (1) miX11_feed 0 0 [.ref 0, .int x1, .int x2, .int x3, .int x4, .int x5] M (fX11_feed  M x1 x2 x3 x4 x5) := by
  refine CTO.of (by decide) (by simp [lg_sl, Value.category]) ?_
  show GO miX11_feed (1) 0 0 0 0 0 [(0, .ref 0), (1, .int x1), (2, .int x2), (3, .int x3), (4, .int x4), (5, .int x5)] [] M (if 700 < ((gi M 1 1) + 20) then some (M, .inr (some (.int (-1)))) else bV (fX9_append M x1) (fun M1 => bV (fX9_append M1 x2) (fun M3 => bV (fX9_append M3 x3) (fun M5 => bV (fX9_append M5 x4) (fun M7 => bV (fX9_append M7 x5) (fun M9 => some (M9, .inr (some (.int (gi M9 1 1))))))))))
  refine g_aload_n 0 rfl rfl dX11_feed_0 ?_
  refine g_getR (k := 0) (b := 1) clX11 kd_0 (by decide) rfl rfl flX11_10 dX11_feed_1 ?_
  refine g_getI (k := 1) clX9 kd_1 (by decide) rfl flX11_71 dX11_feed_4 ?_
  refine g_bipush (v := 20) (by decide) dX11_feed_7 ?_
  refine g_iadd dX11_feed_9 ?_
  refine g_sipush (v := 700) (by decide) dX11_feed_10 ?_
  refine g_icmp_le (tgt := 18) rfl dX11_feed_13 (fun c => ?_) (fun c => ?_)
  · refine g_aload_n 0 rfl rfl dX11_feed_18 ?_
    refine g_getR (k := 0) (b := 1) clX11 kd_0 (by decide) rfl rfl flX11_10 dX11_feed_19 ?_
    refine g_iload_n 1 rfl rfl dX11_feed_22 ?_
    refine g_callVV (y := miX9_append) (As := [.int x1]) (rest := []) clX9 kd_1 rfl moX9_append rfl mlX11_75 (by first | decide | omega) (by decide) (by simp [Value.category]) rfl dX11_feed_23 (SX9_append  M x1) (fun M1 => ?_)
    refine g_aload_n 0 rfl rfl dX11_feed_26 ?_
    refine g_getR (k := 0) (b := 1) clX11 kd_0 (by decide) rfl rfl flX11_10 dX11_feed_27 ?_
    refine g_iload_n 2 rfl rfl dX11_feed_30 ?_
    refine g_callVV (y := miX9_append) (As := [.int x2]) (rest := []) clX9 kd_1 rfl moX9_append rfl mlX11_75 (by first | decide | omega) (by decide) (by simp [Value.category]) rfl dX11_feed_31 (SX9_append  M1 x2) (fun M3 => ?_)
    refine g_aload_n 0 rfl rfl dX11_feed_34 ?_
    refine g_getR (k := 0) (b := 1) clX11 kd_0 (by decide) rfl rfl flX11_10 dX11_feed_35 ?_
    refine g_iload_n 3 rfl rfl dX11_feed_38 ?_
    refine g_callVV (y := miX9_append) (As := [.int x3]) (rest := []) clX9 kd_1 rfl moX9_append rfl mlX11_75 (by first | decide | omega) (by decide) (by simp [Value.category]) rfl dX11_feed_39 (SX9_append  M3 x3) (fun M5 => ?_)
    refine g_aload_n 0 rfl rfl dX11_feed_42 ?_
    refine g_getR (k := 0) (b := 1) clX11 kd_0 (by decide) rfl rfl flX11_10 dX11_feed_43 ?_
    refine g_iload 4 rfl dX11_feed_46 ?_
    refine g_callVV (y := miX9_append) (As := [.int x4]) (rest := []) clX9 kd_1 rfl moX9_append rfl mlX11_75 (by first | decide | omega) (by decide) (by simp [Value.category]) rfl dX11_feed_48 (SX9_append  M5 x4) (fun M7 => ?_)
    refine g_aload_n 0 rfl rfl dX11_feed_51 ?_
    refine g_getR (k := 0) (b := 1) clX11 kd_0 (by decide) rfl rfl flX11_10 dX11_feed_52 ?_
    refine g_iload 5 rfl dX11_feed_55 ?_
    refine g_callVV (y := miX9_append) (As := [.int x5]) (rest := []) clX9 kd_1 rfl moX9_append rfl mlX11_75 (by first | decide | omega) (by decide) (by simp [Value.category]) rfl dX11_feed_57 (SX9_append  M7 x5) (fun M9 => ?_)
    refine g_aload_n 0 rfl rfl dX11_feed_60 ?_
    refine g_getR (k := 0) (b := 1) clX11 kd_0 (by decide) rfl rfl flX11_10 dX11_feed_61 ?_
    refine g_getI (k := 1) clX9 kd_1 (by decide) rfl flX11_71 dX11_feed_64 ?_
    exact g_ireturn rfl (by decide) (by decide) dX11_feed_67 rfl rfl
  · refine g_iconst (v := (-1)) (by decide) dX11_feed_16 ?_
    exact g_ireturn rfl (by decide) (by decide) dX11_feed_17 rfl rfl
def fX1_clear (M : Mem)  : RS := wr (si M 43 1 0) (fun M1 => wr (si M1 43 2 0) (fun M2 => some (M2, .inr none)))
theorem SX1_clear (M : Mem)  : CTO (0) miX1_clear 0 0 [.ref 43] M (fX1_clear  M ) := by
  refine CTO.of (by decide) (by simp [lg_sl, Value.category]) ?_
  show GO miX1_clear (0) 0 0 0 0 0 [(0, .ref 43)] [] M (wr (si M 43 1 0) (fun M1 => wr (si M1 43 2 0) (fun M2 => some (M2, .inr none))))
  refine g_aload_n 0 rfl rfl dX1_clear_0 ?_
  refine g_iconst (v := 0) (by decide) dX1_clear_1 ?_
  refine g_putI (k := 1) clX1 kd_43 (by decide) rfl (by decide) rfl flX1_17 dX1_clear_2 ?_
  refine GO.wr (fun M1 => ?_)
  refine g_aload_n 0 rfl rfl dX1_clear_5 ?_
  refine g_iconst (v := 0) (by decide) dX1_clear_6 ?_
  refine g_putI (k := 2) clX1 kd_43 (by decide) rfl (by decide) rfl flX1_21 dX1_clear_7 ?_
  refine GO.wr (fun M2 => ?_)
  exact g_vreturn rfl (by decide) (by decide) dX1_clear_10
def fX8_beginYears_b12 (a0 : Nat) : Nat → Mem → Int32 → RS
  | 0 => fun _ _ => none
  | n + 1 => fun M x1 => if x1 < 8 then chk (inb x1 8) (wr (si M (a0 + 3) (ix x1) 0) (fun M4 => (fX8_beginYears_b12 a0 n) M4 (x1 + 1))) else some (M, .inr none)
theorem SX8_beginYears_b12 (a0 : Nat) (h0 : a0 ∈ [39, 62]) (n : Nat) : ∀ (M : Mem) (x1 : Int32), GO miX8_beginYears (0) 0 0 0 0 12 [(0, .ref a0), (1, .int x1)] [] M (fX8_beginYears_b12 a0 n M x1) := by
  induction n with
  | zero => intro M x1 ; exact GO.none
  | succ n hrec12 =>
    intro M x1 
    show GO miX8_beginYears (0) 0 0 0 0 12 [(0, .ref a0), (1, .int x1)] [] M (if x1 < 8 then chk (inb x1 8) (wr (si M (a0 + 3) (ix x1) 0) (fun M4 => (fX8_beginYears_b12 a0 n) M4 (x1 + 1))) else some (M, .inr none))
    refine g_iload_n 1 rfl rfl dX8_beginYears_12 ?_
    refine g_bipush (v := 8) (by decide) dX8_beginYears_13 ?_
    refine g_icmp_ge (tgt := 31) rfl dX8_beginYears_15 (fun c => ?_) (fun c => ?_)
    · exact g_vreturn rfl (by decide) (by decide) dX8_beginYears_31
    · refine g_aload_n 0 rfl rfl dX8_beginYears_18 ?_
      refine g_getR (k := 9) (b := (a0 + 3)) clX8 (kv_d39_62_0 _ h0) (by decide) rfl rfl flX8_25 dX8_beginYears_19 ?_
      refine g_iload_n 1 rfl rfl dX8_beginYears_22 ?_
      refine g_iconst (v := 0) (by decide) dX8_beginYears_23 ?_
      refine g_ast (kv_d39_62_3 _ h0) dX8_beginYears_24 (fun hi3 => ?_)
      refine GO.wr (fun M4 => ?_)
      refine g_iinc (v := x1 + 1) (L' := [(1, .int (x1 + 1)), (0, .ref a0)]) 1 rfl rfl (by decide) rfl dX8_beginYears_25 ?_
      refine g_goto (tgt := 12) rfl dX8_beginYears_28 ?_
      exact GO.pick [1, 0] rfl <| hrec12 M4 (x1 + 1)
def fX8_beginYears (a0 : Nat) (M : Mem)  : RS := wr (si M a0 4 0) (fun M1 => wr (si M1 a0 1 0) (fun M2 => fX8_beginYears_b12 a0 FU M2 0))
theorem SX8_beginYears (a0 : Nat) (h0 : a0 ∈ [39, 62]) (M : Mem)  : CTO (0) miX8_beginYears 0 0 [.ref a0] M (fX8_beginYears a0 M ) := by
  refine CTO.of (by decide) (by simp [lg_sl, Value.category]) ?_
  show GO miX8_beginYears (0) 0 0 0 0 0 [(0, .ref a0)] [] M (wr (si M a0 4 0) (fun M1 => wr (si M1 a0 1 0) (fun M2 => fX8_beginYears_b12 a0 FU M2 0)))
  refine g_aload_n 0 rfl rfl dX8_beginYears_0 ?_
  refine g_iconst (v := 0) (by decide) dX8_beginYears_1 ?_
  refine g_putI (k := 4) clX8 (kv_d39_62_0 _ h0) (by decide) rfl (by decide) rfl flX8_44 dX8_beginYears_2 ?_
  refine GO.wr (fun M1 => ?_)
  refine g_aload_n 0 rfl rfl dX8_beginYears_5 ?_
  refine g_iconst (v := 0) (by decide) dX8_beginYears_6 ?_
  refine g_putI (k := 1) clX8 (kv_d39_62_0 _ h0) (by decide) rfl (by decide) rfl flX8_47 dX8_beginYears_7 ?_
  refine GO.wr (fun M2 => ?_)
  refine g_iconst (v := 0) (by decide) dX8_beginYears_10 ?_
  refine g_istore_n (L' := [(1, .int 0), (0, .ref a0)]) (by decide) rfl rfl dX8_beginYears_11 ?_
  exact GO.pick [1, 0] rfl <| SX8_beginYears_b12 a0 h0 FU M2 0
def fX8_begin_b33 (a1 : Nat) : Nat → Mem → Int32 → RS
  | 0 => fun _ _ => none
  | n + 1 => fun M x2 => if x2 < 8 then chk (inb x2 8) (wr (si M 40 (ix x2) x2) (fun M9 => chk (inb x2 8) (wr (si M9 41 (ix x2) (-1)) (fun M11 => (fX8_begin_b33 a1 n) M11 (x2 + 1))))) else bV (fX8_beginYears 39 M) (fun M6 => some (M6, .inr none))
theorem SX8_begin_b33 (a1 : Nat) (h1 : a1 ∈ [3, 24]) (n : Nat) : ∀ (M : Mem) (x2 : Int32), GO miX8_begin (1) 0 0 0 0 33 [(0, .ref 39), (2, .int x2)] [] M (fX8_begin_b33 a1 n M x2) := by
  induction n with
  | zero => intro M x2 ; exact GO.none
  | succ n hrec33 =>
    intro M x2 
    show GO miX8_begin (1) 0 0 0 0 33 [(0, .ref 39), (2, .int x2)] [] M (if x2 < 8 then chk (inb x2 8) (wr (si M 40 (ix x2) x2) (fun M9 => chk (inb x2 8) (wr (si M9 41 (ix x2) (-1)) (fun M11 => (fX8_begin_b33 a1 n) M11 (x2 + 1))))) else bV (fX8_beginYears 39 M) (fun M6 => some (M6, .inr none)))
    refine g_iload_n 1 rfl rfl dX8_begin_33 ?_
    refine g_bipush (v := 8) (by decide) dX8_begin_34 ?_
    refine g_icmp_ge (tgt := 59) rfl dX8_begin_36 (fun c => ?_) (fun c => ?_)
    · refine g_aload_n 0 rfl rfl dX8_begin_59 ?_
      refine g_callVV (y := miX8_beginYears) (As := []) (rest := []) clX8 kd_39 rfl moX8_beginYears rfl mlX8_41 (by first | decide | omega) (by decide) (by simp [Value.category]) rfl dX8_begin_60 (SX8_beginYears 39 (by decide) M) (fun M6 => ?_)
      exact g_vreturn rfl (by decide) (by decide) dX8_begin_63
    · refine g_aload_n 0 rfl rfl dX8_begin_39 ?_
      refine g_getR (k := 7) (b := 40) clX8 kd_39 (by decide) rfl rfl flX8_18 dX8_begin_40 ?_
      refine g_iload_n 1 rfl rfl dX8_begin_43 ?_
      refine g_iload_n 1 rfl rfl dX8_begin_44 ?_
      refine g_ast kd_40 dX8_begin_45 (fun hi8 => ?_)
      refine GO.wr (fun M9 => ?_)
      refine g_aload_n 0 rfl rfl dX8_begin_46 ?_
      refine g_getR (k := 8) (b := 41) clX8 kd_39 (by decide) rfl rfl flX8_22 dX8_begin_47 ?_
      refine g_iload_n 1 rfl rfl dX8_begin_50 ?_
      refine g_iconst (v := (-1)) (by decide) dX8_begin_51 ?_
      refine g_ast kd_41 dX8_begin_52 (fun hi10 => ?_)
      refine GO.wr (fun M11 => ?_)
      refine g_iinc (v := x2 + 1) (L' := [(2, .int (x2 + 1)), (0, .ref 39)]) 1 rfl rfl (by decide) rfl dX8_begin_53 ?_
      refine g_goto (tgt := 33) rfl dX8_begin_56 ?_
      exact GO.pick [1, 0] rfl <| hrec33 M11 (x2 + 1)
def fX8_begin (a1 : Nat) (M : Mem)  : RS := wr (si M 39 0 0) (fun M1 => wr (si M1 39 2 (gi M1 a1 12)) (fun M2 => wr (si M2 39 3 (gi M2 a1 13)) (fun M3 => wr (si M3 39 5 0) (fun M4 => wr (si M4 39 6 0) (fun M5 => fX8_begin_b33 a1 FU M5 0)))))
theorem SX8_begin (a1 : Nat) (h1 : a1 ∈ [3, 24]) (M : Mem)  : CTO (1) miX8_begin 0 0 [.ref 39, .ref a1] M (fX8_begin a1 M ) := by
  refine CTO.of (by decide) (by simp [lg_sl, Value.category]) ?_
  show GO miX8_begin (1) 0 0 0 0 0 [(0, .ref 39), (1, .ref a1)] [] M (wr (si M 39 0 0) (fun M1 => wr (si M1 39 2 (gi M1 a1 12)) (fun M2 => wr (si M2 39 3 (gi M2 a1 13)) (fun M3 => wr (si M3 39 5 0) (fun M4 => wr (si M4 39 6 0) (fun M5 => fX8_begin_b33 a1 FU M5 0))))))
  refine g_aload_n 0 rfl rfl dX8_begin_0 ?_
  refine g_iconst (v := 0) (by decide) dX8_begin_1 ?_
  refine g_putI (k := 0) clX8 kd_39 (by decide) rfl (by decide) rfl flX8_28 dX8_begin_2 ?_
  refine GO.wr (fun M1 => ?_)
  refine g_aload_n 0 rfl rfl dX8_begin_5 ?_
  refine g_aload_n 1 rfl rfl dX8_begin_6 ?_
  refine g_getI (k := 12) clX2 (kv_d3_24_0 _ h1) (by decide) rfl flX8_31 dX8_begin_7 ?_
  refine g_putI (k := 2) clX8 kd_39 (by decide) rfl (by decide) rfl flX8_9 dX8_begin_10 ?_
  refine GO.wr (fun M2 => ?_)
  refine g_aload_n 0 rfl rfl dX8_begin_13 ?_
  refine g_aload_n 1 rfl rfl dX8_begin_14 ?_
  refine g_getI (k := 13) clX2 (kv_d3_24_0 _ h1) (by decide) rfl flX8_34 dX8_begin_15 ?_
  refine g_putI (k := 3) clX8 kd_39 (by decide) rfl (by decide) rfl flX8_15 dX8_begin_18 ?_
  refine GO.wr (fun M3 => ?_)
  refine g_aload_n 0 rfl rfl dX8_begin_21 ?_
  refine g_iconst (v := 0) (by decide) dX8_begin_22 ?_
  refine g_putI (k := 5) clX8 kd_39 (by decide) rfl (by decide) rfl flX8_35 dX8_begin_23 ?_
  refine GO.wr (fun M4 => ?_)
  refine g_aload_n 0 rfl rfl dX8_begin_26 ?_
  refine g_iconst (v := 0) (by decide) dX8_begin_27 ?_
  refine g_putI (k := 6) clX8 kd_39 (by decide) rfl (by decide) rfl flX8_38 dX8_begin_28 ?_
  refine GO.wr (fun M5 => ?_)
  refine g_iconst (v := 0) (by decide) dX8_begin_31 ?_
  refine g_istore_n (L' := [(2, .int 0), (0, .ref 39), (1, .ref a1)]) (by decide) rfl rfl dX8_begin_32 ?_
  exact GO.pick [1, 0] rfl <| SX8_begin_b33 a1 h1 FU M5 0
def fX0_begin (a1 : Nat) (M : Mem)  : RS := bV (fX8_begin a1 M) (fun M1 => bV (fX1_clear M1) (fun M3 => wr (si M3 45 3 0) (fun M5 => some (M5, .inr none))))
theorem SX0_begin (a1 : Nat) (h1 : a1 ∈ [3, 24]) (M : Mem)  : CTO (2) miX0_begin 0 0 [.ref 38, .ref a1] M (fX0_begin a1 M ) := by
  refine CTO.of (by decide) (by simp [lg_sl, Value.category]) ?_
  show GO miX0_begin (2) 0 0 0 0 0 [(0, .ref 38), (1, .ref a1)] [] M (bV (fX8_begin a1 M) (fun M1 => bV (fX1_clear M1) (fun M3 => wr (si M3 45 3 0) (fun M5 => some (M5, .inr none)))))
  refine g_aload_n 0 rfl rfl dX0_begin_0 ?_
  refine g_getR (k := 0) (b := 39) clX0 kd_38 (by decide) rfl rfl flX0_10 dX0_begin_1 ?_
  refine g_aload_n 1 rfl rfl dX0_begin_4 ?_
  refine g_callVV (y := miX8_begin) (As := [.ref a1]) (rest := []) clX8 kd_39 rfl moX8_begin rfl mlX0_34 (by first | decide | omega) (by decide) (by simp [Value.category]) rfl dX0_begin_5 (SX8_begin a1 h1 M) (fun M1 => ?_)
  refine g_aload_n 0 rfl rfl dX0_begin_8 ?_
  refine g_getR (k := 1) (b := 43) clX0 kd_38 (by decide) rfl rfl flX0_19 dX0_begin_9 ?_
  refine g_callVV (y := miX1_clear) (As := []) (rest := []) clX1 kd_43 rfl moX1_clear rfl mlX0_38 (by first | decide | omega) (by decide) (by simp [Value.category]) rfl dX0_begin_12 (SX1_clear  M1) (fun M3 => ?_)
  refine g_aload_n 0 rfl rfl dX0_begin_15 ?_
  refine g_getR (k := 2) (b := 45) clX0 kd_38 (by decide) rfl rfl flX0_26 dX0_begin_16 ?_
  refine g_iconst (v := 0) (by decide) dX0_begin_19 ?_
  refine g_putI (k := 3) clX7 kd_45 (by decide) rfl (by decide) rfl flX0_41 dX0_begin_20 ?_
  refine GO.wr (fun M5 => ?_)
  exact g_vreturn rfl (by decide) (by decide) dX0_begin_23
def fX3_allPlots (M : Mem)  : RS := some (M, .inr (some (.int (((1 : Int32) <<< ((gi M (isA (gb M 0)) 10) &&& 31)) - 1))))
theorem SX3_allPlots (M : Mem)  : CTO (0) miX3_allPlots 0 0 [.ref 22] M (fX3_allPlots  M ) := by
  refine CTO.of (by decide) (by simp [lg_sl, Value.category]) ?_
  show GO miX3_allPlots (0) 0 0 0 0 0 [(0, .ref 22)] [] M (some (M, .inr (some (.int (((1 : Int32) <<< ((gi M (isA (gb M 0)) 10) &&& 31)) - 1)))))
  refine g_iconst (v := 1) (by decide) dX3_allPlots_0 ?_
  refine g_aload_n 0 rfl rfl dX3_allPlots_1 ?_
  refine g_getR (k := 1) (b := (isA (gb M 0))) clX3 kd_22 (by decide) rfl rfl flX3_18 dX3_allPlots_2 ?_
  refine g_getI (k := 10) clX2 (kv_d3_24_0 _ (isA_dom _)) (by decide) rfl flX3_131 dX3_allPlots_5 ?_
  refine g_ishl dX3_allPlots_8 ?_
  refine g_iconst (v := 1) (by decide) dX3_allPlots_9 ?_
  refine g_isub dX3_allPlots_10 ?_
  exact g_ireturn rfl (by decide) (by decide) dX3_allPlots_11 rfl rfl
def fX2_hasHouse (a0 : Nat) (M : Mem) (x1 : Int32) : RS := if x1 < 0 then some (M, .inr (some (.int 0))) else if x1 < (gi M a0 9) then if x1 < 8 then some (M, .inr (some (.int 1))) else some (M, .inr (some (.int 0))) else some (M, .inr (some (.int 0)))
theorem SX2_hasHouse (a0 : Nat) (h0 : a0 ∈ [3, 24]) (M : Mem) (x1 : Int32) : CTO (0) miX2_hasHouse 0 0 [.ref a0, .int x1] M (fX2_hasHouse a0 M x1) := by
  refine CTO.of (by decide) (by simp [lg_sl, Value.category]) ?_
  show GO miX2_hasHouse (0) 0 0 0 0 0 [(0, .ref a0), (1, .int x1)] [] M (if x1 < 0 then some (M, .inr (some (.int 0))) else if x1 < (gi M a0 9) then if x1 < 8 then some (M, .inr (some (.int 1))) else some (M, .inr (some (.int 0))) else some (M, .inr (some (.int 0))))
  refine g_iload_n 1 rfl rfl dX2_hasHouse_0 ?_
  refine g_if_lt (tgt := 22) rfl dX2_hasHouse_1 (fun c => ?_) (fun c => ?_)
  · refine g_iconst (v := 0) (by decide) dX2_hasHouse_22 ?_
    exact g_zreturn rfl (by decide) (by decide) dX2_hasHouse_23 (by decide)
  · refine g_iload_n 1 rfl rfl dX2_hasHouse_4 ?_
    refine g_aload_n 0 rfl rfl dX2_hasHouse_5 ?_
    refine g_getI (k := 9) clX2 (kv_d3_24_0 _ h0) (by decide) rfl flX2_43 dX2_hasHouse_6 ?_
    refine g_icmp_ge (tgt := 22) rfl dX2_hasHouse_9 (fun c => ?_) (fun c => ?_)
    · refine g_iconst (v := 0) (by decide) dX2_hasHouse_22 ?_
      exact g_zreturn rfl (by decide) (by decide) dX2_hasHouse_23 (by decide)
    · refine g_iload_n 1 rfl rfl dX2_hasHouse_12 ?_
      refine g_bipush (v := 8) (by decide) dX2_hasHouse_13 ?_
      refine g_icmp_ge (tgt := 22) rfl dX2_hasHouse_15 (fun c => ?_) (fun c => ?_)
      · refine g_iconst (v := 0) (by decide) dX2_hasHouse_22 ?_
        exact g_zreturn rfl (by decide) (by decide) dX2_hasHouse_23 (by decide)
      · refine g_iconst (v := 1) (by decide) dX2_hasHouse_18 ?_
        refine g_goto (tgt := 23) rfl dX2_hasHouse_19 ?_
        exact g_zreturn rfl (by decide) (by decide) dX2_hasHouse_23 (by decide)
def fX2_hasPlot (a0 : Nat) (M : Mem) (x1 : Int32) : RS := if x1 < 0 then some (M, .inr (some (.int 0))) else if x1 < (gi M a0 10) then if x1 < 9 then some (M, .inr (some (.int 1))) else some (M, .inr (some (.int 0))) else some (M, .inr (some (.int 0)))
theorem SX2_hasPlot (a0 : Nat) (h0 : a0 ∈ [3, 24]) (M : Mem) (x1 : Int32) : CTO (0) miX2_hasPlot 0 0 [.ref a0, .int x1] M (fX2_hasPlot a0 M x1) := by
  refine CTO.of (by decide) (by simp [lg_sl, Value.category]) ?_
  show GO miX2_hasPlot (0) 0 0 0 0 0 [(0, .ref a0), (1, .int x1)] [] M (if x1 < 0 then some (M, .inr (some (.int 0))) else if x1 < (gi M a0 10) then if x1 < 9 then some (M, .inr (some (.int 1))) else some (M, .inr (some (.int 0))) else some (M, .inr (some (.int 0))))
  refine g_iload_n 1 rfl rfl dX2_hasPlot_0 ?_
  refine g_if_lt (tgt := 22) rfl dX2_hasPlot_1 (fun c => ?_) (fun c => ?_)
  · refine g_iconst (v := 0) (by decide) dX2_hasPlot_22 ?_
    exact g_zreturn rfl (by decide) (by decide) dX2_hasPlot_23 (by decide)
  · refine g_iload_n 1 rfl rfl dX2_hasPlot_4 ?_
    refine g_aload_n 0 rfl rfl dX2_hasPlot_5 ?_
    refine g_getI (k := 10) clX2 (kv_d3_24_0 _ h0) (by decide) rfl flX2_47 dX2_hasPlot_6 ?_
    refine g_icmp_ge (tgt := 22) rfl dX2_hasPlot_9 (fun c => ?_) (fun c => ?_)
    · refine g_iconst (v := 0) (by decide) dX2_hasPlot_22 ?_
      exact g_zreturn rfl (by decide) (by decide) dX2_hasPlot_23 (by decide)
    · refine g_iload_n 1 rfl rfl dX2_hasPlot_12 ?_
      refine g_bipush (v := 9) (by decide) dX2_hasPlot_13 ?_
      refine g_icmp_ge (tgt := 22) rfl dX2_hasPlot_15 (fun c => ?_) (fun c => ?_)
      · refine g_iconst (v := 0) (by decide) dX2_hasPlot_22 ?_
        exact g_zreturn rfl (by decide) (by decide) dX2_hasPlot_23 (by decide)
      · refine g_iconst (v := 1) (by decide) dX2_hasPlot_18 ?_
        refine g_goto (tgt := 23) rfl dX2_hasPlot_19 ?_
        exact g_zreturn rfl (by decide) (by decide) dX2_hasPlot_23 (by decide)
def fX3_walk (M : Mem) (x0 : Int32) (x1 : Int32) (x2 : Int32) (x3 : Int32) : RS := some (M, .inr (some (.int ((if 0 ≤ (x2 - x0) then (x2 - x0) else 0 - (x2 - x0)) + (if 0 ≤ (x3 - x1) then (x3 - x1) else 0 - (x3 - x1))))))
theorem SX3_walk (M : Mem) (x0 : Int32) (x1 : Int32) (x2 : Int32) (x3 : Int32) : CTO (1) miX3_walk 0 0 [.int x0, .int x1, .int x2, .int x3] M (fX3_walk  M x0 x1 x2 x3) := by
  refine CTO.of (by decide) (by simp [lg_sl, Value.category]) ?_
  show GO miX3_walk (1) 0 0 0 0 0 [(0, .int x0), (1, .int x1), (2, .int x2), (3, .int x3)] [] M (some (M, .inr (some (.int ((if 0 ≤ (x2 - x0) then (x2 - x0) else 0 - (x2 - x0)) + (if 0 ≤ (x3 - x1) then (x3 - x1) else 0 - (x3 - x1)))))))
  refine g_iload_n 2 rfl rfl dX3_walk_0 ?_
  refine g_iload_n 0 rfl rfl dX3_walk_1 ?_
  refine g_isub dX3_walk_2 ?_
  refine g_mabs mlX3_68 ms_abs mt_Math mc_abs (by first | decide | omega) (by decide) (by simp [Value.category]) dX3_walk_3 ?_
  refine g_iload_n 3 rfl rfl dX3_walk_6 ?_
  refine g_iload_n 1 rfl rfl dX3_walk_7 ?_
  refine g_isub dX3_walk_8 ?_
  refine g_mabs mlX3_68 ms_abs mt_Math mc_abs (by first | decide | omega) (by decide) (by simp [Value.category]) dX3_walk_9 ?_
  refine g_iadd dX3_walk_12 ?_
  exact g_ireturn rfl (by decide) (by decide) dX3_walk_13 rfl rfl
def fX3_tellValues_b54 (a1 : Nat) (M : Mem) (x2 : Int32) (x3 : Int32) (x4 : Int32) (s0 : Int32) (s1 : Int32) : RS := chk (inb s1 7) (wr (si M 23 (ix s1) s0) (fun M8 => chk (inb x2 8) (wr (si M8 23 1 (gi M8 ((isA (gb M8 0)) + 3) (ix x2))) (fun M10 => chk (inb x4 9) (wr (si M10 23 2 (gi M10 ((isA (gb M10 0)) + 6) (ix x4))) (fun M12 => chk (inb x4 9) (chk (inb x4 9) (bI (fX3_walk M12 (gi M12 ((isA (gb M12 0)) + 4) (ix x4)) (gi M12 ((isA (gb M12 0)) + 5) (ix x4)) (gi M12 a1 2) (gi M12 a1 3)) (fun M15 v16 => wr (si M15 23 3 v16) (fun M17 => wr (si M17 23 4 x3) (fun M18 => some (M18, .inr none))))))))))))
theorem SX3_tellValues_b54 (a1 : Nat) (h1 : a1 ∈ [39, 62]) (M : Mem) (x2 : Int32) (x3 : Int32) (x4 : Int32) (s0 : Int32) (s1 : Int32) : GO miX3_tellValues (2) 0 0 0 0 54 [(0, .ref 22), (1, .ref a1), (2, .int x2), (3, .int x3), (4, .int x4)] [.int s0, .int s1, .ref 23] M (fX3_tellValues_b54 a1 M x2 x3 x4 s0 s1) := by
  show GO miX3_tellValues (2) 0 0 0 0 54 [(0, .ref 22), (1, .ref a1), (2, .int x2), (3, .int x3), (4, .int x4)] [.int s0, .int s1, .ref 23] M (chk (inb s1 7) (wr (si M 23 (ix s1) s0) (fun M8 => chk (inb x2 8) (wr (si M8 23 1 (gi M8 ((isA (gb M8 0)) + 3) (ix x2))) (fun M10 => chk (inb x4 9) (wr (si M10 23 2 (gi M10 ((isA (gb M10 0)) + 6) (ix x4))) (fun M12 => chk (inb x4 9) (chk (inb x4 9) (bI (fX3_walk M12 (gi M12 ((isA (gb M12 0)) + 4) (ix x4)) (gi M12 ((isA (gb M12 0)) + 5) (ix x4)) (gi M12 a1 2) (gi M12 a1 3)) (fun M15 v16 => wr (si M15 23 3 v16) (fun M17 => wr (si M17 23 4 x3) (fun M18 => some (M18, .inr none)))))))))))))
  refine g_ast kd_23 dX3_tellValues_54 (fun hi7 => ?_)
  refine GO.wr (fun M8 => ?_)
  refine g_aload_n 0 rfl rfl dX3_tellValues_55 ?_
  refine g_getR (k := 0) (b := 23) clX3 kd_22 (by decide) rfl rfl flX3_11 dX3_tellValues_56 ?_
  refine g_iconst (v := 1) (by decide) dX3_tellValues_59 ?_
  refine g_aload_n 0 rfl rfl dX3_tellValues_60 ?_
  refine g_getR (k := 1) (b := (isA (gb M8 0))) clX3 kd_22 (by decide) rfl rfl flX3_18 dX3_tellValues_61 ?_
  refine g_getR (k := 2) (b := ((isA (gb M8 0)) + 3)) clX2 (kv_d3_24_0 _ (isA_dom _)) (by decide) rfl rfl flX3_73 dX3_tellValues_64 ?_
  refine g_iload_n 2 rfl rfl dX3_tellValues_67 ?_
  refine g_ald (kv_d3_24_3 _ (isA_dom _)) dX3_tellValues_68 (fun hi9 => ?_)
  refine g_astL (j := 1) kd_23 (by decide) (by decide) dX3_tellValues_69 ?_
  refine GO.wr (fun M10 => ?_)
  refine g_aload_n 0 rfl rfl dX3_tellValues_70 ?_
  refine g_getR (k := 0) (b := 23) clX3 kd_22 (by decide) rfl rfl flX3_11 dX3_tellValues_71 ?_
  refine g_iconst (v := 2) (by decide) dX3_tellValues_74 ?_
  refine g_aload_n 0 rfl rfl dX3_tellValues_75 ?_
  refine g_getR (k := 1) (b := (isA (gb M10 0))) clX3 kd_22 (by decide) rfl rfl flX3_18 dX3_tellValues_76 ?_
  refine g_getR (k := 5) (b := ((isA (gb M10 0)) + 6)) clX2 (kv_d3_24_0 _ (isA_dom _)) (by decide) rfl rfl flX3_76 dX3_tellValues_79 ?_
  refine g_iload 4 rfl dX3_tellValues_82 ?_
  refine g_ald (kv_d3_24_6 _ (isA_dom _)) dX3_tellValues_84 (fun hi11 => ?_)
  refine g_astL (j := 2) kd_23 (by decide) (by decide) dX3_tellValues_85 ?_
  refine GO.wr (fun M12 => ?_)
  refine g_aload_n 0 rfl rfl dX3_tellValues_86 ?_
  refine g_getR (k := 0) (b := 23) clX3 kd_22 (by decide) rfl rfl flX3_11 dX3_tellValues_87 ?_
  refine g_iconst (v := 3) (by decide) dX3_tellValues_90 ?_
  refine g_aload_n 0 rfl rfl dX3_tellValues_91 ?_
  refine g_getR (k := 1) (b := (isA (gb M12 0))) clX3 kd_22 (by decide) rfl rfl flX3_18 dX3_tellValues_92 ?_
  refine g_getR (k := 3) (b := ((isA (gb M12 0)) + 4)) clX2 (kv_d3_24_0 _ (isA_dom _)) (by decide) rfl rfl flX3_49 dX3_tellValues_95 ?_
  refine g_iload 4 rfl dX3_tellValues_98 ?_
  refine g_ald (kv_d3_24_4 _ (isA_dom _)) dX3_tellValues_100 (fun hi13 => ?_)
  refine g_aload_n 0 rfl rfl dX3_tellValues_101 ?_
  refine g_getR (k := 1) (b := (isA (gb M12 0))) clX3 kd_22 (by decide) rfl rfl flX3_18 dX3_tellValues_102 ?_
  refine g_getR (k := 4) (b := ((isA (gb M12 0)) + 5)) clX2 (kv_d3_24_0 _ (isA_dom _)) (by decide) rfl rfl flX3_52 dX3_tellValues_105 ?_
  refine g_iload 4 rfl dX3_tellValues_108 ?_
  refine g_ald (kv_d3_24_5 _ (isA_dom _)) dX3_tellValues_110 (fun hi14 => ?_)
  refine g_aload_n 1 rfl rfl dX3_tellValues_111 ?_
  refine g_getI (k := 2) clX8 (kv_d39_62_0 _ h1) (by decide) rfl flX3_55 dX3_tellValues_112 ?_
  refine g_aload_n 1 rfl rfl dX3_tellValues_115 ?_
  refine g_getI (k := 3) clX8 (kv_d39_62_0 _ h1) (by decide) rfl flX3_58 dX3_tellValues_116 ?_
  refine g_callSI (y := miX3_walk) (As := [.int (gi M12 ((isA (gb M12 0)) + 4) (ix x4)), .int (gi M12 ((isA (gb M12 0)) + 5) (ix x4)), .int (gi M12 a1 2), .int (gi M12 a1 3)]) (rest := [.int 3, .ref 23]) moX3_walk rfl mlX3_61 (by first | decide | omega) (by decide) (by simp [Value.category]) rfl dX3_tellValues_119 (SX3_walk  M12 (gi M12 ((isA (gb M12 0)) + 4) (ix x4)) (gi M12 ((isA (gb M12 0)) + 5) (ix x4)) (gi M12 a1 2) (gi M12 a1 3)) (fun M15 v16 => ?_)
  refine g_astL (j := 3) kd_23 (by decide) (by decide) dX3_tellValues_122 ?_
  refine GO.wr (fun M17 => ?_)
  refine g_aload_n 0 rfl rfl dX3_tellValues_123 ?_
  refine g_getR (k := 0) (b := 23) clX3 kd_22 (by decide) rfl rfl flX3_11 dX3_tellValues_124 ?_
  refine g_iconst (v := 4) (by decide) dX3_tellValues_127 ?_
  refine g_iload_n 3 rfl rfl dX3_tellValues_128 ?_
  refine g_astL (j := 4) kd_23 (by decide) (by decide) dX3_tellValues_129 ?_
  refine GO.wr (fun M18 => ?_)
  exact g_vreturn rfl (by decide) (by decide) dX3_tellValues_130
def fX3_tellValues (a1 : Nat) (M : Mem) (x2 : Int32) (x3 : Int32) (x4 : Int32) : RS := bI (fX2_hasHouse (isA (gb M 0)) M x2) (fun M1 v2 => if v2 = 0 then some (M1, .inr none) else bI (fX2_hasPlot (isA (gb M1 0)) M1 x4) (fun M3 v4 => if v4 = 0 then some (M3, .inr none) else if x3 = 0 then chk (inb x2 8) (fX3_tellValues_b54 a1 M3 x2 x3 x4 (gi M3 ((isA (gb M3 0)) + 1) (ix x2)) 0) else chk (inb x2 8) (fX3_tellValues_b54 a1 M3 x2 x3 x4 (gi M3 ((isA (gb M3 0)) + 2) (ix x2)) 0)))
theorem SX3_tellValues (a1 : Nat) (h1 : a1 ∈ [39, 62]) (M : Mem) (x2 : Int32) (x3 : Int32) (x4 : Int32) : CTO (2) miX3_tellValues 0 0 [.ref 22, .ref a1, .int x2, .int x3, .int x4] M (fX3_tellValues a1 M x2 x3 x4) := by
  refine CTO.of (by decide) (by simp [lg_sl, Value.category]) ?_
  show GO miX3_tellValues (2) 0 0 0 0 0 [(0, .ref 22), (1, .ref a1), (2, .int x2), (3, .int x3), (4, .int x4)] [] M (bI (fX2_hasHouse (isA (gb M 0)) M x2) (fun M1 v2 => if v2 = 0 then some (M1, .inr none) else bI (fX2_hasPlot (isA (gb M1 0)) M1 x4) (fun M3 v4 => if v4 = 0 then some (M3, .inr none) else if x3 = 0 then chk (inb x2 8) (fX3_tellValues_b54 a1 M3 x2 x3 x4 (gi M3 ((isA (gb M3 0)) + 1) (ix x2)) 0) else chk (inb x2 8) (fX3_tellValues_b54 a1 M3 x2 x3 x4 (gi M3 ((isA (gb M3 0)) + 2) (ix x2)) 0))))
  refine g_aload_n 0 rfl rfl dX3_tellValues_0 ?_
  refine g_getR (k := 1) (b := (isA (gb M 0))) clX3 kd_22 (by decide) rfl rfl flX3_18 dX3_tellValues_1 ?_
  refine g_iload_n 2 rfl rfl dX3_tellValues_4 ?_
  refine g_callVI (y := miX2_hasHouse) (As := [.int x2]) (rest := []) clX2 (kv_d3_24_0 _ (isA_dom _)) rfl moX2_hasHouse rfl mlX3_22 (by first | decide | omega) (by decide) (by simp [Value.category]) rfl dX3_tellValues_5 (SX2_hasHouse (isA (gb M 0)) (isA_dom _) M x2) (fun M1 v2 => ?_)
  refine g_if_eq (tgt := 23) rfl dX3_tellValues_8 (fun c => ?_) (fun c => ?_)
  · exact g_vreturn rfl (by decide) (by decide) dX3_tellValues_23
  · refine g_aload_n 0 rfl rfl dX3_tellValues_11 ?_
    refine g_getR (k := 1) (b := (isA (gb M1 0))) clX3 kd_22 (by decide) rfl rfl flX3_18 dX3_tellValues_12 ?_
    refine g_iload 4 rfl dX3_tellValues_15 ?_
    refine g_callVI (y := miX2_hasPlot) (As := [.int x4]) (rest := []) clX2 (kv_d3_24_0 _ (isA_dom _)) rfl moX2_hasPlot rfl mlX3_46 (by first | decide | omega) (by decide) (by simp [Value.category]) rfl dX3_tellValues_17 (SX2_hasPlot (isA (gb M1 0)) (isA_dom _) M1 x4) (fun M3 v4 => ?_)
    refine g_if_ne (tgt := 24) rfl dX3_tellValues_20 (fun c => ?_) (fun c => ?_)
    · refine g_aload_n 0 rfl rfl dX3_tellValues_24 ?_
      refine g_getR (k := 0) (b := 23) clX3 kd_22 (by decide) rfl rfl flX3_11 dX3_tellValues_25 ?_
      refine g_iconst (v := 0) (by decide) dX3_tellValues_28 ?_
      refine g_iload_n 3 rfl rfl dX3_tellValues_29 ?_
      refine g_if_ne (tgt := 45) rfl dX3_tellValues_30 (fun c => ?_) (fun c => ?_)
      · refine g_aload_n 0 rfl rfl dX3_tellValues_45 ?_
        refine g_getR (k := 1) (b := (isA (gb M3 0))) clX3 kd_22 (by decide) rfl rfl flX3_18 dX3_tellValues_46 ?_
        refine g_getR (k := 1) (b := ((isA (gb M3 0)) + 2)) clX2 (kv_d3_24_0 _ (isA_dom _)) (by decide) rfl rfl flX3_35 dX3_tellValues_49 ?_
        refine g_iload_n 2 rfl rfl dX3_tellValues_52 ?_
        refine g_ald (kv_d3_24_2 _ (isA_dom _)) dX3_tellValues_53 (fun hi5 => ?_)
        exact GO.pick [0, 1, 2, 3, 4] rfl <| SX3_tellValues_b54 a1 h1 M3 x2 x3 x4 (gi M3 ((isA (gb M3 0)) + 2) (ix x2)) 0
      · refine g_aload_n 0 rfl rfl dX3_tellValues_33 ?_
        refine g_getR (k := 1) (b := (isA (gb M3 0))) clX3 kd_22 (by decide) rfl rfl flX3_18 dX3_tellValues_34 ?_
        refine g_getR (k := 0) (b := ((isA (gb M3 0)) + 1)) clX2 (kv_d3_24_0 _ (isA_dom _)) (by decide) rfl rfl flX3_32 dX3_tellValues_37 ?_
        refine g_iload_n 2 rfl rfl dX3_tellValues_40 ?_
        refine g_ald (kv_d3_24_1 _ (isA_dom _)) dX3_tellValues_41 (fun hi6 => ?_)
        refine g_goto (tgt := 54) rfl dX3_tellValues_42 ?_
        exact GO.pick [0, 1, 2, 3, 4] rfl <| SX3_tellValues_b54 a1 h1 M3 x2 x3 x4 (gi M3 ((isA (gb M3 0)) + 1) (ix x2)) 0
    · exact g_vreturn rfl (by decide) (by decide) dX3_tellValues_23
def fX6_isTold (a0 : Nat) (M : Mem)  : RS := if 0 < (gi M a0 2) then some (M, .inr (some (.int 1))) else some (M, .inr (some (.int 0)))
theorem SX6_isTold (a0 : Nat) (h0 : a0 ∈ [11, 14, 32, 35]) (M : Mem)  : CTO (0) miX6_isTold 0 0 [.ref a0] M (fX6_isTold a0 M ) := by
  refine CTO.of (by decide) (by simp [lg_sl, Value.category]) ?_
  show GO miX6_isTold (0) 0 0 0 0 0 [(0, .ref a0)] [] M (if 0 < (gi M a0 2) then some (M, .inr (some (.int 1))) else some (M, .inr (some (.int 0))))
  refine g_aload_n 0 rfl rfl dX6_isTold_0 ?_
  refine g_getI (k := 2) clX6 (kv_d11_14_32_35_0 _ h0) (by decide) rfl flX6_18 dX6_isTold_1 ?_
  refine g_if_le (tgt := 11) rfl dX6_isTold_4 (fun c => ?_) (fun c => ?_)
  · refine g_iconst (v := 0) (by decide) dX6_isTold_11 ?_
    exact g_zreturn rfl (by decide) (by decide) dX6_isTold_12 (by decide)
  · refine g_iconst (v := 1) (by decide) dX6_isTold_7 ?_
    refine g_goto (tgt := 12) rfl dX6_isTold_8 ?_
    exact g_zreturn rfl (by decide) (by decide) dX6_isTold_12 (by decide)
def fX6_join_b60 (M : Mem)  : RS := some (M, .inr (some (.int 1)))
theorem SX6_join_b60 (M : Mem)  : GO miX6_join (0) 0 0 0 0 60 [] [] M (fX6_join_b60 M ) := by
  show GO miX6_join (0) 0 0 0 0 60 [] [] M (some (M, .inr (some (.int 1))))
  refine g_iconst (v := 1) (by decide) dX6_join_60 ?_
  refine g_goto (tgt := 65) rfl dX6_join_61 ?_
  exact g_ireturn rfl (by decide) (by decide) dX6_join_65 rfl rfl
def fX6_join (M : Mem) (x0 : Int32) (x1 : Int32) (x2 : Int32) : RS := if x0 = (-9) then if x2 = 0 then some (M, .inr (some (.int 0))) else chk (!decide (x2 = 0)) (some (M, .inr (some (.int (x1 / x2))))) else if x0 = (-8) then some (M, .inr (some (.int (x1 * x2)))) else if x0 = (-7) then some (M, .inr (some (.int (x1 - x2)))) else if x0 = (-6) then some (M, .inr (some (.int (x1 + x2)))) else if x0 = (-5) then if x1 = x2 then some (M, .inr (some (.int 1))) else some (M, .inr (some (.int 0))) else if x0 = (-4) then if x1 < x2 then some (M, .inr (some (.int 1))) else some (M, .inr (some (.int 0))) else if x0 = (-2) then if x1 = 0 then some (M, .inr (some (.int 0))) else if x2 = 0 then some (M, .inr (some (.int 0))) else some (M, .inr (some (.int 1))) else if x0 = (-1) then if x1 = 0 then if x2 = 0 then some (M, .inr (some (.int 0))) else fX6_join_b60  M else fX6_join_b60  M else some (M, .inr (some (.int 0)))
theorem SX6_join (M : Mem) (x0 : Int32) (x1 : Int32) (x2 : Int32) : CTO (0) miX6_join 0 0 [.int x0, .int x1, .int x2] M (fX6_join  M x0 x1 x2) := by
  refine CTO.of (by decide) (by simp [lg_sl, Value.category]) ?_
  show GO miX6_join (0) 0 0 0 0 0 [(0, .int x0), (1, .int x1), (2, .int x2)] [] M (if x0 = (-9) then if x2 = 0 then some (M, .inr (some (.int 0))) else chk (!decide (x2 = 0)) (some (M, .inr (some (.int (x1 / x2))))) else if x0 = (-8) then some (M, .inr (some (.int (x1 * x2)))) else if x0 = (-7) then some (M, .inr (some (.int (x1 - x2)))) else if x0 = (-6) then some (M, .inr (some (.int (x1 + x2)))) else if x0 = (-5) then if x1 = x2 then some (M, .inr (some (.int 1))) else some (M, .inr (some (.int 0))) else if x0 = (-4) then if x1 < x2 then some (M, .inr (some (.int 1))) else some (M, .inr (some (.int 0))) else if x0 = (-2) then if x1 = 0 then some (M, .inr (some (.int 0))) else if x2 = 0 then some (M, .inr (some (.int 0))) else some (M, .inr (some (.int 1))) else if x0 = (-1) then if x1 = 0 then if x2 = 0 then some (M, .inr (some (.int 0))) else fX6_join_b60  M else fX6_join_b60  M else some (M, .inr (some (.int 0))))
  refine g_iload_n 0 rfl rfl dX6_join_0 ?_
  refine g_tabI (tgt := 114) (off := 113) (-9) rfl (by decide) (by decide) (by decide) dX6_join_1 ?_ (fun cm9 => ?_)
  · refine g_iload_n 2 rfl rfl dX6_join_114 ?_
    refine g_if_ne (tgt := 122) rfl dX6_join_115 (fun c => ?_) (fun c => ?_)
    · refine g_iload_n 1 rfl rfl dX6_join_122 ?_
      refine g_iload_n 2 rfl rfl dX6_join_123 ?_
      refine GO.chk fun hy => ?_
      refine g_idiv (by simpa using hy) dX6_join_124 ?_
      exact g_ireturn rfl (by decide) (by decide) dX6_join_125 rfl rfl
    · refine g_iconst (v := 0) (by decide) dX6_join_118 ?_
      refine g_goto (tgt := 125) rfl dX6_join_119 ?_
      exact g_ireturn rfl (by decide) (by decide) dX6_join_125 rfl rfl
  refine g_tabI (tgt := 110) (off := 109) (-8) rfl (by decide) (by decide) (by decide) dX6_join_1 ?_ (fun cm8 => ?_)
  · refine g_iload_n 1 rfl rfl dX6_join_110 ?_
    refine g_iload_n 2 rfl rfl dX6_join_111 ?_
    refine g_imul dX6_join_112 ?_
    exact g_ireturn rfl (by decide) (by decide) dX6_join_113 rfl rfl
  refine g_tabI (tgt := 106) (off := 105) (-7) rfl (by decide) (by decide) (by decide) dX6_join_1 ?_ (fun cm7 => ?_)
  · refine g_iload_n 1 rfl rfl dX6_join_106 ?_
    refine g_iload_n 2 rfl rfl dX6_join_107 ?_
    refine g_isub dX6_join_108 ?_
    exact g_ireturn rfl (by decide) (by decide) dX6_join_109 rfl rfl
  refine g_tabI (tgt := 102) (off := 101) (-6) rfl (by decide) (by decide) (by decide) dX6_join_1 ?_ (fun cm6 => ?_)
  · refine g_iload_n 1 rfl rfl dX6_join_102 ?_
    refine g_iload_n 2 rfl rfl dX6_join_103 ?_
    refine g_iadd dX6_join_104 ?_
    exact g_ireturn rfl (by decide) (by decide) dX6_join_105 rfl rfl
  refine g_tabI (tgt := 91) (off := 90) (-5) rfl (by decide) (by decide) (by decide) dX6_join_1 ?_ (fun cm5 => ?_)
  · refine g_iload_n 1 rfl rfl dX6_join_91 ?_
    refine g_iload_n 2 rfl rfl dX6_join_92 ?_
    refine g_icmp_ne (tgt := 100) rfl dX6_join_93 (fun c => ?_) (fun c => ?_)
    · refine g_iconst (v := 0) (by decide) dX6_join_100 ?_
      exact g_ireturn rfl (by decide) (by decide) dX6_join_101 rfl rfl
    · refine g_iconst (v := 1) (by decide) dX6_join_96 ?_
      refine g_goto (tgt := 101) rfl dX6_join_97 ?_
      exact g_ireturn rfl (by decide) (by decide) dX6_join_101 rfl rfl
  refine g_tabI (tgt := 80) (off := 79) (-4) rfl (by decide) (by decide) (by decide) dX6_join_1 ?_ (fun cm4 => ?_)
  · refine g_iload_n 1 rfl rfl dX6_join_80 ?_
    refine g_iload_n 2 rfl rfl dX6_join_81 ?_
    refine g_icmp_ge (tgt := 89) rfl dX6_join_82 (fun c => ?_) (fun c => ?_)
    · refine g_iconst (v := 0) (by decide) dX6_join_89 ?_
      exact g_ireturn rfl (by decide) (by decide) dX6_join_90 rfl rfl
    · refine g_iconst (v := 1) (by decide) dX6_join_85 ?_
      refine g_goto (tgt := 90) rfl dX6_join_86 ?_
      exact g_ireturn rfl (by decide) (by decide) dX6_join_90 rfl rfl
  refine g_tabI (tgt := 66) (off := 65) (-2) rfl (by decide) (by decide) (by decide) dX6_join_1 ?_ (fun cm2 => ?_)
  · refine g_iload_n 1 rfl rfl dX6_join_66 ?_
    refine g_if_eq (tgt := 78) rfl dX6_join_67 (fun c => ?_) (fun c => ?_)
    · refine g_iconst (v := 0) (by decide) dX6_join_78 ?_
      exact g_ireturn rfl (by decide) (by decide) dX6_join_79 rfl rfl
    · refine g_iload_n 2 rfl rfl dX6_join_70 ?_
      refine g_if_eq (tgt := 78) rfl dX6_join_71 (fun c => ?_) (fun c => ?_)
      · refine g_iconst (v := 0) (by decide) dX6_join_78 ?_
        exact g_ireturn rfl (by decide) (by decide) dX6_join_79 rfl rfl
      · refine g_iconst (v := 1) (by decide) dX6_join_74 ?_
        refine g_goto (tgt := 79) rfl dX6_join_75 ?_
        exact g_ireturn rfl (by decide) (by decide) dX6_join_79 rfl rfl
  refine g_tabI (tgt := 52) (off := 51) (-1) rfl (by decide) (by decide) (by decide) dX6_join_1 ?_ (fun cm1 => ?_)
  · refine g_iload_n 1 rfl rfl dX6_join_52 ?_
    refine g_if_ne (tgt := 60) rfl dX6_join_53 (fun c => ?_) (fun c => ?_)
    · exact GO.pick [] rfl <| SX6_join_b60  M
    · refine g_iload_n 2 rfl rfl dX6_join_56 ?_
      refine g_if_eq (tgt := 64) rfl dX6_join_57 (fun c => ?_) (fun c => ?_)
      · refine g_iconst (v := 0) (by decide) dX6_join_64 ?_
        exact g_ireturn rfl (by decide) (by decide) dX6_join_65 rfl rfl
      · exact GO.pick [] rfl <| SX6_join_b60  M
  refine g_tabZ (tgt := 126) [(-9), (-8), (-7), (-6), (-5), (-4), (-2), (-1)] (List.forall_mem_cons.mpr ⟨cm9, (List.forall_mem_cons.mpr ⟨cm8, (List.forall_mem_cons.mpr ⟨cm7, (List.forall_mem_cons.mpr ⟨cm6, (List.forall_mem_cons.mpr ⟨cm5, (List.forall_mem_cons.mpr ⟨cm4, (List.forall_mem_cons.mpr ⟨cm2, (List.forall_mem_cons.mpr ⟨cm1, (fun _ h => absurd h List.not_mem_nil)⟩)⟩)⟩)⟩)⟩)⟩)⟩)⟩) rfl dX6_join_1 (by decide) (by decide) ?_
  refine g_iconst (v := 0) (by decide) dX6_join_126 ?_
  exact g_ireturn rfl (by decide) (by decide) dX6_join_127 rfl rfl
def fX6_valueOf (M : Mem) (x1 : Int32) : RS := if x1 < 0 then some (M, .inr (some (.int 0))) else if x1 < 7 then chk (inb x1 7) (some (M, .inr (some (.int (gi M 23 (ix x1)))))) else some (M, .inr (some (.int 0)))
theorem SX6_valueOf (M : Mem) (x1 : Int32) : CTO (0) miX6_valueOf 0 0 [.ref 23, .int x1] M (fX6_valueOf  M x1) := by
  refine CTO.of (by decide) (by simp [lg_sl, Value.category]) ?_
  show GO miX6_valueOf (0) 0 0 0 0 0 [(0, .ref 23), (1, .int x1)] [] M (if x1 < 0 then some (M, .inr (some (.int 0))) else if x1 < 7 then chk (inb x1 7) (some (M, .inr (some (.int (gi M 23 (ix x1)))))) else some (M, .inr (some (.int 0))))
  refine g_iload_n 1 rfl rfl dX6_valueOf_0 ?_
  refine g_if_lt (tgt := 16) rfl dX6_valueOf_1 (fun c => ?_) (fun c => ?_)
  · refine g_iconst (v := 0) (by decide) dX6_valueOf_16 ?_
    exact g_ireturn rfl (by decide) (by decide) dX6_valueOf_17 rfl rfl
  · refine g_iload_n 1 rfl rfl dX6_valueOf_4 ?_
    refine g_aload_n 0 rfl rfl dX6_valueOf_5 ?_
    refine g_alen (v := 7) kd_23 (by decide) (by decide) dX6_valueOf_6 ?_
    refine g_icmp_ge (tgt := 16) rfl dX6_valueOf_7 (fun c => ?_) (fun c => ?_)
    · refine g_iconst (v := 0) (by decide) dX6_valueOf_16 ?_
      exact g_ireturn rfl (by decide) (by decide) dX6_valueOf_17 rfl rfl
    · refine g_aload_n 0 rfl rfl dX6_valueOf_10 ?_
      refine g_iload_n 1 rfl rfl dX6_valueOf_11 ?_
      refine g_ald kd_23 dX6_valueOf_12 (fun hi1 => ?_)
      refine g_goto (tgt := 17) rfl dX6_valueOf_13 ?_
      exact g_ireturn rfl (by decide) (by decide) dX6_valueOf_17 rfl rfl
def fX6_reckon_b155 (a0 : Nat) (rec4 : Mem → Int32 → Int32 → RS) (M : Mem) (x2 : Int32) (x3 : Int32) : RS := rec4 M x2 (x3 + 1)
theorem SX6_reckon_b155 (a0 : Nat) (h0 : a0 ∈ [11, 14, 32, 35]) (rec4 : Mem → Int32 → Int32 → RS) (hrec4 : ∀ (M : Mem) (x2 : Int32) (x3 : Int32), GO miX6_reckon (1) 0 0 0 0 4 [(0, .ref a0), (1, .ref 23), (2, .int x2), (3, .int x3)] [] M (rec4 M x2 x3)) (M : Mem) (x2 : Int32) (x3 : Int32) : GO miX6_reckon (1) 0 0 0 0 155 [(0, .ref a0), (1, .ref 23), (2, .int x2), (3, .int x3)] [] M (fX6_reckon_b155 a0 rec4 M x2 x3) := by
  show GO miX6_reckon (1) 0 0 0 0 155 [(0, .ref a0), (1, .ref 23), (2, .int x2), (3, .int x3)] [] M (rec4 M x2 (x3 + 1))
  refine g_iinc (v := x3 + 1) (L' := [(3, .int (x3 + 1)), (0, .ref a0), (1, .ref 23), (2, .int x2)]) 3 rfl rfl (by decide) rfl dX6_reckon_155 ?_
  refine g_goto (tgt := 4) rfl dX6_reckon_158 ?_
  exact GO.pick [1, 2, 3, 0] rfl <| hrec4 M x2 (x3 + 1)
def fX6_reckon_b74 (a0 : Nat) (rec4 : Mem → Int32 → Int32 → RS) (M : Mem) (x2 : Int32) (x3 : Int32) (s0 : Int32) (s1 : Int32) : RS := chk (inb s1 40) (wr (si M (a0 + 2) (ix s1) s0) (fun M14 => fX6_reckon_b155 a0 rec4 M14 (x2 + 1) x3))
theorem SX6_reckon_b74 (a0 : Nat) (h0 : a0 ∈ [11, 14, 32, 35]) (rec4 : Mem → Int32 → Int32 → RS) (hrec4 : ∀ (M : Mem) (x2 : Int32) (x3 : Int32), GO miX6_reckon (1) 0 0 0 0 4 [(0, .ref a0), (1, .ref 23), (2, .int x2), (3, .int x3)] [] M (rec4 M x2 x3)) (M : Mem) (x2 : Int32) (x3 : Int32) (s0 : Int32) (s1 : Int32) : GO miX6_reckon (1) 0 0 0 0 74 [(0, .ref a0), (1, .ref 23), (2, .int x2), (3, .int x3)] [.int s0, .int s1, .ref (a0 + 2)] M (fX6_reckon_b74 a0 rec4 M x2 x3 s0 s1) := by
  show GO miX6_reckon (1) 0 0 0 0 74 [(0, .ref a0), (1, .ref 23), (2, .int x2), (3, .int x3)] [.int s0, .int s1, .ref (a0 + 2)] M (chk (inb s1 40) (wr (si M (a0 + 2) (ix s1) s0) (fun M14 => fX6_reckon_b155 a0 rec4 M14 (x2 + 1) x3)))
  refine g_ast (kv_d11_14_32_35_2 _ h0) dX6_reckon_74 (fun hi13 => ?_)
  refine GO.wr (fun M14 => ?_)
  refine g_iinc (v := x2 + 1) (L' := [(2, .int (x2 + 1)), (0, .ref a0), (1, .ref 23), (3, .int x3)]) 2 rfl rfl (by decide) rfl dX6_reckon_75 ?_
  refine g_goto (tgt := 155) rfl dX6_reckon_78 ?_
  exact GO.pick [1, 2, 0, 3] rfl <| SX6_reckon_b155 a0 h0 rec4 hrec4 M14 (x2 + 1) x3
def fX6_reckon_b41 (a0 : Nat) (rec4 : Mem → Int32 → Int32 → RS) (M : Mem) (x2 : Int32) (x3 : Int32) (x4 : Int32) : RS := if x2 < 40 then if x4 < 0 then bI (fX6_valueOf M ((-10) - x4)) (fun M9 v10 => fX6_reckon_b74 a0 rec4 M9 x2 x3 v10 x2) else fX6_reckon_b74 a0 rec4 M x2 x3 x4 x2 else fX6_reckon_b155 a0 rec4 M x2 x3
theorem SX6_reckon_b41 (a0 : Nat) (h0 : a0 ∈ [11, 14, 32, 35]) (rec4 : Mem → Int32 → Int32 → RS) (hrec4 : ∀ (M : Mem) (x2 : Int32) (x3 : Int32), GO miX6_reckon (1) 0 0 0 0 4 [(0, .ref a0), (1, .ref 23), (2, .int x2), (3, .int x3)] [] M (rec4 M x2 x3)) (M : Mem) (x2 : Int32) (x3 : Int32) (x4 : Int32) : GO miX6_reckon (1) 0 0 0 0 41 [(0, .ref a0), (1, .ref 23), (2, .int x2), (3, .int x3), (4, .int x4)] [] M (fX6_reckon_b41 a0 rec4 M x2 x3 x4) := by
  show GO miX6_reckon (1) 0 0 0 0 41 [(0, .ref a0), (1, .ref 23), (2, .int x2), (3, .int x3), (4, .int x4)] [] M (if x2 < 40 then if x4 < 0 then bI (fX6_valueOf M ((-10) - x4)) (fun M9 v10 => fX6_reckon_b74 a0 rec4 M9 x2 x3 v10 x2) else fX6_reckon_b74 a0 rec4 M x2 x3 x4 x2 else fX6_reckon_b155 a0 rec4 M x2 x3)
  refine g_iload_n 2 rfl rfl dX6_reckon_41 ?_
  refine g_aload_n 0 rfl rfl dX6_reckon_42 ?_
  refine g_getR (k := 1) (b := (a0 + 2)) clX6 (kv_d11_14_32_35_0 _ h0) (by decide) rfl rfl flX6_15 dX6_reckon_43 ?_
  refine g_alen (v := 40) (kv_d11_14_32_35_2 _ h0) (by decide) (by decide) dX6_reckon_46 ?_
  refine g_icmp_ge (tgt := 155) rfl dX6_reckon_47 (fun c => ?_) (fun c => ?_)
  · exact GO.pick [0, 1, 2, 3] rfl <| SX6_reckon_b155 a0 h0 rec4 hrec4 M x2 x3
  · refine g_aload_n 0 rfl rfl dX6_reckon_50 ?_
    refine g_getR (k := 1) (b := (a0 + 2)) clX6 (kv_d11_14_32_35_0 _ h0) (by decide) rfl rfl flX6_15 dX6_reckon_51 ?_
    refine g_iload_n 2 rfl rfl dX6_reckon_54 ?_
    refine g_iload 4 rfl dX6_reckon_55 ?_
    refine g_if_lt (tgt := 65) rfl dX6_reckon_57 (fun c => ?_) (fun c => ?_)
    · refine g_aload_n 1 rfl rfl dX6_reckon_65 ?_
      refine g_bipush (v := (-10)) (by decide) dX6_reckon_66 ?_
      refine g_iload 4 rfl dX6_reckon_68 ?_
      refine g_isub dX6_reckon_70 ?_
      refine g_callSI (y := miX6_valueOf) (As := [.ref 23, .int ((-10) - x4)]) (rest := [.int x2, .ref (a0 + 2)]) moX6_valueOf rfl mlX6_22 (by first | decide | omega) (by decide) (by simp [Value.category]) rfl dX6_reckon_71 (SX6_valueOf  M ((-10) - x4)) (fun M9 v10 => ?_)
      exact GO.pick [0, 1, 2, 3] rfl <| SX6_reckon_b74 a0 h0 rec4 hrec4 M9 x2 x3 v10 x2
    · refine g_iload 4 rfl dX6_reckon_60 ?_
      refine g_goto (tgt := 74) rfl dX6_reckon_62 ?_
      exact GO.pick [0, 1, 2, 3] rfl <| SX6_reckon_b74 a0 h0 rec4 hrec4 M x2 x3 x4 x2
def fX6_reckon_b116 (a0 : Nat) (rec4 : Mem → Int32 → Int32 → RS) (M : Mem) (x2 : Int32) (x3 : Int32) (s0 : Int32) (s1 : Int32) : RS := chk (inb s1 40) (wr (si M (a0 + 2) (ix s1) s0) (fun M12 => fX6_reckon_b155 a0 rec4 M12 x2 x3))
theorem SX6_reckon_b116 (a0 : Nat) (h0 : a0 ∈ [11, 14, 32, 35]) (rec4 : Mem → Int32 → Int32 → RS) (hrec4 : ∀ (M : Mem) (x2 : Int32) (x3 : Int32), GO miX6_reckon (1) 0 0 0 0 4 [(0, .ref a0), (1, .ref 23), (2, .int x2), (3, .int x3)] [] M (rec4 M x2 x3)) (M : Mem) (x2 : Int32) (x3 : Int32) (s0 : Int32) (s1 : Int32) : GO miX6_reckon (1) 0 0 0 0 116 [(0, .ref a0), (1, .ref 23), (2, .int x2), (3, .int x3)] [.int s0, .int s1, .ref (a0 + 2)] M (fX6_reckon_b116 a0 rec4 M x2 x3 s0 s1) := by
  show GO miX6_reckon (1) 0 0 0 0 116 [(0, .ref a0), (1, .ref 23), (2, .int x2), (3, .int x3)] [.int s0, .int s1, .ref (a0 + 2)] M (chk (inb s1 40) (wr (si M (a0 + 2) (ix s1) s0) (fun M12 => fX6_reckon_b155 a0 rec4 M12 x2 x3)))
  refine g_ast (kv_d11_14_32_35_2 _ h0) dX6_reckon_116 (fun hi11 => ?_)
  refine GO.wr (fun M12 => ?_)
  refine g_goto (tgt := 155) rfl dX6_reckon_117 ?_
  exact GO.pick [0, 1, 2, 3] rfl <| SX6_reckon_b155 a0 h0 rec4 hrec4 M12 x2 x3
def fX6_reckon_b161 (a0 : Nat) (M : Mem)  : RS := some (M, .inr (some (.int (gi M (a0 + 2) 0))))
theorem SX6_reckon_b161 (a0 : Nat) (h0 : a0 ∈ [11, 14, 32, 35]) (M : Mem)  : GO miX6_reckon (1) 0 0 0 0 161 [(0, .ref a0)] [] M (fX6_reckon_b161 a0 M ) := by
  show GO miX6_reckon (1) 0 0 0 0 161 [(0, .ref a0)] [] M (some (M, .inr (some (.int (gi M (a0 + 2) 0)))))
  refine g_aload_n 0 rfl rfl dX6_reckon_161 ?_
  refine g_getR (k := 1) (b := (a0 + 2)) clX6 (kv_d11_14_32_35_0 _ h0) (by decide) rfl rfl flX6_15 dX6_reckon_162 ?_
  refine g_iconst (v := 0) (by decide) dX6_reckon_165 ?_
  refine g_aldL (j := 0) (kv_d11_14_32_35_2 _ h0) (by decide) (by decide) dX6_reckon_166 ?_
  exact g_ireturn rfl (by decide) (by decide) dX6_reckon_167 rfl rfl
def fX6_reckon_b4 (a0 : Nat) : Nat → Mem → Int32 → Int32 → RS
  | 0 => fun _ _ _ => none
  | n + 1 => fun M x2 x3 => if x3 < (gi M a0 2) then if x3 < 700 then chk (inb x3 700) (if (gi M (a0 + 1) (ix x3)) < 0 then if (-10) < (gi M (a0 + 1) (ix x3)) then if (gi M (a0 + 1) (ix x3)) = (-3) then if x2 < 1 then fX6_reckon_b155 a0 (fX6_reckon_b4 a0 n) M x2 x3 else chk (inb (x2 - 1) 40) (if (gi M (a0 + 2) (ix (x2 - 1))) = 0 then fX6_reckon_b116 a0 (fX6_reckon_b4 a0 n) M x2 x3 1 (x2 - 1) else fX6_reckon_b116 a0 (fX6_reckon_b4 a0 n) M x2 x3 0 (x2 - 1)) else if x2 < 2 then fX6_reckon_b155 a0 (fX6_reckon_b4 a0 n) M x2 x3 else chk (inb ((x2 + (-1)) - 1) 40) (chk (inb (x2 + (-1)) 40) (bI (fX6_join M (gi M (a0 + 1) (ix x3)) (gi M (a0 + 2) (ix ((x2 + (-1)) - 1))) (gi M (a0 + 2) (ix (x2 + (-1))))) (fun M4 v5 => chk (inb ((x2 + (-1)) - 1) 40) (wr (si M4 (a0 + 2) (ix ((x2 + (-1)) - 1)) v5) (fun M7 => fX6_reckon_b155 a0 (fX6_reckon_b4 a0 n) M7 (x2 + (-1)) x3))))) else fX6_reckon_b41 a0 (fX6_reckon_b4 a0 n) M x2 x3 (gi M (a0 + 1) (ix x3)) else fX6_reckon_b41 a0 (fX6_reckon_b4 a0 n) M x2 x3 (gi M (a0 + 1) (ix x3))) else fX6_reckon_b161 a0 M else fX6_reckon_b161 a0 M
theorem SX6_reckon_b4 (a0 : Nat) (h0 : a0 ∈ [11, 14, 32, 35]) (n : Nat) : ∀ (M : Mem) (x2 : Int32) (x3 : Int32), GO miX6_reckon (1) 0 0 0 0 4 [(0, .ref a0), (1, .ref 23), (2, .int x2), (3, .int x3)] [] M (fX6_reckon_b4 a0 n M x2 x3) := by
  induction n with
  | zero => intro M x2 x3 ; exact GO.none
  | succ n hrec4 =>
    intro M x2 x3 
    show GO miX6_reckon (1) 0 0 0 0 4 [(0, .ref a0), (1, .ref 23), (2, .int x2), (3, .int x3)] [] M (if x3 < (gi M a0 2) then if x3 < 700 then chk (inb x3 700) (if (gi M (a0 + 1) (ix x3)) < 0 then if (-10) < (gi M (a0 + 1) (ix x3)) then if (gi M (a0 + 1) (ix x3)) = (-3) then if x2 < 1 then fX6_reckon_b155 a0 (fX6_reckon_b4 a0 n) M x2 x3 else chk (inb (x2 - 1) 40) (if (gi M (a0 + 2) (ix (x2 - 1))) = 0 then fX6_reckon_b116 a0 (fX6_reckon_b4 a0 n) M x2 x3 1 (x2 - 1) else fX6_reckon_b116 a0 (fX6_reckon_b4 a0 n) M x2 x3 0 (x2 - 1)) else if x2 < 2 then fX6_reckon_b155 a0 (fX6_reckon_b4 a0 n) M x2 x3 else chk (inb ((x2 + (-1)) - 1) 40) (chk (inb (x2 + (-1)) 40) (bI (fX6_join M (gi M (a0 + 1) (ix x3)) (gi M (a0 + 2) (ix ((x2 + (-1)) - 1))) (gi M (a0 + 2) (ix (x2 + (-1))))) (fun M4 v5 => chk (inb ((x2 + (-1)) - 1) 40) (wr (si M4 (a0 + 2) (ix ((x2 + (-1)) - 1)) v5) (fun M7 => fX6_reckon_b155 a0 (fX6_reckon_b4 a0 n) M7 (x2 + (-1)) x3))))) else fX6_reckon_b41 a0 (fX6_reckon_b4 a0 n) M x2 x3 (gi M (a0 + 1) (ix x3)) else fX6_reckon_b41 a0 (fX6_reckon_b4 a0 n) M x2 x3 (gi M (a0 + 1) (ix x3))) else fX6_reckon_b161 a0 M else fX6_reckon_b161 a0 M)
    refine g_iload_n 3 rfl rfl dX6_reckon_4 ?_
    refine g_aload_n 0 rfl rfl dX6_reckon_5 ?_
    refine g_getI (k := 2) clX6 (kv_d11_14_32_35_0 _ h0) (by decide) rfl flX6_18 dX6_reckon_6 ?_
    refine g_icmp_ge (tgt := 161) rfl dX6_reckon_9 (fun c => ?_) (fun c => ?_)
    · exact GO.pick [0] rfl <| SX6_reckon_b161 a0 h0 M
    · refine g_iload_n 3 rfl rfl dX6_reckon_12 ?_
      refine g_aload_n 0 rfl rfl dX6_reckon_13 ?_
      refine g_getR (k := 0) (b := (a0 + 1)) clX6 (kv_d11_14_32_35_0 _ h0) (by decide) rfl rfl flX6_9 dX6_reckon_14 ?_
      refine g_alen (v := 700) (kv_d11_14_32_35_1 _ h0) (by decide) (by decide) dX6_reckon_17 ?_
      refine g_icmp_ge (tgt := 161) rfl dX6_reckon_18 (fun c => ?_) (fun c => ?_)
      · exact GO.pick [0] rfl <| SX6_reckon_b161 a0 h0 M
      · refine g_aload_n 0 rfl rfl dX6_reckon_21 ?_
        refine g_getR (k := 0) (b := (a0 + 1)) clX6 (kv_d11_14_32_35_0 _ h0) (by decide) rfl rfl flX6_9 dX6_reckon_22 ?_
        refine g_iload_n 3 rfl rfl dX6_reckon_25 ?_
        refine g_ald (kv_d11_14_32_35_1 _ h0) dX6_reckon_26 (fun hi1 => ?_)
        refine g_istore (L' := [(4, .int (gi M (a0 + 1) (ix x3))), (0, .ref a0), (1, .ref 23), (2, .int x2), (3, .int x3)]) (by decide) rfl dX6_reckon_27 ?_
        refine g_iload 0 rfl dX6_reckon_29 ?_
        refine g_if_ge (tgt := 41) rfl dX6_reckon_31 (fun c => ?_) (fun c => ?_)
        · exact GO.pick [1, 2, 3, 4, 0] rfl <| SX6_reckon_b41 a0 h0 (fX6_reckon_b4 a0 n) hrec4 M x2 x3 (gi M (a0 + 1) (ix x3))
        · refine g_iload 0 rfl dX6_reckon_34 ?_
          refine g_bipush (v := (-10)) (by decide) dX6_reckon_36 ?_
          refine g_icmp_gt (tgt := 81) rfl dX6_reckon_38 (fun c => ?_) (fun c => ?_)
          · refine g_iload 0 rfl dX6_reckon_81 ?_
            refine g_bipush (v := (-3)) (by decide) dX6_reckon_83 ?_
            refine g_icmp_ne (tgt := 120) rfl dX6_reckon_85 (fun c => ?_) (fun c => ?_)
            · refine g_iload_n 3 rfl rfl dX6_reckon_120 ?_
              refine g_iconst (v := 2) (by decide) dX6_reckon_121 ?_
              refine g_icmp_lt (tgt := 155) rfl dX6_reckon_122 (fun c => ?_) (fun c => ?_)
              · exact GO.pick [1, 2, 3, 4] rfl <| SX6_reckon_b155 a0 h0 (fX6_reckon_b4 a0 n) hrec4 M x2 x3
              · refine g_iinc (v := x2 + (-1)) (L' := [(2, .int (x2 + (-1))), (4, .int (gi M (a0 + 1) (ix x3))), (0, .ref a0), (1, .ref 23), (3, .int x3)]) 3 rfl (congrArg _ (by decide)) (by decide) rfl dX6_reckon_125 ?_
                refine g_aload_n 2 rfl rfl dX6_reckon_128 ?_
                refine g_getR (k := 1) (b := (a0 + 2)) clX6 (kv_d11_14_32_35_0 _ h0) (by decide) rfl rfl flX6_15 dX6_reckon_129 ?_
                refine g_iload_n 0 rfl rfl dX6_reckon_132 ?_
                refine g_iconst (v := 1) (by decide) dX6_reckon_133 ?_
                refine g_isub dX6_reckon_134 ?_
                refine g_iload 1 rfl dX6_reckon_135 ?_
                refine g_aload_n 2 rfl rfl dX6_reckon_137 ?_
                refine g_getR (k := 1) (b := (a0 + 2)) clX6 (kv_d11_14_32_35_0 _ h0) (by decide) rfl rfl flX6_15 dX6_reckon_138 ?_
                refine g_iload_n 0 rfl rfl dX6_reckon_141 ?_
                refine g_iconst (v := 1) (by decide) dX6_reckon_142 ?_
                refine g_isub dX6_reckon_143 ?_
                refine g_ald (kv_d11_14_32_35_2 _ h0) dX6_reckon_144 (fun hi2 => ?_)
                refine g_aload_n 2 rfl rfl dX6_reckon_145 ?_
                refine g_getR (k := 1) (b := (a0 + 2)) clX6 (kv_d11_14_32_35_0 _ h0) (by decide) rfl rfl flX6_15 dX6_reckon_146 ?_
                refine g_iload_n 0 rfl rfl dX6_reckon_149 ?_
                refine g_ald (kv_d11_14_32_35_2 _ h0) dX6_reckon_150 (fun hi3 => ?_)
                refine g_callSI (y := miX6_join) (As := [.int (gi M (a0 + 1) (ix x3)), .int (gi M (a0 + 2) (ix ((x2 + (-1)) - 1))), .int (gi M (a0 + 2) (ix (x2 + (-1))))]) (rest := [.int ((x2 + (-1)) - 1), .ref (a0 + 2)]) moX6_join rfl mlX6_26 (by first | decide | omega) (by decide) (by simp [Value.category]) rfl dX6_reckon_151 (SX6_join  M (gi M (a0 + 1) (ix x3)) (gi M (a0 + 2) (ix ((x2 + (-1)) - 1))) (gi M (a0 + 2) (ix (x2 + (-1))))) (fun M4 v5 => ?_)
                refine g_ast (kv_d11_14_32_35_2 _ h0) dX6_reckon_154 (fun hi6 => ?_)
                refine GO.wr (fun M7 => ?_)
                exact GO.pick [2, 3, 0, 4] rfl <| SX6_reckon_b155 a0 h0 (fX6_reckon_b4 a0 n) hrec4 M7 (x2 + (-1)) x3
            · refine g_iload_n 3 rfl rfl dX6_reckon_88 ?_
              refine g_iconst (v := 1) (by decide) dX6_reckon_89 ?_
              refine g_icmp_lt (tgt := 155) rfl dX6_reckon_90 (fun c => ?_) (fun c => ?_)
              · exact GO.pick [1, 2, 3, 4] rfl <| SX6_reckon_b155 a0 h0 (fX6_reckon_b4 a0 n) hrec4 M x2 x3
              · refine g_aload_n 1 rfl rfl dX6_reckon_93 ?_
                refine g_getR (k := 1) (b := (a0 + 2)) clX6 (kv_d11_14_32_35_0 _ h0) (by decide) rfl rfl flX6_15 dX6_reckon_94 ?_
                refine g_iload_n 3 rfl rfl dX6_reckon_97 ?_
                refine g_iconst (v := 1) (by decide) dX6_reckon_98 ?_
                refine g_isub dX6_reckon_99 ?_
                refine g_aload_n 1 rfl rfl dX6_reckon_100 ?_
                refine g_getR (k := 1) (b := (a0 + 2)) clX6 (kv_d11_14_32_35_0 _ h0) (by decide) rfl rfl flX6_15 dX6_reckon_101 ?_
                refine g_iload_n 3 rfl rfl dX6_reckon_104 ?_
                refine g_iconst (v := 1) (by decide) dX6_reckon_105 ?_
                refine g_isub dX6_reckon_106 ?_
                refine g_ald (kv_d11_14_32_35_2 _ h0) dX6_reckon_107 (fun hi8 => ?_)
                refine g_if_ne (tgt := 115) rfl dX6_reckon_108 (fun c => ?_) (fun c => ?_)
                · refine g_iconst (v := 0) (by decide) dX6_reckon_115 ?_
                  exact GO.pick [1, 2, 3, 4] rfl <| SX6_reckon_b116 a0 h0 (fX6_reckon_b4 a0 n) hrec4 M x2 x3 0 (x2 - 1)
                · refine g_iconst (v := 1) (by decide) dX6_reckon_111 ?_
                  refine g_goto (tgt := 116) rfl dX6_reckon_112 ?_
                  exact GO.pick [1, 2, 3, 4] rfl <| SX6_reckon_b116 a0 h0 (fX6_reckon_b4 a0 n) hrec4 M x2 x3 1 (x2 - 1)
          · exact GO.pick [1, 2, 3, 4, 0] rfl <| SX6_reckon_b41 a0 h0 (fX6_reckon_b4 a0 n) hrec4 M x2 x3 (gi M (a0 + 1) (ix x3))
def fX6_reckon (a0 : Nat) (M : Mem)  : RS := fX6_reckon_b4 a0 FU M 0 0
theorem SX6_reckon (a0 : Nat) (h0 : a0 ∈ [11, 14, 32, 35]) (M : Mem)  : CTO (1) miX6_reckon 0 0 [.ref a0, .ref 23] M (fX6_reckon a0 M ) := by
  refine CTO.of (by decide) (by simp [lg_sl, Value.category]) ?_
  show GO miX6_reckon (1) 0 0 0 0 0 [(0, .ref a0), (1, .ref 23)] [] M (fX6_reckon_b4 a0 FU M 0 0)
  refine g_iconst (v := 0) (by decide) dX6_reckon_0 ?_
  refine g_istore_n (L' := [(2, .int 0), (0, .ref a0), (1, .ref 23)]) (by decide) rfl rfl dX6_reckon_1 ?_
  refine g_iconst (v := 0) (by decide) dX6_reckon_2 ?_
  refine g_istore_n (L' := [(3, .int 0), (2, .int 0), (0, .ref a0), (1, .ref 23)]) (by decide) rfl rfl dX6_reckon_3 ?_
  exact GO.pick [2, 3, 1, 0] rfl <| SX6_reckon_b4 a0 h0 FU M 0 0
def fX8_lotOf (a0 : Nat) (M : Mem) (x1 : Int32) : RS := some (M, .inr (some (.int (((gi M a0 0) >>> (x1 &&& 31)) &&& 1))))
theorem SX8_lotOf (a0 : Nat) (h0 : a0 ∈ [39, 62]) (M : Mem) (x1 : Int32) : CTO (0) miX8_lotOf 0 0 [.ref a0, .int x1] M (fX8_lotOf a0 M x1) := by
  refine CTO.of (by decide) (by simp [lg_sl, Value.category]) ?_
  show GO miX8_lotOf (0) 0 0 0 0 0 [(0, .ref a0), (1, .int x1)] [] M (some (M, .inr (some (.int (((gi M a0 0) >>> (x1 &&& 31)) &&& 1)))))
  refine g_aload_n 0 rfl rfl dX8_lotOf_0 ?_
  refine g_getI (k := 0) clX8 (kv_d39_62_0 _ h0) (by decide) rfl flX8_28 dX8_lotOf_1 ?_
  refine g_iload_n 1 rfl rfl dX8_lotOf_4 ?_
  refine g_ishr dX8_lotOf_5 ?_
  refine g_iconst (v := 1) (by decide) dX8_lotOf_6 ?_
  refine g_iand dX8_lotOf_7 ?_
  exact g_ireturn rfl (by decide) (by decide) dX8_lotOf_8 rfl rfl
def fX3_worthOf (a1 : Nat) (M : Mem) (x2 : Int32) (x3 : Int32) : RS := bI (fX8_lotOf a1 M x2) (fun M1 v2 => bV (fX3_tellValues a1 M1 x2 v2 x3) (fun M3 => bI (fX6_isTold ((isA (gb M3 0)) + 8) M3) (fun M5 v6 => if v6 = 0 then some (M5, .inr (some (.int ((2 * (gi M5 23 2)) - (gi M5 23 3))))) else bI (fX6_reckon ((isA (gb M5 0)) + 8) M5) (fun M7 v8 => some (M7, .inr (some (.int v8)))))))
theorem SX3_worthOf (a1 : Nat) (h1 : a1 ∈ [39, 62]) (M : Mem) (x2 : Int32) (x3 : Int32) : CTO (3) miX3_worthOf 0 0 [.ref 22, .ref a1, .int x2, .int x3] M (fX3_worthOf a1 M x2 x3) := by
  refine CTO.of (by decide) (by simp [lg_sl, Value.category]) ?_
  show GO miX3_worthOf (3) 0 0 0 0 0 [(0, .ref 22), (1, .ref a1), (2, .int x2), (3, .int x3)] [] M (bI (fX8_lotOf a1 M x2) (fun M1 v2 => bV (fX3_tellValues a1 M1 x2 v2 x3) (fun M3 => bI (fX6_isTold ((isA (gb M3 0)) + 8) M3) (fun M5 v6 => if v6 = 0 then some (M5, .inr (some (.int ((2 * (gi M5 23 2)) - (gi M5 23 3))))) else bI (fX6_reckon ((isA (gb M5 0)) + 8) M5) (fun M7 v8 => some (M7, .inr (some (.int v8))))))))
  refine g_aload_n 0 rfl rfl dX3_worthOf_0 ?_
  refine g_aload_n 1 rfl rfl dX3_worthOf_1 ?_
  refine g_iload_n 2 rfl rfl dX3_worthOf_2 ?_
  refine g_aload_n 1 rfl rfl dX3_worthOf_3 ?_
  refine g_iload_n 2 rfl rfl dX3_worthOf_4 ?_
  refine g_callVI (y := miX8_lotOf) (As := [.int x2]) (rest := [.int x2, .ref a1, .ref 22]) clX8 (kv_d39_62_0 _ h1) rfl moX8_lotOf rfl mlX3_26 (by first | decide | omega) (by decide) (by simp [Value.category]) rfl dX3_worthOf_5 (SX8_lotOf a1 h1 M x2) (fun M1 v2 => ?_)
  refine g_iload_n 3 rfl rfl dX3_worthOf_8 ?_
  refine g_callVV (y := miX3_tellValues) (As := [.ref a1, .int x2, .int v2, .int x3]) (rest := []) clX3 kd_22 rfl moX3_tellValues rfl mlX3_79 (by first | decide | omega) (by decide) (by simp [Value.category]) rfl dX3_worthOf_9 (SX3_tellValues a1 h1 M1 x2 v2 x3) (fun M3 => ?_)
  refine g_aload_n 0 rfl rfl dX3_worthOf_12 ?_
  refine g_getR (k := 1) (b := (isA (gb M3 0))) clX3 kd_22 (by decide) rfl rfl flX3_18 dX3_worthOf_13 ?_
  refine g_getR (k := 7) (b := ((isA (gb M3 0)) + 8)) clX2 (kv_d3_24_0 _ (isA_dom _)) (by decide) rfl rfl flX3_83 dX3_worthOf_16 ?_
  refine g_callVI (y := miX6_isTold) (As := []) (rest := []) clX6 (kv_d3_24_8 _ (isA_dom _)) rfl moX6_isTold rfl mlX3_87 (by first | decide | omega) (by decide) (by simp [Value.category]) rfl dX3_worthOf_19 (SX6_isTold ((isA (gb M3 0)) + 8) (sub_d11_32_d11_14_32_35 _ (ku_d3_24_8 _ (isA_dom _))) M3) (fun M5 v6 => ?_)
  refine g_if_eq (tgt := 40) rfl dX3_worthOf_22 (fun c => ?_) (fun c => ?_)
  · refine g_iconst (v := 2) (by decide) dX3_worthOf_40 ?_
    refine g_aload_n 0 rfl rfl dX3_worthOf_41 ?_
    refine g_getR (k := 0) (b := 23) clX3 kd_22 (by decide) rfl rfl flX3_11 dX3_worthOf_42 ?_
    refine g_iconst (v := 2) (by decide) dX3_worthOf_45 ?_
    refine g_aldL (j := 2) kd_23 (by decide) (by decide) dX3_worthOf_46 ?_
    refine g_imul dX3_worthOf_47 ?_
    refine g_aload_n 0 rfl rfl dX3_worthOf_48 ?_
    refine g_getR (k := 0) (b := 23) clX3 kd_22 (by decide) rfl rfl flX3_11 dX3_worthOf_49 ?_
    refine g_iconst (v := 3) (by decide) dX3_worthOf_52 ?_
    refine g_aldL (j := 3) kd_23 (by decide) (by decide) dX3_worthOf_53 ?_
    refine g_isub dX3_worthOf_54 ?_
    exact g_ireturn rfl (by decide) (by decide) dX3_worthOf_55 rfl rfl
  · refine g_aload_n 0 rfl rfl dX3_worthOf_25 ?_
    refine g_getR (k := 1) (b := (isA (gb M5 0))) clX3 kd_22 (by decide) rfl rfl flX3_18 dX3_worthOf_26 ?_
    refine g_getR (k := 7) (b := ((isA (gb M5 0)) + 8)) clX2 (kv_d3_24_0 _ (isA_dom _)) (by decide) rfl rfl flX3_83 dX3_worthOf_29 ?_
    refine g_aload_n 0 rfl rfl dX3_worthOf_32 ?_
    refine g_getR (k := 0) (b := 23) clX3 kd_22 (by decide) rfl rfl flX3_11 dX3_worthOf_33 ?_
    refine g_callVI (y := miX6_reckon) (As := [.ref 23]) (rest := []) clX6 (kv_d3_24_8 _ (isA_dom _)) rfl moX6_reckon rfl mlX3_93 (by first | decide | omega) (by decide) (by simp [Value.category]) rfl dX3_worthOf_36 (SX6_reckon ((isA (gb M5 0)) + 8) (sub_d11_32_d11_14_32_35 _ (ku_d3_24_8 _ (isA_dom _))) M5) (fun M7 v8 => ?_)
    exact g_ireturn rfl (by decide) (by decide) dX3_worthOf_39 rfl rfl
def fX3_dearest_b64 (a1 : Nat) (rec9 : Mem → Int32 → Int32 → Int32 → Int32 → Int32 → RS) (M : Mem) (x2 : Int32) (x3 : Int32) (x4 : Int32) (x5 : Int32) (x6 : Int32) : RS := rec9 M x2 x3 x4 x5 (x6 + 1)
theorem SX3_dearest_b64 (a1 : Nat) (h1 : a1 ∈ [39, 62]) (rec9 : Mem → Int32 → Int32 → Int32 → Int32 → Int32 → RS) (hrec9 : ∀ (M : Mem) (x2 : Int32) (x3 : Int32) (x4 : Int32) (x5 : Int32) (x6 : Int32), GO miX3_dearest (4) 0 0 0 0 9 [(0, .ref 22), (1, .ref a1), (2, .int x2), (3, .int x3), (4, .int x4), (5, .int x5), (6, .int x6)] [] M (rec9 M x2 x3 x4 x5 x6)) (M : Mem) (x2 : Int32) (x3 : Int32) (x4 : Int32) (x5 : Int32) (x6 : Int32) : GO miX3_dearest (4) 0 0 0 0 64 [(0, .ref 22), (1, .ref a1), (2, .int x2), (3, .int x3), (4, .int x4), (5, .int x5), (6, .int x6)] [] M (fX3_dearest_b64 a1 rec9 M x2 x3 x4 x5 x6) := by
  show GO miX3_dearest (4) 0 0 0 0 64 [(0, .ref 22), (1, .ref a1), (2, .int x2), (3, .int x3), (4, .int x4), (5, .int x5), (6, .int x6)] [] M (rec9 M x2 x3 x4 x5 (x6 + 1))
  refine g_iinc (v := x6 + 1) (L' := [(6, .int (x6 + 1)), (0, .ref 22), (1, .ref a1), (2, .int x2), (3, .int x3), (4, .int x4), (5, .int x5)]) 6 rfl rfl (by decide) rfl dX3_dearest_64 ?_
  refine g_goto (tgt := 9) rfl dX3_dearest_67 ?_
  exact GO.pick [1, 2, 3, 4, 5, 6, 0] rfl <| hrec9 M x2 x3 x4 x5 (x6 + 1)
def fX3_dearest_b56 (a1 : Nat) (rec9 : Mem → Int32 → Int32 → Int32 → Int32 → Int32 → RS) (M : Mem) (x2 : Int32) (x3 : Int32) (x6 : Int32) (x7 : Int32) : RS := fX3_dearest_b64 a1 rec9 M x2 x3 x6 x7 x6
theorem SX3_dearest_b56 (a1 : Nat) (h1 : a1 ∈ [39, 62]) (rec9 : Mem → Int32 → Int32 → Int32 → Int32 → Int32 → RS) (hrec9 : ∀ (M : Mem) (x2 : Int32) (x3 : Int32) (x4 : Int32) (x5 : Int32) (x6 : Int32), GO miX3_dearest (4) 0 0 0 0 9 [(0, .ref 22), (1, .ref a1), (2, .int x2), (3, .int x3), (4, .int x4), (5, .int x5), (6, .int x6)] [] M (rec9 M x2 x3 x4 x5 x6)) (M : Mem) (x2 : Int32) (x3 : Int32) (x6 : Int32) (x7 : Int32) : GO miX3_dearest (4) 0 0 0 0 56 [(0, .ref 22), (1, .ref a1), (2, .int x2), (3, .int x3), (6, .int x6), (7, .int x7)] [] M (fX3_dearest_b56 a1 rec9 M x2 x3 x6 x7) := by
  show GO miX3_dearest (4) 0 0 0 0 56 [(0, .ref 22), (1, .ref a1), (2, .int x2), (3, .int x3), (6, .int x6), (7, .int x7)] [] M (fX3_dearest_b64 a1 rec9 M x2 x3 x6 x7 x6)
  refine g_iload 4 rfl dX3_dearest_56 ?_
  refine g_istore (L' := [(4, .int x6), (0, .ref 22), (1, .ref a1), (2, .int x2), (3, .int x3), (6, .int x6), (7, .int x7)]) (by decide) rfl dX3_dearest_58 ?_
  refine g_iload 6 rfl dX3_dearest_60 ?_
  refine g_istore (L' := [(5, .int x7), (4, .int x6), (0, .ref 22), (1, .ref a1), (2, .int x2), (3, .int x3), (6, .int x6), (7, .int x7)]) (by decide) rfl dX3_dearest_62 ?_
  exact GO.pick [2, 3, 4, 5, 1, 0, 6] rfl <| SX3_dearest_b64 a1 h1 rec9 hrec9 M x2 x3 x6 x7 x6
def fX3_dearest_b9 (a1 : Nat) : Nat → Mem → Int32 → Int32 → Int32 → Int32 → Int32 → RS
  | 0 => fun _ _ _ _ _ _ => none
  | n + 1 => fun M x2 x3 x4 x5 x6 => if x6 < (gi M (isA (gb M 0)) 10) then if ((x3 >>> (x6 &&& 31)) &&& 1) = 0 then fX3_dearest_b64 a1 (fX3_dearest_b9 a1 n) M x2 x3 x4 x5 x6 else bI (fX3_worthOf a1 M x2 x6) (fun M1 v2 => if x4 = (-1) then fX3_dearest_b56 a1 (fX3_dearest_b9 a1 n) M1 x2 x3 x6 v2 else if x5 < v2 then fX3_dearest_b56 a1 (fX3_dearest_b9 a1 n) M1 x2 x3 x6 v2 else fX3_dearest_b64 a1 (fX3_dearest_b9 a1 n) M1 x2 x3 x4 x5 x6) else some (M, .inr (some (.int x4)))
theorem SX3_dearest_b9 (a1 : Nat) (h1 : a1 ∈ [39, 62]) (n : Nat) : ∀ (M : Mem) (x2 : Int32) (x3 : Int32) (x4 : Int32) (x5 : Int32) (x6 : Int32), GO miX3_dearest (4) 0 0 0 0 9 [(0, .ref 22), (1, .ref a1), (2, .int x2), (3, .int x3), (4, .int x4), (5, .int x5), (6, .int x6)] [] M (fX3_dearest_b9 a1 n M x2 x3 x4 x5 x6) := by
  induction n with
  | zero => intro M x2 x3 x4 x5 x6 ; exact GO.none
  | succ n hrec9 =>
    intro M x2 x3 x4 x5 x6 
    show GO miX3_dearest (4) 0 0 0 0 9 [(0, .ref 22), (1, .ref a1), (2, .int x2), (3, .int x3), (4, .int x4), (5, .int x5), (6, .int x6)] [] M (if x6 < (gi M (isA (gb M 0)) 10) then if ((x3 >>> (x6 &&& 31)) &&& 1) = 0 then fX3_dearest_b64 a1 (fX3_dearest_b9 a1 n) M x2 x3 x4 x5 x6 else bI (fX3_worthOf a1 M x2 x6) (fun M1 v2 => if x4 = (-1) then fX3_dearest_b56 a1 (fX3_dearest_b9 a1 n) M1 x2 x3 x6 v2 else if x5 < v2 then fX3_dearest_b56 a1 (fX3_dearest_b9 a1 n) M1 x2 x3 x6 v2 else fX3_dearest_b64 a1 (fX3_dearest_b9 a1 n) M1 x2 x3 x4 x5 x6) else some (M, .inr (some (.int x4))))
    refine g_iload 6 rfl dX3_dearest_9 ?_
    refine g_aload_n 0 rfl rfl dX3_dearest_11 ?_
    refine g_getR (k := 1) (b := (isA (gb M 0))) clX3 kd_22 (by decide) rfl rfl flX3_18 dX3_dearest_12 ?_
    refine g_getI (k := 10) clX2 (kv_d3_24_0 _ (isA_dom _)) (by decide) rfl flX3_131 dX3_dearest_15 ?_
    refine g_icmp_ge (tgt := 70) rfl dX3_dearest_18 (fun c => ?_) (fun c => ?_)
    · refine g_iload 4 rfl dX3_dearest_70 ?_
      exact g_ireturn rfl (by decide) (by decide) dX3_dearest_72 rfl rfl
    · refine g_iload_n 3 rfl rfl dX3_dearest_21 ?_
      refine g_iload 6 rfl dX3_dearest_22 ?_
      refine g_ishr dX3_dearest_24 ?_
      refine g_iconst (v := 1) (by decide) dX3_dearest_25 ?_
      refine g_iand dX3_dearest_26 ?_
      refine g_if_ne (tgt := 33) rfl dX3_dearest_27 (fun c => ?_) (fun c => ?_)
      · refine g_aload_n 0 rfl rfl dX3_dearest_33 ?_
        refine g_aload_n 1 rfl rfl dX3_dearest_34 ?_
        refine g_iload_n 2 rfl rfl dX3_dearest_35 ?_
        refine g_iload 6 rfl dX3_dearest_36 ?_
        refine g_callVI (y := miX3_worthOf) (As := [.ref a1, .int x2, .int x6]) (rest := []) clX3 kd_22 rfl moX3_worthOf rfl mlX3_97 (by first | decide | omega) (by decide) (by simp [Value.category]) rfl dX3_dearest_38 (SX3_worthOf a1 h1 M x2 x6) (fun M1 v2 => ?_)
        refine g_istore (L' := [(7, .int v2), (0, .ref 22), (1, .ref a1), (2, .int x2), (3, .int x3), (4, .int x4), (5, .int x5), (6, .int x6)]) (by decide) rfl dX3_dearest_41 ?_
        refine g_iload 5 rfl dX3_dearest_43 ?_
        refine g_iconst (v := (-1)) (by decide) dX3_dearest_45 ?_
        refine g_icmp_eq (tgt := 56) rfl dX3_dearest_46 (fun c => ?_) (fun c => ?_)
        · exact GO.pick [1, 2, 3, 4, 7, 0] rfl <| SX3_dearest_b56 a1 h1 (fX3_dearest_b9 a1 n) hrec9 M1 x2 x3 x6 v2
        · refine g_iload 0 rfl dX3_dearest_49 ?_
          refine g_iload 6 rfl dX3_dearest_51 ?_
          refine g_icmp_le (tgt := 64) rfl dX3_dearest_53 (fun c => ?_) (fun c => ?_)
          · exact GO.pick [1, 2, 3, 4, 5, 6, 7] rfl <| SX3_dearest_b64 a1 h1 (fX3_dearest_b9 a1 n) hrec9 M1 x2 x3 x4 x5 x6
          · exact GO.pick [1, 2, 3, 4, 7, 0] rfl <| SX3_dearest_b56 a1 h1 (fX3_dearest_b9 a1 n) hrec9 M1 x2 x3 x6 v2
      · refine g_goto (tgt := 64) rfl dX3_dearest_30 ?_
        exact GO.pick [0, 1, 2, 3, 4, 5, 6] rfl <| SX3_dearest_b64 a1 h1 (fX3_dearest_b9 a1 n) hrec9 M x2 x3 x4 x5 x6
def fX3_dearest (a1 : Nat) (M : Mem) (x2 : Int32) (x3 : Int32) : RS := fX3_dearest_b9 a1 FU M x2 x3 (-1) 0 0
theorem SX3_dearest (a1 : Nat) (h1 : a1 ∈ [39, 62]) (M : Mem) (x2 : Int32) (x3 : Int32) : CTO (4) miX3_dearest 0 0 [.ref 22, .ref a1, .int x2, .int x3] M (fX3_dearest a1 M x2 x3) := by
  refine CTO.of (by decide) (by simp [lg_sl, Value.category]) ?_
  show GO miX3_dearest (4) 0 0 0 0 0 [(0, .ref 22), (1, .ref a1), (2, .int x2), (3, .int x3)] [] M (fX3_dearest_b9 a1 FU M x2 x3 (-1) 0 0)
  refine g_iconst (v := (-1)) (by decide) dX3_dearest_0 ?_
  refine g_istore (L' := [(4, .int (-1)), (0, .ref 22), (1, .ref a1), (2, .int x2), (3, .int x3)]) (by decide) rfl dX3_dearest_1 ?_
  refine g_iconst (v := 0) (by decide) dX3_dearest_3 ?_
  refine g_istore (L' := [(5, .int 0), (4, .int (-1)), (0, .ref 22), (1, .ref a1), (2, .int x2), (3, .int x3)]) (by decide) rfl dX3_dearest_4 ?_
  refine g_iconst (v := 0) (by decide) dX3_dearest_6 ?_
  refine g_istore (L' := [(6, .int 0), (5, .int 0), (4, .int (-1)), (0, .ref 22), (1, .ref a1), (2, .int x2), (3, .int x3)]) (by decide) rfl dX3_dearest_7 ?_
  exact GO.pick [3, 4, 5, 6, 2, 1, 0] rfl <| SX3_dearest_b9 a1 h1 FU M x2 x3 (-1) 0 0
def fX8_houseAt_b2 (a0 : Nat) : Nat → Mem → Int32 → Int32 → RS
  | 0 => fun _ _ _ => none
  | n + 1 => fun M x1 x2 => if x2 < 8 then chk (inb x2 8) (if (gi M (a0 + 1) (ix x2)) = x1 then some (M, .inr (some (.int x2))) else (fX8_houseAt_b2 a0 n) M x1 (x2 + 1)) else some (M, .inr (some (.int (-1))))
theorem SX8_houseAt_b2 (a0 : Nat) (h0 : a0 ∈ [39, 62]) (n : Nat) : ∀ (M : Mem) (x1 : Int32) (x2 : Int32), GO miX8_houseAt (0) 0 0 0 0 2 [(0, .ref a0), (1, .int x1), (2, .int x2)] [] M (fX8_houseAt_b2 a0 n M x1 x2) := by
  induction n with
  | zero => intro M x1 x2 ; exact GO.none
  | succ n hrec2 =>
    intro M x1 x2 
    show GO miX8_houseAt (0) 0 0 0 0 2 [(0, .ref a0), (1, .int x1), (2, .int x2)] [] M (if x2 < 8 then chk (inb x2 8) (if (gi M (a0 + 1) (ix x2)) = x1 then some (M, .inr (some (.int x2))) else (fX8_houseAt_b2 a0 n) M x1 (x2 + 1)) else some (M, .inr (some (.int (-1)))))
    refine g_iload_n 2 rfl rfl dX8_houseAt_2 ?_
    refine g_bipush (v := 8) (by decide) dX8_houseAt_3 ?_
    refine g_icmp_ge (tgt := 26) rfl dX8_houseAt_5 (fun c => ?_) (fun c => ?_)
    · refine g_iconst (v := (-1)) (by decide) dX8_houseAt_26 ?_
      exact g_ireturn rfl (by decide) (by decide) dX8_houseAt_27 rfl rfl
    · refine g_aload_n 0 rfl rfl dX8_houseAt_8 ?_
      refine g_getR (k := 7) (b := (a0 + 1)) clX8 (kv_d39_62_0 _ h0) (by decide) rfl rfl flX8_18 dX8_houseAt_9 ?_
      refine g_iload_n 2 rfl rfl dX8_houseAt_12 ?_
      refine g_ald (kv_d39_62_1 _ h0) dX8_houseAt_13 (fun hi1 => ?_)
      refine g_iload_n 1 rfl rfl dX8_houseAt_14 ?_
      refine g_icmp_ne (tgt := 20) rfl dX8_houseAt_15 (fun c => ?_) (fun c => ?_)
      · refine g_iinc (v := x2 + 1) (L' := [(2, .int (x2 + 1)), (0, .ref a0), (1, .int x1)]) 2 rfl rfl (by decide) rfl dX8_houseAt_20 ?_
        refine g_goto (tgt := 2) rfl dX8_houseAt_23 ?_
        exact GO.pick [1, 2, 0] rfl <| hrec2 M x1 (x2 + 1)
      · refine g_iload_n 2 rfl rfl dX8_houseAt_18 ?_
        exact g_ireturn rfl (by decide) (by decide) dX8_houseAt_19 rfl rfl
def fX8_houseAt (a0 : Nat) (M : Mem) (x1 : Int32) : RS := fX8_houseAt_b2 a0 FU M x1 0
theorem SX8_houseAt (a0 : Nat) (h0 : a0 ∈ [39, 62]) (M : Mem) (x1 : Int32) : CTO (0) miX8_houseAt 0 0 [.ref a0, .int x1] M (fX8_houseAt a0 M x1) := by
  refine CTO.of (by decide) (by simp [lg_sl, Value.category]) ?_
  show GO miX8_houseAt (0) 0 0 0 0 0 [(0, .ref a0), (1, .int x1)] [] M (fX8_houseAt_b2 a0 FU M x1 0)
  refine g_iconst (v := 0) (by decide) dX8_houseAt_0 ?_
  refine g_istore_n (L' := [(2, .int 0), (0, .ref a0), (1, .int x1)]) (by decide) rfl rfl dX8_houseAt_1 ?_
  exact GO.pick [1, 2, 0] rfl <| SX8_houseAt_b2 a0 h0 FU M x1 0
def fX3_takeShares_b87 (a1 : Nat) (rec8 : Mem → Int32 → Int32 → Int32 → RS) (M : Mem) (x2 : Int32) (x3 : Int32) (x4 : Int32) : RS := rec8 M x2 x3 (x4 + 1)
theorem SX3_takeShares_b87 (a1 : Nat) (h1 : a1 ∈ [39, 62]) (rec8 : Mem → Int32 → Int32 → Int32 → RS) (hrec8 : ∀ (M : Mem) (x2 : Int32) (x3 : Int32) (x4 : Int32), GO miX3_takeShares (5) 0 0 0 0 8 [(0, .ref 22), (1, .ref a1), (2, .int x2), (3, .int x3), (4, .int x4)] [] M (rec8 M x2 x3 x4)) (M : Mem) (x2 : Int32) (x3 : Int32) (x4 : Int32) : GO miX3_takeShares (5) 0 0 0 0 87 [(0, .ref 22), (1, .ref a1), (2, .int x2), (3, .int x3), (4, .int x4)] [] M (fX3_takeShares_b87 a1 rec8 M x2 x3 x4) := by
  show GO miX3_takeShares (5) 0 0 0 0 87 [(0, .ref 22), (1, .ref a1), (2, .int x2), (3, .int x3), (4, .int x4)] [] M (rec8 M x2 x3 (x4 + 1))
  refine g_iinc (v := x4 + 1) (L' := [(4, .int (x4 + 1)), (0, .ref 22), (1, .ref a1), (2, .int x2), (3, .int x3)]) 4 rfl rfl (by decide) rfl dX3_takeShares_87 ?_
  refine g_goto (tgt := 8) rfl dX3_takeShares_90 ?_
  exact GO.pick [1, 2, 3, 4, 0] rfl <| hrec8 M x2 x3 (x4 + 1)
def fX3_takeShares_b61 (a1 : Nat) (rec8 : Mem → Int32 → Int32 → Int32 → RS) (M : Mem) (x2 : Int32) (x3 : Int32) (x4 : Int32) (x5 : Int32) (s0 : Int32) (s1 : Int32) : RS := chk (inb s1 8) (wr (si M (a1 + 2) (ix s1) s0) (fun M8 => chk (inb x5 8) (if (gi M8 (a1 + 2) (ix x5)) = (-1) then fX3_takeShares_b87 a1 rec8 M8 x2 x3 x4 else chk (inb x5 8) (fX3_takeShares_b87 a1 rec8 M8 x2 (x3 &&& (((1 : Int32) <<< ((gi M8 (a1 + 2) (ix x5)) &&& 31)) ^^^ (-1))) x4))))
theorem SX3_takeShares_b61 (a1 : Nat) (h1 : a1 ∈ [39, 62]) (rec8 : Mem → Int32 → Int32 → Int32 → RS) (hrec8 : ∀ (M : Mem) (x2 : Int32) (x3 : Int32) (x4 : Int32), GO miX3_takeShares (5) 0 0 0 0 8 [(0, .ref 22), (1, .ref a1), (2, .int x2), (3, .int x3), (4, .int x4)] [] M (rec8 M x2 x3 x4)) (M : Mem) (x2 : Int32) (x3 : Int32) (x4 : Int32) (x5 : Int32) (s0 : Int32) (s1 : Int32) : GO miX3_takeShares (5) 0 0 0 0 61 [(0, .ref 22), (1, .ref a1), (2, .int x2), (3, .int x3), (4, .int x4), (5, .int x5)] [.int s0, .int s1, .ref (a1 + 2)] M (fX3_takeShares_b61 a1 rec8 M x2 x3 x4 x5 s0 s1) := by
  show GO miX3_takeShares (5) 0 0 0 0 61 [(0, .ref 22), (1, .ref a1), (2, .int x2), (3, .int x3), (4, .int x4), (5, .int x5)] [.int s0, .int s1, .ref (a1 + 2)] M (chk (inb s1 8) (wr (si M (a1 + 2) (ix s1) s0) (fun M8 => chk (inb x5 8) (if (gi M8 (a1 + 2) (ix x5)) = (-1) then fX3_takeShares_b87 a1 rec8 M8 x2 x3 x4 else chk (inb x5 8) (fX3_takeShares_b87 a1 rec8 M8 x2 (x3 &&& (((1 : Int32) <<< ((gi M8 (a1 + 2) (ix x5)) &&& 31)) ^^^ (-1))) x4)))))
  refine g_ast (kv_d39_62_2 _ h1) dX3_takeShares_61 (fun hi7 => ?_)
  refine GO.wr (fun M8 => ?_)
  refine g_aload_n 1 rfl rfl dX3_takeShares_62 ?_
  refine g_getR (k := 8) (b := (a1 + 2)) clX8 (kv_d39_62_0 _ h1) (by decide) rfl rfl flX3_65 dX3_takeShares_63 ?_
  refine g_iload 5 rfl dX3_takeShares_66 ?_
  refine g_ald (kv_d39_62_2 _ h1) dX3_takeShares_68 (fun hi9 => ?_)
  refine g_iconst (v := (-1)) (by decide) dX3_takeShares_69 ?_
  refine g_icmp_eq (tgt := 87) rfl dX3_takeShares_70 (fun c => ?_) (fun c => ?_)
  · exact GO.pick [0, 1, 2, 3, 4] rfl <| SX3_takeShares_b87 a1 h1 rec8 hrec8 M8 x2 x3 x4
  · refine g_iload_n 3 rfl rfl dX3_takeShares_73 ?_
    refine g_iconst (v := 1) (by decide) dX3_takeShares_74 ?_
    refine g_aload_n 1 rfl rfl dX3_takeShares_75 ?_
    refine g_getR (k := 8) (b := (a1 + 2)) clX8 (kv_d39_62_0 _ h1) (by decide) rfl rfl flX3_65 dX3_takeShares_76 ?_
    refine g_iload 5 rfl dX3_takeShares_79 ?_
    refine g_ald (kv_d39_62_2 _ h1) dX3_takeShares_81 (fun hi10 => ?_)
    refine g_ishl dX3_takeShares_82 ?_
    refine g_iconst (v := (-1)) (by decide) dX3_takeShares_83 ?_
    refine g_ixor dX3_takeShares_84 ?_
    refine g_iand dX3_takeShares_85 ?_
    refine g_istore_n (L' := [(3, .int (x3 &&& (((1 : Int32) <<< ((gi M8 (a1 + 2) (ix x5)) &&& 31)) ^^^ (-1)))), (0, .ref 22), (1, .ref a1), (2, .int x2), (4, .int x4), (5, .int x5)]) (by decide) rfl rfl dX3_takeShares_86 ?_
    exact GO.pick [1, 2, 3, 0, 4] rfl <| SX3_takeShares_b87 a1 h1 rec8 hrec8 M8 x2 (x3 &&& (((1 : Int32) <<< ((gi M8 (a1 + 2) (ix x5)) &&& 31)) ^^^ (-1))) x4
def fX3_takeShares_b8 (a1 : Nat) : Nat → Mem → Int32 → Int32 → Int32 → RS
  | 0 => fun _ _ _ _ => none
  | n + 1 => fun M x2 x3 x4 => if x4 < (gi M (isA (gb M 0)) 9) then bI (fX8_houseAt a1 M x4) (fun M3 v4 => if v4 = (-1) then fX3_takeShares_b87 a1 (fX3_takeShares_b8 a1 n) M3 x2 x3 x4 else if v4 = x2 then fX3_takeShares_b61 a1 (fX3_takeShares_b8 a1 n) M3 x2 x3 x4 v4 (-1) v4 else bI (fX3_dearest a1 M3 v4 x3) (fun M5 v6 => fX3_takeShares_b61 a1 (fX3_takeShares_b8 a1 n) M5 x2 x3 x4 v4 v6 v4)) else some (M, .inr none)
theorem SX3_takeShares_b8 (a1 : Nat) (h1 : a1 ∈ [39, 62]) (n : Nat) : ∀ (M : Mem) (x2 : Int32) (x3 : Int32) (x4 : Int32), GO miX3_takeShares (5) 0 0 0 0 8 [(0, .ref 22), (1, .ref a1), (2, .int x2), (3, .int x3), (4, .int x4)] [] M (fX3_takeShares_b8 a1 n M x2 x3 x4) := by
  induction n with
  | zero => intro M x2 x3 x4 ; exact GO.none
  | succ n hrec8 =>
    intro M x2 x3 x4 
    show GO miX3_takeShares (5) 0 0 0 0 8 [(0, .ref 22), (1, .ref a1), (2, .int x2), (3, .int x3), (4, .int x4)] [] M (if x4 < (gi M (isA (gb M 0)) 9) then bI (fX8_houseAt a1 M x4) (fun M3 v4 => if v4 = (-1) then fX3_takeShares_b87 a1 (fX3_takeShares_b8 a1 n) M3 x2 x3 x4 else if v4 = x2 then fX3_takeShares_b61 a1 (fX3_takeShares_b8 a1 n) M3 x2 x3 x4 v4 (-1) v4 else bI (fX3_dearest a1 M3 v4 x3) (fun M5 v6 => fX3_takeShares_b61 a1 (fX3_takeShares_b8 a1 n) M5 x2 x3 x4 v4 v6 v4)) else some (M, .inr none))
    refine g_iload 4 rfl dX3_takeShares_8 ?_
    refine g_aload_n 0 rfl rfl dX3_takeShares_10 ?_
    refine g_getR (k := 1) (b := (isA (gb M 0))) clX3 kd_22 (by decide) rfl rfl flX3_18 dX3_takeShares_11 ?_
    refine g_getI (k := 9) clX2 (kv_d3_24_0 _ (isA_dom _)) (by decide) rfl flX3_38 dX3_takeShares_14 ?_
    refine g_icmp_ge (tgt := 93) rfl dX3_takeShares_17 (fun c => ?_) (fun c => ?_)
    · exact g_vreturn rfl (by decide) (by decide) dX3_takeShares_93
    · refine g_aload_n 1 rfl rfl dX3_takeShares_20 ?_
      refine g_iload 4 rfl dX3_takeShares_21 ?_
      refine g_callVI (y := miX8_houseAt) (As := [.int x4]) (rest := []) clX8 (kv_d39_62_0 _ h1) rfl moX8_houseAt rfl mlX3_125 (by first | decide | omega) (by decide) (by simp [Value.category]) rfl dX3_takeShares_23 (SX8_houseAt a1 h1 M x4) (fun M3 v4 => ?_)
      refine g_istore (L' := [(5, .int v4), (0, .ref 22), (1, .ref a1), (2, .int x2), (3, .int x3), (4, .int x4)]) (by decide) rfl dX3_takeShares_26 ?_
      refine g_iload 0 rfl dX3_takeShares_28 ?_
      refine g_iconst (v := (-1)) (by decide) dX3_takeShares_30 ?_
      refine g_icmp_ne (tgt := 37) rfl dX3_takeShares_31 (fun c => ?_) (fun c => ?_)
      · refine g_aload_n 2 rfl rfl dX3_takeShares_37 ?_
        refine g_getR (k := 8) (b := (a1 + 2)) clX8 (kv_d39_62_0 _ h1) (by decide) rfl rfl flX3_65 dX3_takeShares_38 ?_
        refine g_iload 0 rfl dX3_takeShares_41 ?_
        refine g_iload 0 rfl dX3_takeShares_43 ?_
        refine g_iload_n 3 rfl rfl dX3_takeShares_45 ?_
        refine g_icmp_ne (tgt := 53) rfl dX3_takeShares_46 (fun c => ?_) (fun c => ?_)
        · refine g_aload_n 1 rfl rfl dX3_takeShares_53 ?_
          refine g_aload_n 2 rfl rfl dX3_takeShares_54 ?_
          refine g_iload 0 rfl dX3_takeShares_55 ?_
          refine g_iload_n 4 rfl rfl dX3_takeShares_57 ?_
          refine g_callVI (y := miX3_dearest) (As := [.ref a1, .int v4, .int x3]) (rest := [.int v4, .ref (a1 + 2)]) clX3 kd_22 rfl moX3_dearest rfl mlX3_128 (by first | decide | omega) (by decide) (by simp [Value.category]) rfl dX3_takeShares_58 (SX3_dearest a1 h1 M3 v4 x3) (fun M5 v6 => ?_)
          exact GO.pick [1, 2, 3, 4, 5, 0] rfl <| SX3_takeShares_b61 a1 h1 (fX3_takeShares_b8 a1 n) hrec8 M5 x2 x3 x4 v4 v6 v4
        · refine g_iconst (v := (-1)) (by decide) dX3_takeShares_49 ?_
          refine g_goto (tgt := 61) rfl dX3_takeShares_50 ?_
          exact GO.pick [1, 2, 3, 4, 5, 0] rfl <| SX3_takeShares_b61 a1 h1 (fX3_takeShares_b8 a1 n) hrec8 M3 x2 x3 x4 v4 (-1) v4
      · refine g_goto (tgt := 87) rfl dX3_takeShares_34 ?_
        exact GO.pick [1, 2, 3, 4, 5] rfl <| SX3_takeShares_b87 a1 h1 (fX3_takeShares_b8 a1 n) hrec8 M3 x2 x3 x4
def fX3_takeShares (a1 : Nat) (M : Mem) (x2 : Int32) : RS := bI (fX3_allPlots M) (fun M1 v2 => fX3_takeShares_b8 a1 FU M1 x2 v2 0)
theorem SX3_takeShares (a1 : Nat) (h1 : a1 ∈ [39, 62]) (M : Mem) (x2 : Int32) : CTO (5) miX3_takeShares 0 0 [.ref 22, .ref a1, .int x2] M (fX3_takeShares a1 M x2) := by
  refine CTO.of (by decide) (by simp [lg_sl, Value.category]) ?_
  show GO miX3_takeShares (5) 0 0 0 0 0 [(0, .ref 22), (1, .ref a1), (2, .int x2)] [] M (bI (fX3_allPlots M) (fun M1 v2 => fX3_takeShares_b8 a1 FU M1 x2 v2 0))
  refine g_aload_n 0 rfl rfl dX3_takeShares_0 ?_
  refine g_callVI (y := miX3_allPlots) (As := []) (rest := []) clX3 kd_22 rfl moX3_allPlots rfl mlX3_121 (by first | decide | omega) (by decide) (by simp [Value.category]) rfl dX3_takeShares_1 (SX3_allPlots  M) (fun M1 v2 => ?_)
  refine g_istore_n (L' := [(3, .int v2), (0, .ref 22), (1, .ref a1), (2, .int x2)]) (by decide) rfl rfl dX3_takeShares_4 ?_
  refine g_iconst (v := 0) (by decide) dX3_takeShares_5 ?_
  refine g_istore (L' := [(4, .int 0), (3, .int v2), (0, .ref 22), (1, .ref a1), (2, .int x2)]) (by decide) rfl dX3_takeShares_6 ?_
  exact GO.pick [2, 3, 4, 1, 0] rfl <| SX3_takeShares_b8 a1 h1 FU M1 x2 v2 0
def fX6_clear (a0 : Nat) (M : Mem)  : RS := wr (si M a0 2 0) (fun M1 => some (M1, .inr none))
theorem SX6_clear (a0 : Nat) (h0 : a0 ∈ [11, 14, 32, 35]) (M : Mem)  : CTO (0) miX6_clear 0 0 [.ref a0] M (fX6_clear a0 M ) := by
  refine CTO.of (by decide) (by simp [lg_sl, Value.category]) ?_
  show GO miX6_clear (0) 0 0 0 0 0 [(0, .ref a0)] [] M (wr (si M a0 2 0) (fun M1 => some (M1, .inr none)))
  refine g_aload_n 0 rfl rfl dX6_clear_0 ?_
  refine g_iconst (v := 0) (by decide) dX6_clear_1 ?_
  refine g_putI (k := 2) clX6 (kv_d11_14_32_35_0 _ h0) (by decide) rfl (by decide) rfl flX6_18 dX6_clear_2 ?_
  refine GO.wr (fun M1 => ?_)
  exact g_vreturn rfl (by decide) (by decide) dX6_clear_5
def fX2_clear (a0 : Nat) (M : Mem)  : RS := wr (si M a0 9 0) (fun M1 => wr (si M1 a0 10 0) (fun M2 => wr (si M2 a0 11 0) (fun M3 => wr (si M3 a0 12 10) (fun M4 => wr (si M4 a0 13 10) (fun M5 => wr (si M5 a0 14 4) (fun M6 => wr (si M6 a0 15 0) (fun M7 => wr (si M7 a0 16 0) (fun M8 => bV (fX6_clear (a0 + 8) M8) (fun M9 => bV (fX6_clear (a0 + 11) M9) (fun M11 => some (M11, .inr none)))))))))))
theorem SX2_clear (a0 : Nat) (h0 : a0 ∈ [3, 24]) (M : Mem)  : CTO (1) miX2_clear 0 0 [.ref a0] M (fX2_clear a0 M ) := by
  refine CTO.of (by decide) (by simp [lg_sl, Value.category]) ?_
  show GO miX2_clear (1) 0 0 0 0 0 [(0, .ref a0)] [] M (wr (si M a0 9 0) (fun M1 => wr (si M1 a0 10 0) (fun M2 => wr (si M2 a0 11 0) (fun M3 => wr (si M3 a0 12 10) (fun M4 => wr (si M4 a0 13 10) (fun M5 => wr (si M5 a0 14 4) (fun M6 => wr (si M6 a0 15 0) (fun M7 => wr (si M7 a0 16 0) (fun M8 => bV (fX6_clear (a0 + 8) M8) (fun M9 => bV (fX6_clear (a0 + 11) M9) (fun M11 => some (M11, .inr none))))))))))))
  refine g_aload_n 0 rfl rfl dX2_clear_0 ?_
  refine g_iconst (v := 0) (by decide) dX2_clear_1 ?_
  refine g_putI (k := 9) clX2 (kv_d3_24_0 _ h0) (by decide) rfl (by decide) rfl flX2_43 dX2_clear_2 ?_
  refine GO.wr (fun M1 => ?_)
  refine g_aload_n 0 rfl rfl dX2_clear_5 ?_
  refine g_iconst (v := 0) (by decide) dX2_clear_6 ?_
  refine g_putI (k := 10) clX2 (kv_d3_24_0 _ h0) (by decide) rfl (by decide) rfl flX2_47 dX2_clear_7 ?_
  refine GO.wr (fun M2 => ?_)
  refine g_aload_n 0 rfl rfl dX2_clear_10 ?_
  refine g_iconst (v := 0) (by decide) dX2_clear_11 ?_
  refine g_putI (k := 11) clX2 (kv_d3_24_0 _ h0) (by decide) rfl (by decide) rfl flX2_50 dX2_clear_12 ?_
  refine GO.wr (fun M3 => ?_)
  refine g_aload_n 0 rfl rfl dX2_clear_15 ?_
  refine g_bipush (v := 10) (by decide) dX2_clear_16 ?_
  refine g_putI (k := 12) clX2 (kv_d3_24_0 _ h0) (by decide) rfl (by decide) rfl flX2_53 dX2_clear_18 ?_
  refine GO.wr (fun M4 => ?_)
  refine g_aload_n 0 rfl rfl dX2_clear_21 ?_
  refine g_bipush (v := 10) (by decide) dX2_clear_22 ?_
  refine g_putI (k := 13) clX2 (kv_d3_24_0 _ h0) (by decide) rfl (by decide) rfl flX2_56 dX2_clear_24 ?_
  refine GO.wr (fun M5 => ?_)
  refine g_aload_n 0 rfl rfl dX2_clear_27 ?_
  refine g_iconst (v := 4) (by decide) dX2_clear_28 ?_
  refine g_putI (k := 14) clX2 (kv_d3_24_0 _ h0) (by decide) rfl (by decide) rfl flX2_59 dX2_clear_29 ?_
  refine GO.wr (fun M6 => ?_)
  refine g_aload_n 0 rfl rfl dX2_clear_32 ?_
  refine g_iconst (v := 0) (by decide) dX2_clear_33 ?_
  refine g_putZ (k := 15) clX2 (kv_d3_24_0 _ h0) (by decide) rfl (by decide) rfl (by decide) flX2_62 dX2_clear_34 ?_
  refine GO.wr (fun M7 => ?_)
  refine g_aload_n 0 rfl rfl dX2_clear_37 ?_
  refine g_iconst (v := 0) (by decide) dX2_clear_38 ?_
  refine g_putZ (k := 16) clX2 (kv_d3_24_0 _ h0) (by decide) rfl (by decide) rfl (by decide) flX2_66 dX2_clear_39 ?_
  refine GO.wr (fun M8 => ?_)
  refine g_aload_n 0 rfl rfl dX2_clear_42 ?_
  refine g_getR (k := 7) (b := (a0 + 8)) clX2 (kv_d3_24_0 _ h0) (by decide) rfl rfl flX2_36 dX2_clear_43 ?_
  refine g_callVV (y := miX6_clear) (As := []) (rest := []) clX6 (kv_d3_24_8 _ h0) rfl moX6_clear rfl mlX2_69 (by first | decide | omega) (by decide) (by simp [Value.category]) rfl dX2_clear_46 (SX6_clear (a0 + 8) (sub_d11_32_d11_14_32_35 _ (ku_d3_24_8 _ h0)) M8) (fun M9 => ?_)
  refine g_aload_n 0 rfl rfl dX2_clear_49 ?_
  refine g_getR (k := 8) (b := (a0 + 11)) clX2 (kv_d3_24_0 _ h0) (by decide) rfl rfl flX2_40 dX2_clear_50 ?_
  refine g_callVV (y := miX6_clear) (As := []) (rest := []) clX6 (kv_d3_24_11 _ h0) rfl moX6_clear rfl mlX2_69 (by first | decide | omega) (by decide) (by simp [Value.category]) rfl dX2_clear_53 (SX6_clear (a0 + 11) (sub_d14_35_d11_14_32_35 _ (ku_d3_24_11 _ h0)) M9) (fun M11 => ?_)
  exact g_vreturn rfl (by decide) (by decide) dX2_clear_56
def fX10_symbolAt (M : Mem) (x1 : Int32) : RS := if x1 < 0 then some (M, .inr (some (.int 0))) else if x1 < (gi M 18 6) then chk (inb x1 700) (some (M, .inr (some (.int (gi M 19 (ix x1)))))) else some (M, .inr (some (.int 0)))
theorem SX10_symbolAt (M : Mem) (x1 : Int32) : CTO (0) miX10_symbolAt 0 0 [.ref 18, .int x1] M (fX10_symbolAt  M x1) := by
  refine CTO.of (by decide) (by simp [lg_sl, Value.category]) ?_
  show GO miX10_symbolAt (0) 0 0 0 0 0 [(0, .ref 18), (1, .int x1)] [] M (if x1 < 0 then some (M, .inr (some (.int 0))) else if x1 < (gi M 18 6) then chk (inb x1 700) (some (M, .inr (some (.int (gi M 19 (ix x1)))))) else some (M, .inr (some (.int 0))))
  refine g_iload_n 1 rfl rfl dX10_symbolAt_0 ?_
  refine g_if_lt (tgt := 21) rfl dX10_symbolAt_1 (fun c => ?_) (fun c => ?_)
  · refine g_iconst (v := 0) (by decide) dX10_symbolAt_21 ?_
    exact g_ireturn rfl (by decide) (by decide) dX10_symbolAt_22 rfl rfl
  · refine g_iload_n 1 rfl rfl dX10_symbolAt_4 ?_
    refine g_aload_n 0 rfl rfl dX10_symbolAt_5 ?_
    refine g_getI (k := 6) clX10 kd_18 (by decide) rfl flX10_43 dX10_symbolAt_6 ?_
    refine g_icmp_ge (tgt := 21) rfl dX10_symbolAt_9 (fun c => ?_) (fun c => ?_)
    · refine g_iconst (v := 0) (by decide) dX10_symbolAt_21 ?_
      exact g_ireturn rfl (by decide) (by decide) dX10_symbolAt_22 rfl rfl
    · refine g_aload_n 0 rfl rfl dX10_symbolAt_12 ?_
      refine g_getR (k := 1) (b := 19) clX10 kd_18 (by decide) rfl rfl flX10_13 dX10_symbolAt_13 ?_
      refine g_iload_n 1 rfl rfl dX10_symbolAt_16 ?_
      refine g_ald kd_19 dX10_symbolAt_17 (fun hi1 => ?_)
      refine g_goto (tgt := 22) rfl dX10_symbolAt_18 ?_
      exact g_ireturn rfl (by decide) (by decide) dX10_symbolAt_22 rfl rfl
def fX5_advance (M : Mem)  : RS := wr (si M 17 4 ((gi M 17 4) + 1)) (fun M1 => bI (fX10_symbolAt M1 (gi M1 17 4)) (fun M2 v3 => wr (si M2 17 5 v3) (fun M4 => some (M4, .inr none))))
theorem SX5_advance (M : Mem)  : CTO (1) miX5_advance 0 0 [.ref 17] M (fX5_advance  M ) := by
  refine CTO.of (by decide) (by simp [lg_sl, Value.category]) ?_
  show GO miX5_advance (1) 0 0 0 0 0 [(0, .ref 17)] [] M (wr (si M 17 4 ((gi M 17 4) + 1)) (fun M1 => bI (fX10_symbolAt M1 (gi M1 17 4)) (fun M2 v3 => wr (si M2 17 5 v3) (fun M4 => some (M4, .inr none)))))
  refine g_aload_n 0 rfl rfl dX5_advance_0 ?_
  refine g_dup_ref dX5_advance_1 ?_
  refine g_getI (k := 4) clX5 kd_17 (by decide) rfl flX5_47 dX5_advance_2 ?_
  refine g_iconst (v := 1) (by decide) dX5_advance_5 ?_
  refine g_iadd dX5_advance_6 ?_
  refine g_putI (k := 4) clX5 kd_17 (by decide) rfl (by decide) rfl flX5_47 dX5_advance_7 ?_
  refine GO.wr (fun M1 => ?_)
  refine g_aload_n 0 rfl rfl dX5_advance_10 ?_
  refine g_aload_n 0 rfl rfl dX5_advance_11 ?_
  refine g_getR (k := 0) (b := 18) clX5 kd_17 (by decide) rfl rfl flX5_20 dX5_advance_12 ?_
  refine g_aload_n 0 rfl rfl dX5_advance_15 ?_
  refine g_getI (k := 4) clX5 kd_17 (by decide) rfl flX5_47 dX5_advance_16 ?_
  refine g_callVI (y := miX10_symbolAt) (As := [.int (gi M1 17 4)]) (rest := [.ref 17]) clX10 kd_18 rfl moX10_symbolAt rfl mlX5_50 (by first | decide | omega) (by decide) (by simp [Value.category]) rfl dX5_advance_19 (SX10_symbolAt  M1 (gi M1 17 4)) (fun M2 v3 => ?_)
  refine g_putI (k := 5) clX5 kd_17 (by decide) rfl (by decide) rfl flX5_54 dX5_advance_22 ?_
  refine GO.wr (fun M4 => ?_)
  exact g_vreturn rfl (by decide) (by decide) dX5_advance_25
def fX5_isNumber_b16 (M : Mem)  : RS := some (M, .inr (some (.int 1)))
theorem SX5_isNumber_b16 (M : Mem)  : GO miX5_isNumber (0) 0 0 0 0 16 [] [] M (fX5_isNumber_b16 M ) := by
  show GO miX5_isNumber (0) 0 0 0 0 16 [] [] M (some (M, .inr (some (.int 1))))
  refine g_iconst (v := 1) (by decide) dX5_isNumber_16 ?_
  refine g_goto (tgt := 21) rfl dX5_isNumber_17 ?_
  exact g_zreturn rfl (by decide) (by decide) dX5_isNumber_21 (by decide)
def fX5_isNumber (M : Mem)  : RS := if (gi M 17 5) = 1 then fX5_isNumber_b16  M else if (gi M 17 5) = 2 then fX5_isNumber_b16  M else some (M, .inr (some (.int 0)))
theorem SX5_isNumber (M : Mem)  : CTO (0) miX5_isNumber 0 0 [.ref 17] M (fX5_isNumber  M ) := by
  refine CTO.of (by decide) (by simp [lg_sl, Value.category]) ?_
  show GO miX5_isNumber (0) 0 0 0 0 0 [(0, .ref 17)] [] M (if (gi M 17 5) = 1 then fX5_isNumber_b16  M else if (gi M 17 5) = 2 then fX5_isNumber_b16  M else some (M, .inr (some (.int 0))))
  refine g_aload_n 0 rfl rfl dX5_isNumber_0 ?_
  refine g_getI (k := 5) clX5 kd_17 (by decide) rfl flX5_54 dX5_isNumber_1 ?_
  refine g_iconst (v := 1) (by decide) dX5_isNumber_4 ?_
  refine g_icmp_eq (tgt := 16) rfl dX5_isNumber_5 (fun c => ?_) (fun c => ?_)
  · exact GO.pick [] rfl <| SX5_isNumber_b16  M
  · refine g_aload_n 0 rfl rfl dX5_isNumber_8 ?_
    refine g_getI (k := 5) clX5 kd_17 (by decide) rfl flX5_54 dX5_isNumber_9 ?_
    refine g_iconst (v := 2) (by decide) dX5_isNumber_12 ?_
    refine g_icmp_ne (tgt := 20) rfl dX5_isNumber_13 (fun c => ?_) (fun c => ?_)
    · refine g_iconst (v := 0) (by decide) dX5_isNumber_20 ?_
      exact g_zreturn rfl (by decide) (by decide) dX5_isNumber_21 (by decide)
    · exact GO.pick [] rfl <| SX5_isNumber_b16  M
def fX5_refuseAs (M : Mem) (x1 : Int32) : RS := if (gi M 17 6) = 0 then wr (si M 17 6 x1) (fun M1 => some (M1, .inr none)) else some (M, .inr none)
theorem SX5_refuseAs (M : Mem) (x1 : Int32) : CTO (0) miX5_refuseAs 0 0 [.ref 17, .int x1] M (fX5_refuseAs  M x1) := by
  refine CTO.of (by decide) (by simp [lg_sl, Value.category]) ?_
  show GO miX5_refuseAs (0) 0 0 0 0 0 [(0, .ref 17), (1, .int x1)] [] M (if (gi M 17 6) = 0 then wr (si M 17 6 x1) (fun M1 => some (M1, .inr none)) else some (M, .inr none))
  refine g_aload_n 0 rfl rfl dX5_refuseAs_0 ?_
  refine g_getI (k := 6) clX5 kd_17 (by decide) rfl flX5_40 dX5_refuseAs_1 ?_
  refine g_if_ne (tgt := 12) rfl dX5_refuseAs_4 (fun c => ?_) (fun c => ?_)
  · exact g_vreturn rfl (by decide) (by decide) dX5_refuseAs_12
  · refine g_aload_n 0 rfl rfl dX5_refuseAs_7 ?_
    refine g_iload_n 1 rfl rfl dX5_refuseAs_8 ?_
    refine g_putI (k := 6) clX5 kd_17 (by decide) rfl (by decide) rfl flX5_40 dX5_refuseAs_9 ?_
    refine GO.wr (fun M1 => ?_)
    exact g_vreturn rfl (by decide) (by decide) dX5_refuseAs_12
def fX10_numberAt (M : Mem) (x1 : Int32) : RS := if x1 < 0 then some (M, .inr (some (.int 0))) else if x1 < (gi M 18 6) then chk (inb x1 700) (some (M, .inr (some (.int (gi M 21 (ix x1)))))) else some (M, .inr (some (.int 0)))
theorem SX10_numberAt (M : Mem) (x1 : Int32) : CTO (0) miX10_numberAt 0 0 [.ref 18, .int x1] M (fX10_numberAt  M x1) := by
  refine CTO.of (by decide) (by simp [lg_sl, Value.category]) ?_
  show GO miX10_numberAt (0) 0 0 0 0 0 [(0, .ref 18), (1, .int x1)] [] M (if x1 < 0 then some (M, .inr (some (.int 0))) else if x1 < (gi M 18 6) then chk (inb x1 700) (some (M, .inr (some (.int (gi M 21 (ix x1)))))) else some (M, .inr (some (.int 0))))
  refine g_iload_n 1 rfl rfl dX10_numberAt_0 ?_
  refine g_if_lt (tgt := 21) rfl dX10_numberAt_1 (fun c => ?_) (fun c => ?_)
  · refine g_iconst (v := 0) (by decide) dX10_numberAt_21 ?_
    exact g_ireturn rfl (by decide) (by decide) dX10_numberAt_22 rfl rfl
  · refine g_iload_n 1 rfl rfl dX10_numberAt_4 ?_
    refine g_aload_n 0 rfl rfl dX10_numberAt_5 ?_
    refine g_getI (k := 6) clX10 kd_18 (by decide) rfl flX10_43 dX10_numberAt_6 ?_
    refine g_icmp_ge (tgt := 21) rfl dX10_numberAt_9 (fun c => ?_) (fun c => ?_)
    · refine g_iconst (v := 0) (by decide) dX10_numberAt_21 ?_
      exact g_ireturn rfl (by decide) (by decide) dX10_numberAt_22 rfl rfl
    · refine g_aload_n 0 rfl rfl dX10_numberAt_12 ?_
      refine g_getR (k := 3) (b := 21) clX10 kd_18 (by decide) rfl rfl flX10_20 dX10_numberAt_13 ?_
      refine g_iload_n 1 rfl rfl dX10_numberAt_16 ?_
      refine g_ald kd_21 dX10_numberAt_17 (fun hi1 => ?_)
      refine g_goto (tgt := 22) rfl dX10_numberAt_18 ?_
      exact g_ireturn rfl (by decide) (by decide) dX10_numberAt_22 rfl rfl
def fX5_peekNumber_b40 (M : Mem) (x2 : Int32) : RS := bV (fX5_refuseAs M 2) (fun M7 => some (M7, .inr (some (.int x2))))
theorem SX5_peekNumber_b40 (M : Mem) (x2 : Int32) : GO miX5_peekNumber (1) 0 0 0 0 40 [(0, .ref 17), (2, .int x2)] [] M (fX5_peekNumber_b40 M x2) := by
  show GO miX5_peekNumber (1) 0 0 0 0 40 [(0, .ref 17), (2, .int x2)] [] M (bV (fX5_refuseAs M 2) (fun M7 => some (M7, .inr (some (.int x2)))))
  refine g_aload_n 0 rfl rfl dX5_peekNumber_40 ?_
  refine g_iconst (v := 2) (by decide) dX5_peekNumber_41 ?_
  refine g_callVV (y := miX5_refuseAs) (As := [.int 2]) (rest := []) clX5 kd_17 rfl moX5_refuseAs rfl mlX5_87 (by first | decide | omega) (by decide) (by simp [Value.category]) rfl dX5_peekNumber_42 (SX5_refuseAs  M 2) (fun M7 => ?_)
  refine g_iload_n 1 rfl rfl dX5_peekNumber_45 ?_
  exact g_ireturn rfl (by decide) (by decide) dX5_peekNumber_46 rfl rfl
def fX5_peekNumber (M : Mem) (x1 : Int32) : RS := bI (fX10_numberAt M (gi M 17 4)) (fun M1 v2 => bI (fX5_isNumber M1) (fun M3 v4 => if v4 = 0 then bV (fX5_refuseAs M3 1) (fun M5 => some (M5, .inr (some (.int v2)))) else if (gi M3 17 5) = 2 then fX5_peekNumber_b40  M3 v2 else if x1 < v2 then fX5_peekNumber_b40  M3 v2 else some (M3, .inr (some (.int v2)))))
theorem SX5_peekNumber (M : Mem) (x1 : Int32) : CTO (1) miX5_peekNumber 0 0 [.ref 17, .int x1] M (fX5_peekNumber  M x1) := by
  refine CTO.of (by decide) (by simp [lg_sl, Value.category]) ?_
  show GO miX5_peekNumber (1) 0 0 0 0 0 [(0, .ref 17), (1, .int x1)] [] M (bI (fX10_numberAt M (gi M 17 4)) (fun M1 v2 => bI (fX5_isNumber M1) (fun M3 v4 => if v4 = 0 then bV (fX5_refuseAs M3 1) (fun M5 => some (M5, .inr (some (.int v2)))) else if (gi M3 17 5) = 2 then fX5_peekNumber_b40  M3 v2 else if x1 < v2 then fX5_peekNumber_b40  M3 v2 else some (M3, .inr (some (.int v2))))))
  refine g_aload_n 0 rfl rfl dX5_peekNumber_0 ?_
  refine g_getR (k := 0) (b := 18) clX5 kd_17 (by decide) rfl rfl flX5_20 dX5_peekNumber_1 ?_
  refine g_aload_n 0 rfl rfl dX5_peekNumber_4 ?_
  refine g_getI (k := 4) clX5 kd_17 (by decide) rfl flX5_47 dX5_peekNumber_5 ?_
  refine g_callVI (y := miX10_numberAt) (As := [.int (gi M 17 4)]) (rest := []) clX10 kd_18 rfl moX10_numberAt rfl mlX5_156 (by first | decide | omega) (by decide) (by simp [Value.category]) rfl dX5_peekNumber_8 (SX10_numberAt  M (gi M 17 4)) (fun M1 v2 => ?_)
  refine g_istore_n (L' := [(2, .int v2), (0, .ref 17), (1, .int x1)]) (by decide) rfl rfl dX5_peekNumber_11 ?_
  refine g_aload_n 1 rfl rfl dX5_peekNumber_12 ?_
  refine g_callVI (y := miX5_isNumber) (As := []) (rest := []) clX5 kd_17 rfl moX5_isNumber rfl mlX5_135 (by first | decide | omega) (by decide) (by simp [Value.category]) rfl dX5_peekNumber_13 (SX5_isNumber  M1) (fun M3 v4 => ?_)
  refine g_if_ne (tgt := 27) rfl dX5_peekNumber_16 (fun c => ?_) (fun c => ?_)
  · refine g_aload_n 1 rfl rfl dX5_peekNumber_27 ?_
    refine g_getI (k := 5) clX5 kd_17 (by decide) rfl flX5_54 dX5_peekNumber_28 ?_
    refine g_iconst (v := 2) (by decide) dX5_peekNumber_31 ?_
    refine g_icmp_eq (tgt := 40) rfl dX5_peekNumber_32 (fun c => ?_) (fun c => ?_)
    · exact GO.pick [1, 0] rfl <| SX5_peekNumber_b40  M3 v2
    · refine g_iload_n 0 rfl rfl dX5_peekNumber_35 ?_
      refine g_iload_n 2 rfl rfl dX5_peekNumber_36 ?_
      refine g_icmp_le (tgt := 45) rfl dX5_peekNumber_37 (fun c => ?_) (fun c => ?_)
      · refine g_iload_n 0 rfl rfl dX5_peekNumber_45 ?_
        exact g_ireturn rfl (by decide) (by decide) dX5_peekNumber_46 rfl rfl
      · exact GO.pick [1, 0] rfl <| SX5_peekNumber_b40  M3 v2
  · refine g_aload_n 1 rfl rfl dX5_peekNumber_19 ?_
    refine g_iconst (v := 1) (by decide) dX5_peekNumber_20 ?_
    refine g_callVV (y := miX5_refuseAs) (As := [.int 1]) (rest := []) clX5 kd_17 rfl moX5_refuseAs rfl mlX5_87 (by first | decide | omega) (by decide) (by simp [Value.category]) rfl dX5_peekNumber_21 (SX5_refuseAs  M3 1) (fun M5 => ?_)
    refine g_goto (tgt := 45) rfl dX5_peekNumber_24 ?_
    refine g_iload_n 0 rfl rfl dX5_peekNumber_45 ?_
    exact g_ireturn rfl (by decide) (by decide) dX5_peekNumber_46 rfl rfl
def fX5_readNumber (M : Mem) (x1 : Int32) : RS := bI (fX5_peekNumber M x1) (fun M1 v2 => if (gi M1 17 6) = 0 then bV (fX5_advance M1) (fun M3 => some (M3, .inr (some (.int v2)))) else some (M1, .inr (some (.int v2))))
theorem SX5_readNumber (M : Mem) (x1 : Int32) : CTO (2) miX5_readNumber 0 0 [.ref 17, .int x1] M (fX5_readNumber  M x1) := by
  refine CTO.of (by decide) (by simp [lg_sl, Value.category]) ?_
  show GO miX5_readNumber (2) 0 0 0 0 0 [(0, .ref 17), (1, .int x1)] [] M (bI (fX5_peekNumber M x1) (fun M1 v2 => if (gi M1 17 6) = 0 then bV (fX5_advance M1) (fun M3 => some (M3, .inr (some (.int v2)))) else some (M1, .inr (some (.int v2)))))
  refine g_aload_n 0 rfl rfl dX5_readNumber_0 ?_
  refine g_iload_n 1 rfl rfl dX5_readNumber_1 ?_
  refine g_callVI (y := miX5_peekNumber) (As := [.int x1]) (rest := []) clX5 kd_17 rfl moX5_peekNumber rfl mlX5_109 (by first | decide | omega) (by decide) (by simp [Value.category]) rfl dX5_readNumber_2 (SX5_peekNumber  M x1) (fun M1 v2 => ?_)
  refine g_istore_n (L' := [(2, .int v2), (0, .ref 17), (1, .int x1)]) (by decide) rfl rfl dX5_readNumber_5 ?_
  refine g_aload_n 1 rfl rfl dX5_readNumber_6 ?_
  refine g_getI (k := 6) clX5 kd_17 (by decide) rfl flX5_40 dX5_readNumber_7 ?_
  refine g_if_ne (tgt := 17) rfl dX5_readNumber_10 (fun c => ?_) (fun c => ?_)
  · refine g_iload_n 0 rfl rfl dX5_readNumber_17 ?_
    exact g_ireturn rfl (by decide) (by decide) dX5_readNumber_18 rfl rfl
  · refine g_aload_n 1 rfl rfl dX5_readNumber_13 ?_
    refine g_callVV (y := miX5_advance) (As := []) (rest := []) clX5 kd_17 rfl moX5_advance rfl mlX5_96 (by first | decide | omega) (by decide) (by simp [Value.category]) rfl dX5_readNumber_14 (SX5_advance  M1) (fun M3 => ?_)
    refine g_iload_n 0 rfl rfl dX5_readNumber_17 ?_
    exact g_ireturn rfl (by decide) (by decide) dX5_readNumber_18 rfl rfl
def fX5_readEats (M : Mem)  : RS := if (gi M (isA (gb M 2)) 16) = 0 then bV (fX5_advance M) (fun M1 => wr (si M1 (isA (gb M1 2)) 16 1) (fun M3 => bI (fX5_readNumber M3 20) (fun M4 v5 => wr (si M4 (isA (gb M3 2)) 14 v5) (fun M6 => some (M6, .inr none))))) else bV (fX5_refuseAs M 5) (fun M7 => some (M7, .inr none))
theorem SX5_readEats (M : Mem)  : CTO (3) miX5_readEats 0 0 [.ref 17] M (fX5_readEats  M ) := by
  refine CTO.of (by decide) (by simp [lg_sl, Value.category]) ?_
  show GO miX5_readEats (3) 0 0 0 0 0 [(0, .ref 17)] [] M (if (gi M (isA (gb M 2)) 16) = 0 then bV (fX5_advance M) (fun M1 => wr (si M1 (isA (gb M1 2)) 16 1) (fun M3 => bI (fX5_readNumber M3 20) (fun M4 v5 => wr (si M4 (isA (gb M3 2)) 14 v5) (fun M6 => some (M6, .inr none))))) else bV (fX5_refuseAs M 5) (fun M7 => some (M7, .inr none)))
  refine g_aload_n 0 rfl rfl dX5_readEats_0 ?_
  refine g_getR (k := 1) (b := (isA (gb M 2))) clX5 kd_17 (by decide) rfl rfl flX5_24 dX5_readEats_1 ?_
  refine g_getI (k := 16) clX2 (kv_d3_24_0 _ (isA_dom _)) (by decide) rfl flX5_139 dX5_readEats_4 ?_
  refine g_if_eq (tgt := 16) rfl dX5_readEats_7 (fun c => ?_) (fun c => ?_)
  · refine g_aload_n 0 rfl rfl dX5_readEats_16 ?_
    refine g_callVV (y := miX5_advance) (As := []) (rest := []) clX5 kd_17 rfl moX5_advance rfl mlX5_96 (by first | decide | omega) (by decide) (by simp [Value.category]) rfl dX5_readEats_17 (SX5_advance  M) (fun M1 => ?_)
    refine g_aload_n 0 rfl rfl dX5_readEats_20 ?_
    refine g_getR (k := 1) (b := (isA (gb M1 2))) clX5 kd_17 (by decide) rfl rfl flX5_24 dX5_readEats_21 ?_
    refine g_iconst (v := 1) (by decide) dX5_readEats_24 ?_
    refine g_putZ (k := 16) clX2 (kv_d3_24_0 _ (isA_dom _)) (by decide) rfl (by decide) rfl (by decide) flX5_139 dX5_readEats_25 ?_
    refine GO.wr (fun M3 => ?_)
    refine g_aload_n 0 rfl rfl dX5_readEats_28 ?_
    refine g_getR (k := 1) (b := (isA (gb M3 2))) clX5 kd_17 (by decide) rfl rfl flX5_24 dX5_readEats_29 ?_
    refine g_aload_n 0 rfl rfl dX5_readEats_32 ?_
    refine g_bipush (v := 20) (by decide) dX5_readEats_33 ?_
    refine g_callVI (y := miX5_readNumber) (As := [.int 20]) (rest := [.ref (isA (gb M3 2))]) clX5 kd_17 rfl moX5_readNumber rfl mlX5_99 (by first | decide | omega) (by decide) (by simp [Value.category]) rfl dX5_readEats_35 (SX5_readNumber  M3 20) (fun M4 v5 => ?_)
    refine g_putI (k := 14) clX2 (kv_d3_24_0 _ (isA_dom _)) (by decide) rfl (by decide) rfl flX5_142 dX5_readEats_38 ?_
    refine GO.wr (fun M6 => ?_)
    exact g_vreturn rfl (by decide) (by decide) dX5_readEats_41
  · refine g_aload_n 0 rfl rfl dX5_readEats_10 ?_
    refine g_iconst (v := 5) (by decide) dX5_readEats_11 ?_
    refine g_callVV (y := miX5_refuseAs) (As := [.int 5]) (rest := []) clX5 kd_17 rfl moX5_refuseAs rfl mlX5_87 (by first | decide | omega) (by decide) (by simp [Value.category]) rfl dX5_readEats_12 (SX5_refuseAs  M 5) (fun M7 => ?_)
    exact g_vreturn rfl (by decide) (by decide) dX5_readEats_15
def fX2_addHouse (a0 : Nat) (M : Mem) (x1 : Int32) (x2 : Int32) (x3 : Int32) : RS := if (gi M a0 9) < 8 then chk (inb (gi M a0 9) 8) (wr (si M (a0 + 1) (ix (gi M a0 9)) x1) (fun M2 => chk (inb (gi M2 a0 9) 8) (wr (si M2 (a0 + 2) (ix (gi M2 a0 9)) x2) (fun M4 => chk (inb (gi M4 a0 9) 8) (wr (si M4 (a0 + 3) (ix (gi M4 a0 9)) x3) (fun M6 => wr (si M6 a0 9 ((gi M6 a0 9) + 1)) (fun M7 => some (M7, .inr none)))))))) else some (M, .inr none)
theorem SX2_addHouse (a0 : Nat) (h0 : a0 ∈ [3, 24]) (M : Mem) (x1 : Int32) (x2 : Int32) (x3 : Int32) : CTO (0) miX2_addHouse 0 0 [.ref a0, .int x1, .int x2, .int x3] M (fX2_addHouse a0 M x1 x2 x3) := by
  refine CTO.of (by decide) (by simp [lg_sl, Value.category]) ?_
  show GO miX2_addHouse (0) 0 0 0 0 0 [(0, .ref a0), (1, .int x1), (2, .int x2), (3, .int x3)] [] M (if (gi M a0 9) < 8 then chk (inb (gi M a0 9) 8) (wr (si M (a0 + 1) (ix (gi M a0 9)) x1) (fun M2 => chk (inb (gi M2 a0 9) 8) (wr (si M2 (a0 + 2) (ix (gi M2 a0 9)) x2) (fun M4 => chk (inb (gi M4 a0 9) 8) (wr (si M4 (a0 + 3) (ix (gi M4 a0 9)) x3) (fun M6 => wr (si M6 a0 9 ((gi M6 a0 9) + 1)) (fun M7 => some (M7, .inr none)))))))) else some (M, .inr none))
  refine g_aload_n 0 rfl rfl dX2_addHouse_0 ?_
  refine g_getI (k := 9) clX2 (kv_d3_24_0 _ h0) (by decide) rfl flX2_43 dX2_addHouse_1 ?_
  refine g_bipush (v := 8) (by decide) dX2_addHouse_4 ?_
  refine g_icmp_ge (tgt := 49) rfl dX2_addHouse_6 (fun c => ?_) (fun c => ?_)
  · exact g_vreturn rfl (by decide) (by decide) dX2_addHouse_49
  · refine g_aload_n 0 rfl rfl dX2_addHouse_9 ?_
    refine g_getR (k := 0) (b := (a0 + 1)) clX2 (kv_d3_24_0 _ h0) (by decide) rfl rfl flX2_9 dX2_addHouse_10 ?_
    refine g_aload_n 0 rfl rfl dX2_addHouse_13 ?_
    refine g_getI (k := 9) clX2 (kv_d3_24_0 _ h0) (by decide) rfl flX2_43 dX2_addHouse_14 ?_
    refine g_iload_n 1 rfl rfl dX2_addHouse_17 ?_
    refine g_ast (kv_d3_24_1 _ h0) dX2_addHouse_18 (fun hi1 => ?_)
    refine GO.wr (fun M2 => ?_)
    refine g_aload_n 0 rfl rfl dX2_addHouse_19 ?_
    refine g_getR (k := 1) (b := (a0 + 2)) clX2 (kv_d3_24_0 _ h0) (by decide) rfl rfl flX2_15 dX2_addHouse_20 ?_
    refine g_aload_n 0 rfl rfl dX2_addHouse_23 ?_
    refine g_getI (k := 9) clX2 (kv_d3_24_0 _ h0) (by decide) rfl flX2_43 dX2_addHouse_24 ?_
    refine g_iload_n 2 rfl rfl dX2_addHouse_27 ?_
    refine g_ast (kv_d3_24_2 _ h0) dX2_addHouse_28 (fun hi3 => ?_)
    refine GO.wr (fun M4 => ?_)
    refine g_aload_n 0 rfl rfl dX2_addHouse_29 ?_
    refine g_getR (k := 2) (b := (a0 + 3)) clX2 (kv_d3_24_0 _ h0) (by decide) rfl rfl flX2_18 dX2_addHouse_30 ?_
    refine g_aload_n 0 rfl rfl dX2_addHouse_33 ?_
    refine g_getI (k := 9) clX2 (kv_d3_24_0 _ h0) (by decide) rfl flX2_43 dX2_addHouse_34 ?_
    refine g_iload_n 3 rfl rfl dX2_addHouse_37 ?_
    refine g_ast (kv_d3_24_3 _ h0) dX2_addHouse_38 (fun hi5 => ?_)
    refine GO.wr (fun M6 => ?_)
    refine g_aload_n 0 rfl rfl dX2_addHouse_39 ?_
    refine g_dup_ref dX2_addHouse_40 ?_
    refine g_getI (k := 9) clX2 (kv_d3_24_0 _ h0) (by decide) rfl flX2_43 dX2_addHouse_41 ?_
    refine g_iconst (v := 1) (by decide) dX2_addHouse_44 ?_
    refine g_iadd dX2_addHouse_45 ?_
    refine g_putI (k := 9) clX2 (kv_d3_24_0 _ h0) (by decide) rfl (by decide) rfl flX2_43 dX2_addHouse_46 ?_
    refine GO.wr (fun M7 => ?_)
    exact g_vreturn rfl (by decide) (by decide) dX2_addHouse_49
def fX5_readHouse (M : Mem)  : RS := if (gi M (isA (gb M 2)) 9) < 8 then bV (fX5_advance M) (fun M1 => bI (fX5_readNumber M1 9) (fun M3 v4 => bI (fX5_readNumber M3 9) (fun M5 v6 => bI (fX5_readNumber M5 2) (fun M7 v8 => bV (fX2_addHouse (isA (gb M7 2)) M7 v4 v6 v8) (fun M9 => some (M9, .inr none)))))) else bV (fX5_refuseAs M 2) (fun M11 => some (M11, .inr none))
theorem SX5_readHouse (M : Mem)  : CTO (3) miX5_readHouse 0 0 [.ref 17] M (fX5_readHouse  M ) := by
  refine CTO.of (by decide) (by simp [lg_sl, Value.category]) ?_
  show GO miX5_readHouse (3) 0 0 0 0 0 [(0, .ref 17)] [] M (if (gi M (isA (gb M 2)) 9) < 8 then bV (fX5_advance M) (fun M1 => bI (fX5_readNumber M1 9) (fun M3 v4 => bI (fX5_readNumber M3 9) (fun M5 v6 => bI (fX5_readNumber M5 2) (fun M7 v8 => bV (fX2_addHouse (isA (gb M7 2)) M7 v4 v6 v8) (fun M9 => some (M9, .inr none)))))) else bV (fX5_refuseAs M 2) (fun M11 => some (M11, .inr none)))
  refine g_aload_n 0 rfl rfl dX5_readHouse_0 ?_
  refine g_getR (k := 1) (b := (isA (gb M 2))) clX5 kd_17 (by decide) rfl rfl flX5_24 dX5_readHouse_1 ?_
  refine g_getI (k := 9) clX2 (kv_d3_24_0 _ (isA_dom _)) (by decide) rfl flX5_93 dX5_readHouse_4 ?_
  refine g_bipush (v := 8) (by decide) dX5_readHouse_7 ?_
  refine g_icmp_lt (tgt := 18) rfl dX5_readHouse_9 (fun c => ?_) (fun c => ?_)
  · refine g_aload_n 0 rfl rfl dX5_readHouse_18 ?_
    refine g_callVV (y := miX5_advance) (As := []) (rest := []) clX5 kd_17 rfl moX5_advance rfl mlX5_96 (by first | decide | omega) (by decide) (by simp [Value.category]) rfl dX5_readHouse_19 (SX5_advance  M) (fun M1 => ?_)
    refine g_aload_n 0 rfl rfl dX5_readHouse_22 ?_
    refine g_bipush (v := 9) (by decide) dX5_readHouse_23 ?_
    refine g_callVI (y := miX5_readNumber) (As := [.int 9]) (rest := []) clX5 kd_17 rfl moX5_readNumber rfl mlX5_99 (by first | decide | omega) (by decide) (by simp [Value.category]) rfl dX5_readHouse_25 (SX5_readNumber  M1 9) (fun M3 v4 => ?_)
    refine g_istore_n (L' := [(1, .int v4), (0, .ref 17)]) (by decide) rfl rfl dX5_readHouse_28 ?_
    refine g_aload_n 1 rfl rfl dX5_readHouse_29 ?_
    refine g_bipush (v := 9) (by decide) dX5_readHouse_30 ?_
    refine g_callVI (y := miX5_readNumber) (As := [.int 9]) (rest := []) clX5 kd_17 rfl moX5_readNumber rfl mlX5_99 (by first | decide | omega) (by decide) (by simp [Value.category]) rfl dX5_readHouse_32 (SX5_readNumber  M3 9) (fun M5 v6 => ?_)
    refine g_istore_n (L' := [(2, .int v6), (1, .int v4), (0, .ref 17)]) (by decide) rfl rfl dX5_readHouse_35 ?_
    refine g_aload_n 2 rfl rfl dX5_readHouse_36 ?_
    refine g_iconst (v := 2) (by decide) dX5_readHouse_37 ?_
    refine g_callVI (y := miX5_readNumber) (As := [.int 2]) (rest := []) clX5 kd_17 rfl moX5_readNumber rfl mlX5_99 (by first | decide | omega) (by decide) (by simp [Value.category]) rfl dX5_readHouse_38 (SX5_readNumber  M5 2) (fun M7 v8 => ?_)
    refine g_istore_n (L' := [(3, .int v8), (2, .int v6), (1, .int v4), (0, .ref 17)]) (by decide) rfl rfl dX5_readHouse_41 ?_
    refine g_aload_n 3 rfl rfl dX5_readHouse_42 ?_
    refine g_getR (k := 1) (b := (isA (gb M7 2))) clX5 kd_17 (by decide) rfl rfl flX5_24 dX5_readHouse_43 ?_
    refine g_iload_n 2 rfl rfl dX5_readHouse_46 ?_
    refine g_iload_n 1 rfl rfl dX5_readHouse_47 ?_
    refine g_iload_n 0 rfl rfl dX5_readHouse_48 ?_
    refine g_callVV (y := miX2_addHouse) (As := [.int v4, .int v6, .int v8]) (rest := []) clX2 (kv_d3_24_0 _ (isA_dom _)) rfl moX2_addHouse rfl mlX5_102 (by first | decide | omega) (by decide) (by simp [Value.category]) rfl dX5_readHouse_49 (SX2_addHouse (isA (gb M7 2)) (isA_dom _) M7 v4 v6 v8) (fun M9 => ?_)
    exact g_vreturn rfl (by decide) (by decide) dX5_readHouse_52
  · refine g_aload_n 0 rfl rfl dX5_readHouse_12 ?_
    refine g_iconst (v := 2) (by decide) dX5_readHouse_13 ?_
    refine g_callVV (y := miX5_refuseAs) (As := [.int 2]) (rest := []) clX5 kd_17 rfl moX5_refuseAs rfl mlX5_87 (by first | decide | omega) (by decide) (by simp [Value.category]) rfl dX5_readHouse_14 (SX5_refuseAs  M 2) (fun M11 => ?_)
    exact g_vreturn rfl (by decide) (by decide) dX5_readHouse_17

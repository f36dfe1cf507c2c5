def fX11_needWhat_b9 (M : Mem)  : RS := some (M, .inl 1)
theorem SX11_needWhat_b9 (M : Mem)  : GO miX11_needWhat (6) 1 6 0 0 9 [] [] M (fX11_needWhat_b9 M ) := by
  show GO miX11_needWhat (6) 1 6 0 0 9 [] [] M (some (M, .inl 1))
  exact g_throw1 rfl (by decide) (by decide) (by decide) dX11_needWhat_9 dX11_needWhat_12 dX11_needWhat_13 dX11_needWhat_16
def fX11_needWhat (M : Mem) (x1 : Int32) (x2 : Int32) : RS := if x1 < 0 then fX11_needWhat_b9  M else if x1 < x2 then some (M, .inr none) else fX11_needWhat_b9  M
theorem SX11_needWhat (M : Mem) (x1 : Int32) (x2 : Int32) : CTO (6) miX11_needWhat 1 6 [.ref 0, .int x1, .int x2] M (fX11_needWhat  M x1 x2) := by
  refine CTO.of (by decide) (by simp [lg_sl, Value.category]) ?_
  show GO miX11_needWhat (6) 1 6 0 0 0 [(0, .ref 0), (1, .int x1), (2, .int x2)] [] M (if x1 < 0 then fX11_needWhat_b9  M else if x1 < x2 then some (M, .inr none) else fX11_needWhat_b9  M)
  refine g_iload_n 1 rfl rfl dX11_needWhat_0 ?_
  refine g_if_lt (tgt := 9) rfl dX11_needWhat_1 (fun c => ?_) (fun c => ?_)
  · exact GO.pick [] rfl <| SX11_needWhat_b9  M
  · refine g_iload_n 1 rfl rfl dX11_needWhat_4 ?_
    refine g_iload_n 2 rfl rfl dX11_needWhat_5 ?_
    refine g_icmp_lt (tgt := 17) rfl dX11_needWhat_6 (fun c => ?_) (fun c => ?_)
    · exact g_vreturn rfl (by decide) (by decide) dX11_needWhat_17
    · exact GO.pick [] rfl <| SX11_needWhat_b9  M
def fX11_envied_b52 (rec17 : Mem → Int32 → Int32 → Int32 → Int32 → RS) (M : Mem) (x1 : Int32) (x2 : Int32) (x3 : Int32) (x4 : Int32) : RS := rec17 M x1 x2 x3 (x4 + 1)
theorem SX11_envied_b52 (rec17 : Mem → Int32 → Int32 → Int32 → Int32 → RS) (hrec17 : ∀ (M : Mem) (x1 : Int32) (x2 : Int32) (x3 : Int32) (x4 : Int32), GO miX11_envied (7) 1 6 1 6 17 [(0, .ref 0), (1, .int x1), (2, .int x2), (3, .int x3), (4, .int x4)] [] M (rec17 M x1 x2 x3 x4)) (M : Mem) (x1 : Int32) (x2 : Int32) (x3 : Int32) (x4 : Int32) : GO miX11_envied (7) 1 6 1 6 52 [(0, .ref 0), (1, .int x1), (2, .int x2), (3, .int x3), (4, .int x4)] [] M (fX11_envied_b52 rec17 M x1 x2 x3 x4) := by
  show GO miX11_envied (7) 1 6 1 6 52 [(0, .ref 0), (1, .int x1), (2, .int x2), (3, .int x3), (4, .int x4)] [] M (rec17 M x1 x2 x3 (x4 + 1))
  refine g_iinc (v := x4 + 1) (L' := [(4, .int (x4 + 1)), (0, .ref 0), (1, .int x1), (2, .int x2), (3, .int x3)]) 4 rfl rfl (by decide) rfl dX11_envied_52 ?_
  refine g_goto (tgt := 17) rfl dX11_envied_55 ?_
  exact GO.pick [1, 2, 3, 4, 0] rfl <| hrec17 M x1 x2 x3 (x4 + 1)
def fX11_envied_b17 : Nat → Mem → Int32 → Int32 → Int32 → Int32 → RS
  | 0 => fun _ _ _ _ _ => none
  | n + 1 => fun M x1 x2 x3 x4 => if x4 < (gi M (isA (gb M 0)) 9) then bI (fX11_howManyEnvy M x4) (fun M5 v6 => if x3 < v6 then fX11_envied_b52 (fX11_envied_b17 n) M5 x1 x4 v6 x4 else fX11_envied_b52 (fX11_envied_b17 n) M5 x1 x2 x3 x4) else if x1 = 0 then some (M, .inr (some (.int x2))) else some (M, .inr (some (.int x3)))
theorem SX11_envied_b17 (n : Nat) : ∀ (M : Mem) (x1 : Int32) (x2 : Int32) (x3 : Int32) (x4 : Int32), GO miX11_envied (7) 1 6 1 6 17 [(0, .ref 0), (1, .int x1), (2, .int x2), (3, .int x3), (4, .int x4)] [] M (fX11_envied_b17 n M x1 x2 x3 x4) := by
  induction n with
  | zero => intro M x1 x2 x3 x4 ; exact GO.none
  | succ n hrec17 =>
    intro M x1 x2 x3 x4 
    show GO miX11_envied (7) 1 6 1 6 17 [(0, .ref 0), (1, .int x1), (2, .int x2), (3, .int x3), (4, .int x4)] [] M (if x4 < (gi M (isA (gb M 0)) 9) then bI (fX11_howManyEnvy M x4) (fun M5 v6 => if x3 < v6 then fX11_envied_b52 (fX11_envied_b17 n) M5 x1 x4 v6 x4 else fX11_envied_b52 (fX11_envied_b17 n) M5 x1 x2 x3 x4) else if x1 = 0 then some (M, .inr (some (.int x2))) else some (M, .inr (some (.int x3))))
    refine g_iload 4 rfl dX11_envied_17 ?_
    refine g_aload_n 0 rfl rfl dX11_envied_19 ?_
    refine g_getR (k := 2) (b := 22) clX11 kd_0 (by decide) rfl rfl flX11_35 dX11_envied_20 ?_
    refine g_getR (k := 1) (b := (isA (gb M 0))) clX3 kd_22 (by decide) rfl rfl flX11_89 dX11_envied_23 ?_
    refine g_getI (k := 9) clX2 (kv_d3_24_0 _ (isA_dom _)) (by decide) rfl flX11_106 dX11_envied_26 ?_
    refine g_icmp_ge (tgt := 58) rfl dX11_envied_29 (fun c => ?_) (fun c => ?_)
    · refine g_iload_n 1 rfl rfl dX11_envied_58 ?_
      refine g_if_ne (tgt := 66) rfl dX11_envied_59 (fun c => ?_) (fun c => ?_)
      · refine g_iload_n 3 rfl rfl dX11_envied_66 ?_
        exact g_ireturn rfl (by decide) (by decide) dX11_envied_67 rfl rfl
      · refine g_iload_n 2 rfl rfl dX11_envied_62 ?_
        refine g_goto (tgt := 67) rfl dX11_envied_63 ?_
        exact g_ireturn rfl (by decide) (by decide) dX11_envied_67 rfl rfl
    · refine g_aload_n 0 rfl rfl dX11_envied_32 ?_
      refine g_iload 4 rfl dX11_envied_33 ?_
      refine g_callVI (y := miX11_howManyEnvy) (As := [.int x4]) (rest := []) clX11 kd_0 rfl moX11_howManyEnvy rfl mlX11_260 (by first | decide | omega) (by decide) (by simp [Value.category]) rfl dX11_envied_35 (SX11_howManyEnvy  M x4) (fun M5 v6 => ?_)
      refine g_istore (L' := [(5, .int v6), (0, .ref 0), (1, .int x1), (2, .int x2), (3, .int x3), (4, .int x4)]) (by decide) rfl dX11_envied_38 ?_
      refine g_iload 0 rfl dX11_envied_40 ?_
      refine g_iload_n 4 rfl rfl dX11_envied_42 ?_
      refine g_icmp_le (tgt := 52) rfl dX11_envied_43 (fun c => ?_) (fun c => ?_)
      · exact GO.pick [1, 2, 3, 4, 5] rfl <| SX11_envied_b52  (fX11_envied_b17 n) hrec17 M5 x1 x2 x3 x4
      · refine g_iload 0 rfl dX11_envied_46 ?_
        refine g_istore_n (L' := [(3, .int v6), (5, .int v6), (0, .ref 0), (1, .int x1), (2, .int x2), (4, .int x4)]) (by decide) rfl rfl dX11_envied_48 ?_
        refine g_iload 5 rfl dX11_envied_49 ?_
        refine g_istore_n (L' := [(2, .int x4), (3, .int v6), (5, .int v6), (0, .ref 0), (1, .int x1), (4, .int x4)]) (by decide) rfl rfl dX11_envied_51 ?_
        exact GO.pick [3, 4, 0, 1, 5] rfl <| SX11_envied_b52  (fX11_envied_b17 n) hrec17 M5 x1 x4 v6 x4
def fX11_envied (M : Mem) (x1 : Int32) : RS := bV (fX11_needWhat M x1 2) (fun M1 => bV (fX11_findEnvy M1) (fun M3 => fX11_envied_b17  FU M3 x1 (-1) 0 0))
theorem SX11_envied (M : Mem) (x1 : Int32) : CTO (7) miX11_envied 1 6 [.ref 0, .int x1] M (fX11_envied  M x1) := by
  refine CTO.of (by decide) (by simp [lg_sl, Value.category]) ?_
  show GO miX11_envied (7) 1 6 0 0 0 [(0, .ref 0), (1, .int x1)] [] M (bV (fX11_needWhat M x1 2) (fun M1 => bV (fX11_findEnvy M1) (fun M3 => fX11_envied_b17  FU M3 x1 (-1) 0 0)))
  refine g_aload_n 0 rfl rfl dX11_envied_0 ?_
  refine g_iload_n 1 rfl rfl dX11_envied_1 ?_
  refine g_iconst (v := 2) (by decide) dX11_envied_2 ?_
  refine g_callVV (y := miX11_needWhat) (As := [.int x1, .int 2]) (rest := []) clX11 kd_0 rfl moX11_needWhat rfl mlX11_257 (by first | decide | omega) (by decide) (by simp [Value.category]) rfl dX11_envied_3 (SX11_needWhat  M x1 2) (fun M1 => ?_)
  refine g_aload_n 0 rfl rfl dX11_envied_6 ?_
  refine g_callVV (y := miX11_findEnvy) (As := []) (rest := []) clX11 kd_0 rfl moX11_findEnvy rfl mlX11_250 (by first | decide | omega) (by decide) (by simp [Value.category]) rfl dX11_envied_7 (SX11_findEnvy  M1) (fun M3 => ?_)
  refine g_iconst (v := (-1)) (by decide) dX11_envied_10 ?_
  refine g_istore_n (L' := [(2, .int (-1)), (0, .ref 0), (1, .int x1)]) (by decide) rfl rfl dX11_envied_11 ?_
  refine g_iconst (v := 0) (by decide) dX11_envied_12 ?_
  refine g_istore_n (L' := [(3, .int 0), (2, .int (-1)), (0, .ref 0), (1, .int x1)]) (by decide) rfl rfl dX11_envied_13 ?_
  refine g_iconst (v := 0) (by decide) dX11_envied_14 ?_
  refine g_istore (L' := [(4, .int 0), (3, .int 0), (2, .int (-1)), (0, .ref 0), (1, .int x1)]) (by decide) rfl dX11_envied_15 ?_
  exact GO.pick [3, 4, 2, 1, 0] rfl <| SX11_envied_b17  FU M3 x1 (-1) 0 0
def fJ6_bitCount_0f7a4 (M : Mem) (x0 : Int32) : RS := some (M, .inr (some (.int ((((((((x0 - (((x0.toUInt32 >>> ((1 : Int32).toUInt32 &&& Int32.toUInt32 31)).toInt32) &&& 1431655765)) &&& 858993459) + ((((x0 - (((x0.toUInt32 >>> ((1 : Int32).toUInt32 &&& Int32.toUInt32 31)).toInt32) &&& 1431655765)).toUInt32 >>> ((2 : Int32).toUInt32 &&& Int32.toUInt32 31)).toInt32) &&& 858993459)) + (((((x0 - (((x0.toUInt32 >>> ((1 : Int32).toUInt32 &&& Int32.toUInt32 31)).toInt32) &&& 1431655765)) &&& 858993459) + ((((x0 - (((x0.toUInt32 >>> ((1 : Int32).toUInt32 &&& Int32.toUInt32 31)).toInt32) &&& 1431655765)).toUInt32 >>> ((2 : Int32).toUInt32 &&& Int32.toUInt32 31)).toInt32) &&& 858993459)).toUInt32 >>> ((4 : Int32).toUInt32 &&& Int32.toUInt32 31)).toInt32)) &&& 252645135) + (((((((x0 - (((x0.toUInt32 >>> ((1 : Int32).toUInt32 &&& Int32.toUInt32 31)).toInt32) &&& 1431655765)) &&& 858993459) + ((((x0 - (((x0.toUInt32 >>> ((1 : Int32).toUInt32 &&& Int32.toUInt32 31)).toInt32) &&& 1431655765)).toUInt32 >>> ((2 : Int32).toUInt32 &&& Int32.toUInt32 31)).toInt32) &&& 858993459)) + (((((x0 - (((x0.toUInt32 >>> ((1 : Int32).toUInt32 &&& Int32.toUInt32 31)).toInt32) &&& 1431655765)) &&& 858993459) + ((((x0 - (((x0.toUInt32 >>> ((1 : Int32).toUInt32 &&& Int32.toUInt32 31)).toInt32) &&& 1431655765)).toUInt32 >>> ((2 : Int32).toUInt32 &&& Int32.toUInt32 31)).toInt32) &&& 858993459)).toUInt32 >>> ((4 : Int32).toUInt32 &&& Int32.toUInt32 31)).toInt32)) &&& 252645135).toUInt32 >>> ((8 : Int32).toUInt32 &&& Int32.toUInt32 31)).toInt32)) + ((((((((x0 - (((x0.toUInt32 >>> ((1 : Int32).toUInt32 &&& Int32.toUInt32 31)).toInt32) &&& 1431655765)) &&& 858993459) + ((((x0 - (((x0.toUInt32 >>> ((1 : Int32).toUInt32 &&& Int32.toUInt32 31)).toInt32) &&& 1431655765)).toUInt32 >>> ((2 : Int32).toUInt32 &&& Int32.toUInt32 31)).toInt32) &&& 858993459)) + (((((x0 - (((x0.toUInt32 >>> ((1 : Int32).toUInt32 &&& Int32.toUInt32 31)).toInt32) &&& 1431655765)) &&& 858993459) + ((((x0 - (((x0.toUInt32 >>> ((1 : Int32).toUInt32 &&& Int32.toUInt32 31)).toInt32) &&& 1431655765)).toUInt32 >>> ((2 : Int32).toUInt32 &&& Int32.toUInt32 31)).toInt32) &&& 858993459)).toUInt32 >>> ((4 : Int32).toUInt32 &&& Int32.toUInt32 31)).toInt32)) &&& 252645135) + (((((((x0 - (((x0.toUInt32 >>> ((1 : Int32).toUInt32 &&& Int32.toUInt32 31)).toInt32) &&& 1431655765)) &&& 858993459) + ((((x0 - (((x0.toUInt32 >>> ((1 : Int32).toUInt32 &&& Int32.toUInt32 31)).toInt32) &&& 1431655765)).toUInt32 >>> ((2 : Int32).toUInt32 &&& Int32.toUInt32 31)).toInt32) &&& 858993459)) + (((((x0 - (((x0.toUInt32 >>> ((1 : Int32).toUInt32 &&& Int32.toUInt32 31)).toInt32) &&& 1431655765)) &&& 858993459) + ((((x0 - (((x0.toUInt32 >>> ((1 : Int32).toUInt32 &&& Int32.toUInt32 31)).toInt32) &&& 1431655765)).toUInt32 >>> ((2 : Int32).toUInt32 &&& Int32.toUInt32 31)).toInt32) &&& 858993459)).toUInt32 >>> ((4 : Int32).toUInt32 &&& Int32.toUInt32 31)).toInt32)) &&& 252645135).toUInt32 >>> ((8 : Int32).toUInt32 &&& Int32.toUInt32 31)).toInt32)).toUInt32 >>> ((16 : Int32).toUInt32 &&& Int32.toUInt32 31)).toInt32)) &&& 63))))
theorem SJ6_bitCount_0f7a4 (M : Mem) (x0 : Int32) : CTO (0) miJ6_bitCount_0f7a4 0 0 [.int x0] M (fJ6_bitCount_0f7a4  M x0) := by
  refine CTO.of (by decide) (by simp [lg_sl, Value.category]) ?_
  show GO miJ6_bitCount_0f7a4 (0) 0 0 0 0 0 [(0, .int x0)] [] M (some (M, .inr (some (.int ((((((((x0 - (((x0.toUInt32 >>> ((1 : Int32).toUInt32 &&& Int32.toUInt32 31)).toInt32) &&& 1431655765)) &&& 858993459) + ((((x0 - (((x0.toUInt32 >>> ((1 : Int32).toUInt32 &&& Int32.toUInt32 31)).toInt32) &&& 1431655765)).toUInt32 >>> ((2 : Int32).toUInt32 &&& Int32.toUInt32 31)).toInt32) &&& 858993459)) + (((((x0 - (((x0.toUInt32 >>> ((1 : Int32).toUInt32 &&& Int32.toUInt32 31)).toInt32) &&& 1431655765)) &&& 858993459) + ((((x0 - (((x0.toUInt32 >>> ((1 : Int32).toUInt32 &&& Int32.toUInt32 31)).toInt32) &&& 1431655765)).toUInt32 >>> ((2 : Int32).toUInt32 &&& Int32.toUInt32 31)).toInt32) &&& 858993459)).toUInt32 >>> ((4 : Int32).toUInt32 &&& Int32.toUInt32 31)).toInt32)) &&& 252645135) + (((((((x0 - (((x0.toUInt32 >>> ((1 : Int32).toUInt32 &&& Int32.toUInt32 31)).toInt32) &&& 1431655765)) &&& 858993459) + ((((x0 - (((x0.toUInt32 >>> ((1 : Int32).toUInt32 &&& Int32.toUInt32 31)).toInt32) &&& 1431655765)).toUInt32 >>> ((2 : Int32).toUInt32 &&& Int32.toUInt32 31)).toInt32) &&& 858993459)) + (((((x0 - (((x0.toUInt32 >>> ((1 : Int32).toUInt32 &&& Int32.toUInt32 31)).toInt32) &&& 1431655765)) &&& 858993459) + ((((x0 - (((x0.toUInt32 >>> ((1 : Int32).toUInt32 &&& Int32.toUInt32 31)).toInt32) &&& 1431655765)).toUInt32 >>> ((2 : Int32).toUInt32 &&& Int32.toUInt32 31)).toInt32) &&& 858993459)).toUInt32 >>> ((4 : Int32).toUInt32 &&& Int32.toUInt32 31)).toInt32)) &&& 252645135).toUInt32 >>> ((8 : Int32).toUInt32 &&& Int32.toUInt32 31)).toInt32)) + ((((((((x0 - (((x0.toUInt32 >>> ((1 : Int32).toUInt32 &&& Int32.toUInt32 31)).toInt32) &&& 1431655765)) &&& 858993459) + ((((x0 - (((x0.toUInt32 >>> ((1 : Int32).toUInt32 &&& Int32.toUInt32 31)).toInt32) &&& 1431655765)).toUInt32 >>> ((2 : Int32).toUInt32 &&& Int32.toUInt32 31)).toInt32) &&& 858993459)) + (((((x0 - (((x0.toUInt32 >>> ((1 : Int32).toUInt32 &&& Int32.toUInt32 31)).toInt32) &&& 1431655765)) &&& 858993459) + ((((x0 - (((x0.toUInt32 >>> ((1 : Int32).toUInt32 &&& Int32.toUInt32 31)).toInt32) &&& 1431655765)).toUInt32 >>> ((2 : Int32).toUInt32 &&& Int32.toUInt32 31)).toInt32) &&& 858993459)).toUInt32 >>> ((4 : Int32).toUInt32 &&& Int32.toUInt32 31)).toInt32)) &&& 252645135) + (((((((x0 - (((x0.toUInt32 >>> ((1 : Int32).toUInt32 &&& Int32.toUInt32 31)).toInt32) &&& 1431655765)) &&& 858993459) + ((((x0 - (((x0.toUInt32 >>> ((1 : Int32).toUInt32 &&& Int32.toUInt32 31)).toInt32) &&& 1431655765)).toUInt32 >>> ((2 : Int32).toUInt32 &&& Int32.toUInt32 31)).toInt32) &&& 858993459)) + (((((x0 - (((x0.toUInt32 >>> ((1 : Int32).toUInt32 &&& Int32.toUInt32 31)).toInt32) &&& 1431655765)) &&& 858993459) + ((((x0 - (((x0.toUInt32 >>> ((1 : Int32).toUInt32 &&& Int32.toUInt32 31)).toInt32) &&& 1431655765)).toUInt32 >>> ((2 : Int32).toUInt32 &&& Int32.toUInt32 31)).toInt32) &&& 858993459)).toUInt32 >>> ((4 : Int32).toUInt32 &&& Int32.toUInt32 31)).toInt32)) &&& 252645135).toUInt32 >>> ((8 : Int32).toUInt32 &&& Int32.toUInt32 31)).toInt32)).toUInt32 >>> ((16 : Int32).toUInt32 &&& Int32.toUInt32 31)).toInt32)) &&& 63)))))
  refine g_iload_n 0 rfl rfl dJ6_bitCount_0f7a4_0 ?_
  refine g_iload_n 0 rfl rfl dJ6_bitCount_0f7a4_1 ?_
  refine g_iconst (v := 1) (by decide) dJ6_bitCount_0f7a4_2 ?_
  refine g_iushr dJ6_bitCount_0f7a4_3 ?_
  refine g_ldc_w (v := 1431655765) coJ6_265 dJ6_bitCount_0f7a4_4 ?_
  refine g_iand dJ6_bitCount_0f7a4_7 ?_
  refine g_isub dJ6_bitCount_0f7a4_8 ?_
  refine g_istore_n (L' := [(0, .int (x0 - (((x0.toUInt32 >>> ((1 : Int32).toUInt32 &&& Int32.toUInt32 31)).toInt32) &&& 1431655765)))]) (by decide) rfl rfl dJ6_bitCount_0f7a4_9 ?_
  refine g_iload_n 0 rfl rfl dJ6_bitCount_0f7a4_10 ?_
  refine g_ldc_w (v := 858993459) coJ6_266 dJ6_bitCount_0f7a4_11 ?_
  refine g_iand dJ6_bitCount_0f7a4_14 ?_
  refine g_iload_n 0 rfl rfl dJ6_bitCount_0f7a4_15 ?_
  refine g_iconst (v := 2) (by decide) dJ6_bitCount_0f7a4_16 ?_
  refine g_iushr dJ6_bitCount_0f7a4_17 ?_
  refine g_ldc_w (v := 858993459) coJ6_266 dJ6_bitCount_0f7a4_18 ?_
  refine g_iand dJ6_bitCount_0f7a4_21 ?_
  refine g_iadd dJ6_bitCount_0f7a4_22 ?_
  refine g_istore_n (L' := [(0, .int (((x0 - (((x0.toUInt32 >>> ((1 : Int32).toUInt32 &&& Int32.toUInt32 31)).toInt32) &&& 1431655765)) &&& 858993459) + ((((x0 - (((x0.toUInt32 >>> ((1 : Int32).toUInt32 &&& Int32.toUInt32 31)).toInt32) &&& 1431655765)).toUInt32 >>> ((2 : Int32).toUInt32 &&& Int32.toUInt32 31)).toInt32) &&& 858993459)))]) (by decide) rfl rfl dJ6_bitCount_0f7a4_23 ?_
  refine g_iload_n 0 rfl rfl dJ6_bitCount_0f7a4_24 ?_
  refine g_iload_n 0 rfl rfl dJ6_bitCount_0f7a4_25 ?_
  refine g_iconst (v := 4) (by decide) dJ6_bitCount_0f7a4_26 ?_
  refine g_iushr dJ6_bitCount_0f7a4_27 ?_
  refine g_iadd dJ6_bitCount_0f7a4_28 ?_
  refine g_ldc_w (v := 252645135) coJ6_267 dJ6_bitCount_0f7a4_29 ?_
  refine g_iand dJ6_bitCount_0f7a4_32 ?_
  refine g_istore_n (L' := [(0, .int (((((x0 - (((x0.toUInt32 >>> ((1 : Int32).toUInt32 &&& Int32.toUInt32 31)).toInt32) &&& 1431655765)) &&& 858993459) + ((((x0 - (((x0.toUInt32 >>> ((1 : Int32).toUInt32 &&& Int32.toUInt32 31)).toInt32) &&& 1431655765)).toUInt32 >>> ((2 : Int32).toUInt32 &&& Int32.toUInt32 31)).toInt32) &&& 858993459)) + (((((x0 - (((x0.toUInt32 >>> ((1 : Int32).toUInt32 &&& Int32.toUInt32 31)).toInt32) &&& 1431655765)) &&& 858993459) + ((((x0 - (((x0.toUInt32 >>> ((1 : Int32).toUInt32 &&& Int32.toUInt32 31)).toInt32) &&& 1431655765)).toUInt32 >>> ((2 : Int32).toUInt32 &&& Int32.toUInt32 31)).toInt32) &&& 858993459)).toUInt32 >>> ((4 : Int32).toUInt32 &&& Int32.toUInt32 31)).toInt32)) &&& 252645135))]) (by decide) rfl rfl dJ6_bitCount_0f7a4_33 ?_
  refine g_iload_n 0 rfl rfl dJ6_bitCount_0f7a4_34 ?_
  refine g_iload_n 0 rfl rfl dJ6_bitCount_0f7a4_35 ?_
  refine g_bipush (v := 8) (by decide) dJ6_bitCount_0f7a4_36 ?_
  refine g_iushr dJ6_bitCount_0f7a4_38 ?_
  refine g_iadd dJ6_bitCount_0f7a4_39 ?_
  refine g_istore_n (L' := [(0, .int ((((((x0 - (((x0.toUInt32 >>> ((1 : Int32).toUInt32 &&& Int32.toUInt32 31)).toInt32) &&& 1431655765)) &&& 858993459) + ((((x0 - (((x0.toUInt32 >>> ((1 : Int32).toUInt32 &&& Int32.toUInt32 31)).toInt32) &&& 1431655765)).toUInt32 >>> ((2 : Int32).toUInt32 &&& Int32.toUInt32 31)).toInt32) &&& 858993459)) + (((((x0 - (((x0.toUInt32 >>> ((1 : Int32).toUInt32 &&& Int32.toUInt32 31)).toInt32) &&& 1431655765)) &&& 858993459) + ((((x0 - (((x0.toUInt32 >>> ((1 : Int32).toUInt32 &&& Int32.toUInt32 31)).toInt32) &&& 1431655765)).toUInt32 >>> ((2 : Int32).toUInt32 &&& Int32.toUInt32 31)).toInt32) &&& 858993459)).toUInt32 >>> ((4 : Int32).toUInt32 &&& Int32.toUInt32 31)).toInt32)) &&& 252645135) + (((((((x0 - (((x0.toUInt32 >>> ((1 : Int32).toUInt32 &&& Int32.toUInt32 31)).toInt32) &&& 1431655765)) &&& 858993459) + ((((x0 - (((x0.toUInt32 >>> ((1 : Int32).toUInt32 &&& Int32.toUInt32 31)).toInt32) &&& 1431655765)).toUInt32 >>> ((2 : Int32).toUInt32 &&& Int32.toUInt32 31)).toInt32) &&& 858993459)) + (((((x0 - (((x0.toUInt32 >>> ((1 : Int32).toUInt32 &&& Int32.toUInt32 31)).toInt32) &&& 1431655765)) &&& 858993459) + ((((x0 - (((x0.toUInt32 >>> ((1 : Int32).toUInt32 &&& Int32.toUInt32 31)).toInt32) &&& 1431655765)).toUInt32 >>> ((2 : Int32).toUInt32 &&& Int32.toUInt32 31)).toInt32) &&& 858993459)).toUInt32 >>> ((4 : Int32).toUInt32 &&& Int32.toUInt32 31)).toInt32)) &&& 252645135).toUInt32 >>> ((8 : Int32).toUInt32 &&& Int32.toUInt32 31)).toInt32)))]) (by decide) rfl rfl dJ6_bitCount_0f7a4_40 ?_
  refine g_iload_n 0 rfl rfl dJ6_bitCount_0f7a4_41 ?_
  refine g_iload_n 0 rfl rfl dJ6_bitCount_0f7a4_42 ?_
  refine g_bipush (v := 16) (by decide) dJ6_bitCount_0f7a4_43 ?_
  refine g_iushr dJ6_bitCount_0f7a4_45 ?_
  refine g_iadd dJ6_bitCount_0f7a4_46 ?_
  refine g_istore_n (L' := [(0, .int (((((((x0 - (((x0.toUInt32 >>> ((1 : Int32).toUInt32 &&& Int32.toUInt32 31)).toInt32) &&& 1431655765)) &&& 858993459) + ((((x0 - (((x0.toUInt32 >>> ((1 : Int32).toUInt32 &&& Int32.toUInt32 31)).toInt32) &&& 1431655765)).toUInt32 >>> ((2 : Int32).toUInt32 &&& Int32.toUInt32 31)).toInt32) &&& 858993459)) + (((((x0 - (((x0.toUInt32 >>> ((1 : Int32).toUInt32 &&& Int32.toUInt32 31)).toInt32) &&& 1431655765)) &&& 858993459) + ((((x0 - (((x0.toUInt32 >>> ((1 : Int32).toUInt32 &&& Int32.toUInt32 31)).toInt32) &&& 1431655765)).toUInt32 >>> ((2 : Int32).toUInt32 &&& Int32.toUInt32 31)).toInt32) &&& 858993459)).toUInt32 >>> ((4 : Int32).toUInt32 &&& Int32.toUInt32 31)).toInt32)) &&& 252645135) + (((((((x0 - (((x0.toUInt32 >>> ((1 : Int32).toUInt32 &&& Int32.toUInt32 31)).toInt32) &&& 1431655765)) &&& 858993459) + ((((x0 - (((x0.toUInt32 >>> ((1 : Int32).toUInt32 &&& Int32.toUInt32 31)).toInt32) &&& 1431655765)).toUInt32 >>> ((2 : Int32).toUInt32 &&& Int32.toUInt32 31)).toInt32) &&& 858993459)) + (((((x0 - (((x0.toUInt32 >>> ((1 : Int32).toUInt32 &&& Int32.toUInt32 31)).toInt32) &&& 1431655765)) &&& 858993459) + ((((x0 - (((x0.toUInt32 >>> ((1 : Int32).toUInt32 &&& Int32.toUInt32 31)).toInt32) &&& 1431655765)).toUInt32 >>> ((2 : Int32).toUInt32 &&& Int32.toUInt32 31)).toInt32) &&& 858993459)).toUInt32 >>> ((4 : Int32).toUInt32 &&& Int32.toUInt32 31)).toInt32)) &&& 252645135).toUInt32 >>> ((8 : Int32).toUInt32 &&& Int32.toUInt32 31)).toInt32)) + ((((((((x0 - (((x0.toUInt32 >>> ((1 : Int32).toUInt32 &&& Int32.toUInt32 31)).toInt32) &&& 1431655765)) &&& 858993459) + ((((x0 - (((x0.toUInt32 >>> ((1 : Int32).toUInt32 &&& Int32.toUInt32 31)).toInt32) &&& 1431655765)).toUInt32 >>> ((2 : Int32).toUInt32 &&& Int32.toUInt32 31)).toInt32) &&& 858993459)) + (((((x0 - (((x0.toUInt32 >>> ((1 : Int32).toUInt32 &&& Int32.toUInt32 31)).toInt32) &&& 1431655765)) &&& 858993459) + ((((x0 - (((x0.toUInt32 >>> ((1 : Int32).toUInt32 &&& Int32.toUInt32 31)).toInt32) &&& 1431655765)).toUInt32 >>> ((2 : Int32).toUInt32 &&& Int32.toUInt32 31)).toInt32) &&& 858993459)).toUInt32 >>> ((4 : Int32).toUInt32 &&& Int32.toUInt32 31)).toInt32)) &&& 252645135) + (((((((x0 - (((x0.toUInt32 >>> ((1 : Int32).toUInt32 &&& Int32.toUInt32 31)).toInt32) &&& 1431655765)) &&& 858993459) + ((((x0 - (((x0.toUInt32 >>> ((1 : Int32).toUInt32 &&& Int32.toUInt32 31)).toInt32) &&& 1431655765)).toUInt32 >>> ((2 : Int32).toUInt32 &&& Int32.toUInt32 31)).toInt32) &&& 858993459)) + (((((x0 - (((x0.toUInt32 >>> ((1 : Int32).toUInt32 &&& Int32.toUInt32 31)).toInt32) &&& 1431655765)) &&& 858993459) + ((((x0 - (((x0.toUInt32 >>> ((1 : Int32).toUInt32 &&& Int32.toUInt32 31)).toInt32) &&& 1431655765)).toUInt32 >>> ((2 : Int32).toUInt32 &&& Int32.toUInt32 31)).toInt32) &&& 858993459)).toUInt32 >>> ((4 : Int32).toUInt32 &&& Int32.toUInt32 31)).toInt32)) &&& 252645135).toUInt32 >>> ((8 : Int32).toUInt32 &&& Int32.toUInt32 31)).toInt32)).toUInt32 >>> ((16 : Int32).toUInt32 &&& Int32.toUInt32 31)).toInt32)))]) (by decide) rfl rfl dJ6_bitCount_0f7a4_47 ?_
  refine g_iload_n 0 rfl rfl dJ6_bitCount_0f7a4_48 ?_
  refine g_bipush (v := 63) (by decide) dJ6_bitCount_0f7a4_49 ?_
  refine g_iand dJ6_bitCount_0f7a4_51 ?_
  exact g_ireturn rfl (by decide) (by decide) dJ6_bitCount_0f7a4_52 rfl rfl
def fX4_canBeGiven (M : Mem) (x1 : Int32) (x2 : Int32) : RS := bI (fJ6_bitCount_0f7a4 M x2) (fun M1 v2 => if (x1 - v2) < 0 then some (M1, .inr (some (.int 0))) else if ((gi M1 66 2) - (if (gi M1 66 3) < (gi M1 66 2) then (gi M1 66 3) else (gi M1 66 2))) < (x1 - v2) then some (M1, .inr (some (.int 0))) else some (M1, .inr (some (.int 1))))
theorem SX4_canBeGiven (M : Mem) (x1 : Int32) (x2 : Int32) : CTO (1) miX4_canBeGiven 0 0 [.ref 66, .int x1, .int x2] M (fX4_canBeGiven  M x1 x2) := by
  refine CTO.of (by decide) (by simp [lg_sl, Value.category]) ?_
  show GO miX4_canBeGiven (1) 0 0 0 0 0 [(0, .ref 66), (1, .int x1), (2, .int x2)] [] M (bI (fJ6_bitCount_0f7a4 M x2) (fun M1 v2 => if (x1 - v2) < 0 then some (M1, .inr (some (.int 0))) else if ((gi M1 66 2) - (if (gi M1 66 3) < (gi M1 66 2) then (gi M1 66 3) else (gi M1 66 2))) < (x1 - v2) then some (M1, .inr (some (.int 0))) else some (M1, .inr (some (.int 1)))))
  refine g_iload_n 1 rfl rfl dX4_canBeGiven_0 ?_
  refine g_iload_n 2 rfl rfl dX4_canBeGiven_1 ?_
  refine g_callSI (y := miJ6_bitCount_0f7a4) (As := [.int x2]) (rest := [.int x1]) moJ6_bitCount_0f7a4 rfl mlX4_56 (by first | decide | omega) (by decide) (by simp [Value.category]) rfl dX4_canBeGiven_2 (SJ6_bitCount_0f7a4  M x2) (fun M1 v2 => ?_)
  refine g_isub dX4_canBeGiven_5 ?_
  refine g_istore_n (L' := [(3, .int (x1 - v2)), (0, .ref 66), (1, .int x1), (2, .int x2)]) (by decide) rfl rfl dX4_canBeGiven_6 ?_
  refine g_iload_n 0 rfl rfl dX4_canBeGiven_7 ?_
  refine g_if_lt (tgt := 35) rfl dX4_canBeGiven_8 (fun c => ?_) (fun c => ?_)
  · refine g_iconst (v := 0) (by decide) dX4_canBeGiven_35 ?_
    exact g_zreturn rfl (by decide) (by decide) dX4_canBeGiven_36 (by decide)
  · refine g_iload_n 0 rfl rfl dX4_canBeGiven_11 ?_
    refine g_aload_n 1 rfl rfl dX4_canBeGiven_12 ?_
    refine g_getI (k := 2) clX4 kd_66 (by decide) rfl flX4_41 dX4_canBeGiven_13 ?_
    refine g_aload_n 1 rfl rfl dX4_canBeGiven_16 ?_
    refine g_getI (k := 2) clX4 kd_66 (by decide) rfl flX4_41 dX4_canBeGiven_17 ?_
    refine g_aload_n 1 rfl rfl dX4_canBeGiven_20 ?_
    refine g_getI (k := 3) clX4 kd_66 (by decide) rfl flX4_45 dX4_canBeGiven_21 ?_
    refine g_mmin mlX4_35 ms_min mt_Math mc_min (by first | decide | omega) (by decide) (by simp [Value.category]) dX4_canBeGiven_24 ?_
    refine g_isub dX4_canBeGiven_27 ?_
    refine g_icmp_gt (tgt := 35) rfl dX4_canBeGiven_28 (fun c => ?_) (fun c => ?_)
    · refine g_iconst (v := 0) (by decide) dX4_canBeGiven_35 ?_
      exact g_zreturn rfl (by decide) (by decide) dX4_canBeGiven_36 (by decide)
    · refine g_iconst (v := 1) (by decide) dX4_canBeGiven_31 ?_
      refine g_goto (tgt := 36) rfl dX4_canBeGiven_32 ?_
      exact g_zreturn rfl (by decide) (by decide) dX4_canBeGiven_36 (by decide)
def fX4_mostFrom_b113 (rec28 : Mem → Int32 → Int32 → Int32 → Int64 → Int32 → RS) (M : Mem) (x1 : Int32) (x2 : Int32) (x3 : Int32) (x4 : Int64) (x6 : Int32) : RS := rec28 M x1 x2 x3 x4 (x6 + 1)
theorem SX4_mostFrom_b113 (rec28 : Mem → Int32 → Int32 → Int32 → Int64 → Int32 → RS) (hrec28 : ∀ (M : Mem) (x1 : Int32) (x2 : Int32) (x3 : Int32) (x4 : Int64) (x6 : Int32), GO miX4_mostFrom (2) 0 0 0 0 28 [(0, .ref 66), (1, .int x1), (2, .int x2), (3, .int x3), (4, .long x4), (6, .int x6)] [] M (rec28 M x1 x2 x3 x4 x6)) (M : Mem) (x1 : Int32) (x2 : Int32) (x3 : Int32) (x4 : Int64) (x6 : Int32) : GO miX4_mostFrom (2) 0 0 0 0 113 [(0, .ref 66), (1, .int x1), (2, .int x2), (3, .int x3), (4, .long x4), (6, .int x6)] [] M (fX4_mostFrom_b113 rec28 M x1 x2 x3 x4 x6) := by
  show GO miX4_mostFrom (2) 0 0 0 0 113 [(0, .ref 66), (1, .int x1), (2, .int x2), (3, .int x3), (4, .long x4), (6, .int x6)] [] M (rec28 M x1 x2 x3 x4 (x6 + 1))
  refine g_iinc (v := x6 + 1) (L' := [(6, .int (x6 + 1)), (0, .ref 66), (1, .int x1), (2, .int x2), (3, .int x3), (4, .long x4)]) 5 rfl rfl (by decide) rfl dX4_mostFrom_113 ?_
  refine g_goto (tgt := 28) rfl dX4_mostFrom_116 ?_
  exact GO.pick [1, 2, 3, 4, 5, 0] rfl <| hrec28 M x1 x2 x3 x4 (x6 + 1)
def fX4_mostFrom_b108 (rec28 : Mem → Int32 → Int32 → Int32 → Int64 → Int32 → RS) (M : Mem) (x1 : Int32) (x2 : Int32) (x3 : Int32) (x6 : Int32) (s0 : Int64) (s1 : Int64) : RS := fX4_mostFrom_b113 rec28 M x1 x2 x3 (if s0 < s1 then s1 else s0) x6
theorem SX4_mostFrom_b108 (rec28 : Mem → Int32 → Int32 → Int32 → Int64 → Int32 → RS) (hrec28 : ∀ (M : Mem) (x1 : Int32) (x2 : Int32) (x3 : Int32) (x4 : Int64) (x6 : Int32), GO miX4_mostFrom (2) 0 0 0 0 28 [(0, .ref 66), (1, .int x1), (2, .int x2), (3, .int x3), (4, .long x4), (6, .int x6)] [] M (rec28 M x1 x2 x3 x4 x6)) (M : Mem) (x1 : Int32) (x2 : Int32) (x3 : Int32) (x6 : Int32) (s0 : Int64) (s1 : Int64) : GO miX4_mostFrom (2) 0 0 0 0 108 [(0, .ref 66), (1, .int x1), (2, .int x2), (3, .int x3), (6, .int x6)] [.long s0, .long s1] M (fX4_mostFrom_b108 rec28 M x1 x2 x3 x6 s0 s1) := by
  show GO miX4_mostFrom (2) 0 0 0 0 108 [(0, .ref 66), (1, .int x1), (2, .int x2), (3, .int x3), (6, .int x6)] [.long s0, .long s1] M (fX4_mostFrom_b113 rec28 M x1 x2 x3 (if s0 < s1 then s1 else s0) x6)
  refine g_mmaxl mlX4_75 ms_maxl mt_Math mc_maxl (by first | decide | omega) (by decide) (by simp [Value.category]) dX4_mostFrom_108 ?_
  refine g_lstore (L' := [(4, .long (if s0 < s1 then s1 else s0)), (0, .ref 66), (1, .int x1), (2, .int x2), (3, .int x3), (6, .int x6)]) (by decide) rfl dX4_mostFrom_111 ?_
  exact GO.pick [1, 2, 3, 4, 0, 5] rfl <| SX4_mostFrom_b113  rec28 hrec28 M x1 x2 x3 (if s0 < s1 then s1 else s0) x6
def fX4_mostFrom_b28 : Nat → Mem → Int32 → Int32 → Int32 → Int64 → Int32 → RS
  | 0 => fun _ _ _ _ _ _ => none
  | n + 1 => fun M x1 x2 x3 x4 x6 => if x6 < (gi M 66 3) then if ((x2 >>> (x6 &&& 31)) &&& 1) = 0 then chk (inb (x1 + 1) 9) (chk (inb (x2 ||| ((1 : Int32) <<< (x6 &&& 31))) 512) (if (lg_cmp (gl M (77 + ix (x1 + 1)) (ix (x2 ||| ((1 : Int32) <<< (x6 &&& 31))))) (-9223372036854775808)) = 0 then fX4_mostFrom_b113 (fX4_mostFrom_b28 n) M x1 x2 x3 x4 x6 else chk (inb x1 8) (chk (inb x6 9) (if x3 = 0 then fX4_mostFrom_b108 (fX4_mostFrom_b28 n) M x1 x2 x3 x6 ((Int32.toInt64 (gi M (68 + ix x1) (ix x6))) + (gl M (77 + ix (x1 + 1)) (ix (x2 ||| ((1 : Int32) <<< (x6 &&& 31)))))) x4 else fX4_mostFrom_b108 (fX4_mostFrom_b28 n) M x1 x2 x3 x6 (if (gl M (77 + ix (x1 + 1)) (ix (x2 ||| ((1 : Int32) <<< (x6 &&& 31))))) < (Int32.toInt64 (gi M (68 + ix x1) (ix x6))) then (gl M (77 + ix (x1 + 1)) (ix (x2 ||| ((1 : Int32) <<< (x6 &&& 31))))) else (Int32.toInt64 (gi M (68 + ix x1) (ix x6)))) x4)))) else fX4_mostFrom_b113 (fX4_mostFrom_b28 n) M x1 x2 x3 x4 x6 else some (M, .inr (some (.long x4)))
theorem SX4_mostFrom_b28 (n : Nat) : ∀ (M : Mem) (x1 : Int32) (x2 : Int32) (x3 : Int32) (x4 : Int64) (x6 : Int32), GO miX4_mostFrom (2) 0 0 0 0 28 [(0, .ref 66), (1, .int x1), (2, .int x2), (3, .int x3), (4, .long x4), (6, .int x6)] [] M (fX4_mostFrom_b28 n M x1 x2 x3 x4 x6) := by
  induction n with
  | zero => intro M x1 x2 x3 x4 x6 ; exact GO.none
  | succ n hrec28 =>
    intro M x1 x2 x3 x4 x6 
    show GO miX4_mostFrom (2) 0 0 0 0 28 [(0, .ref 66), (1, .int x1), (2, .int x2), (3, .int x3), (4, .long x4), (6, .int x6)] [] M (if x6 < (gi M 66 3) then if ((x2 >>> (x6 &&& 31)) &&& 1) = 0 then chk (inb (x1 + 1) 9) (chk (inb (x2 ||| ((1 : Int32) <<< (x6 &&& 31))) 512) (if (lg_cmp (gl M (77 + ix (x1 + 1)) (ix (x2 ||| ((1 : Int32) <<< (x6 &&& 31))))) (-9223372036854775808)) = 0 then fX4_mostFrom_b113 (fX4_mostFrom_b28 n) M x1 x2 x3 x4 x6 else chk (inb x1 8) (chk (inb x6 9) (if x3 = 0 then fX4_mostFrom_b108 (fX4_mostFrom_b28 n) M x1 x2 x3 x6 ((Int32.toInt64 (gi M (68 + ix x1) (ix x6))) + (gl M (77 + ix (x1 + 1)) (ix (x2 ||| ((1 : Int32) <<< (x6 &&& 31)))))) x4 else fX4_mostFrom_b108 (fX4_mostFrom_b28 n) M x1 x2 x3 x6 (if (gl M (77 + ix (x1 + 1)) (ix (x2 ||| ((1 : Int32) <<< (x6 &&& 31))))) < (Int32.toInt64 (gi M (68 + ix x1) (ix x6))) then (gl M (77 + ix (x1 + 1)) (ix (x2 ||| ((1 : Int32) <<< (x6 &&& 31))))) else (Int32.toInt64 (gi M (68 + ix x1) (ix x6)))) x4)))) else fX4_mostFrom_b113 (fX4_mostFrom_b28 n) M x1 x2 x3 x4 x6 else some (M, .inr (some (.long x4))))
    refine g_iload 5 rfl dX4_mostFrom_28 ?_
    refine g_aload_n 0 rfl rfl dX4_mostFrom_30 ?_
    refine g_getI (k := 3) clX4 kd_66 (by decide) rfl flX4_45 dX4_mostFrom_31 ?_
    refine g_icmp_ge (tgt := 119) rfl dX4_mostFrom_34 (fun c => ?_) (fun c => ?_)
    · refine g_lload 4 rfl dX4_mostFrom_119 ?_
      exact g_lreturn rfl (by decide) (by decide) dX4_mostFrom_121
    · refine g_iload_n 2 rfl rfl dX4_mostFrom_37 ?_
      refine g_iload 5 rfl dX4_mostFrom_38 ?_
      refine g_ishr dX4_mostFrom_40 ?_
      refine g_iconst (v := 1) (by decide) dX4_mostFrom_41 ?_
      refine g_iand dX4_mostFrom_42 ?_
      refine g_if_eq (tgt := 49) rfl dX4_mostFrom_43 (fun c => ?_) (fun c => ?_)
      · refine g_aload_n 0 rfl rfl dX4_mostFrom_49 ?_
        refine g_getR (k := 1) (b := 76) clX4 kd_66 (by decide) rfl rfl flX4_20 dX4_mostFrom_50 ?_
        refine g_iload_n 1 rfl rfl dX4_mostFrom_53 ?_
        refine g_iconst (v := 1) (by decide) dX4_mostFrom_54 ?_
        refine g_iadd dX4_mostFrom_55 ?_
        refine GO.chk fun hi5 => ?_
        refine g_aald (b := 77 + ix (x1 + 1)) (cel_ll kd_76) (by decide) (fun _ => rfl) rfl rfl dX4_mostFrom_56 hi5 ?_
        refine g_iload_n 2 rfl rfl dX4_mostFrom_57 ?_
        refine g_iconst (v := 1) (by decide) dX4_mostFrom_58 ?_
        refine g_iload 5 rfl dX4_mostFrom_59 ?_
        refine g_ishl dX4_mostFrom_61 ?_
        refine g_ior dX4_mostFrom_62 ?_
        refine g_lald (kw_77 hi5) dX4_mostFrom_63 (fun hi6 => ?_)
        refine g_lstore (L' := [(7, .long (gl M (77 + ix (x1 + 1)) (ix (x2 ||| ((1 : Int32) <<< (x6 &&& 31)))))), (0, .ref 66), (1, .int x1), (2, .int x2), (3, .int x3), (4, .long x4), (6, .int x6)]) (by decide) rfl dX4_mostFrom_64 ?_
        refine g_lload 0 rfl dX4_mostFrom_66 ?_
        refine g_ldc2 (v := (-9223372036854775808)) coX4_62 dX4_mostFrom_68 ?_
        refine g_lcmp dX4_mostFrom_71 ?_
        refine g_if_eq (tgt := 113) rfl dX4_mostFrom_72 (fun c => ?_) (fun c => ?_)
        · exact GO.pick [1, 2, 3, 4, 5, 6] rfl <| SX4_mostFrom_b113  (fX4_mostFrom_b28 n) hrec28 M x1 x2 x3 x4 x6
        · refine g_aload_n 1 rfl rfl dX4_mostFrom_75 ?_
          refine g_getR (k := 0) (b := 67) clX4 kd_66 (by decide) rfl rfl flX4_13 dX4_mostFrom_76 ?_
          refine g_iload_n 2 rfl rfl dX4_mostFrom_79 ?_
          refine GO.chk fun hi7 => ?_
          refine g_aald (b := 68 + ix x1) (cel_ii kd_67) (by decide) (fun _ => rfl) rfl rfl dX4_mostFrom_80 hi7 ?_
          refine g_iload 6 rfl dX4_mostFrom_81 ?_
          refine g_ald (kw_68 hi7) dX4_mostFrom_83 (fun hi8 => ?_)
          refine g_i2l dX4_mostFrom_84 ?_
          refine g_lstore (L' := [(9, .long (Int32.toInt64 (gi M (68 + ix x1) (ix x6)))), (7, .long (gl M (77 + ix (x1 + 1)) (ix (x2 ||| ((1 : Int32) <<< (x6 &&& 31)))))), (0, .ref 66), (1, .int x1), (2, .int x2), (3, .int x3), (4, .long x4), (6, .int x6)]) (by decide) rfl dX4_mostFrom_85 ?_
          refine g_lload 6 rfl dX4_mostFrom_87 ?_
          refine g_iload_n 5 rfl rfl dX4_mostFrom_89 ?_
          refine g_if_eq (tgt := 103) rfl dX4_mostFrom_90 (fun c => ?_) (fun c => ?_)
          · refine g_lload 0 rfl dX4_mostFrom_103 ?_
            refine g_lload 1 rfl dX4_mostFrom_105 ?_
            refine g_ladd dX4_mostFrom_107 ?_
            exact GO.pick [2, 3, 4, 5, 7] rfl <| SX4_mostFrom_b108  (fX4_mostFrom_b28 n) hrec28 M x1 x2 x3 x6 ((Int32.toInt64 (gi M (68 + ix x1) (ix x6))) + (gl M (77 + ix (x1 + 1)) (ix (x2 ||| ((1 : Int32) <<< (x6 &&& 31)))))) x4
          · refine g_lload 0 rfl dX4_mostFrom_93 ?_
            refine g_lload 1 rfl dX4_mostFrom_95 ?_
            refine g_mminl mlX4_72 ms_minl mt_Math mc_minl (by first | decide | omega) (by decide) (by simp [Value.category]) dX4_mostFrom_97 ?_
            refine g_goto (tgt := 108) rfl dX4_mostFrom_100 ?_
            exact GO.pick [2, 3, 4, 5, 7] rfl <| SX4_mostFrom_b108  (fX4_mostFrom_b28 n) hrec28 M x1 x2 x3 x6 (if (gl M (77 + ix (x1 + 1)) (ix (x2 ||| ((1 : Int32) <<< (x6 &&& 31))))) < (Int32.toInt64 (gi M (68 + ix x1) (ix x6))) then (gl M (77 + ix (x1 + 1)) (ix (x2 ||| ((1 : Int32) <<< (x6 &&& 31))))) else (Int32.toInt64 (gi M (68 + ix x1) (ix x6)))) x4
      · refine g_goto (tgt := 113) rfl dX4_mostFrom_46 ?_
        exact GO.pick [0, 1, 2, 3, 4, 5] rfl <| SX4_mostFrom_b113  (fX4_mostFrom_b28 n) hrec28 M x1 x2 x3 x4 x6
def fX4_mostFrom (M : Mem) (x1 : Int32) (x2 : Int32) (x3 : Int32) : RS := bI (fX4_canBeGiven M x1 x2) (fun M1 v2 => if v2 = 0 then some (M1, .inr (some (.long (-9223372036854775808)))) else chk (inb (x1 + 1) 9) (chk (inb x2 512) (fX4_mostFrom_b28  FU M1 x1 x2 x3 (gl M1 (77 + ix (x1 + 1)) (ix x2)) 0)))
theorem SX4_mostFrom (M : Mem) (x1 : Int32) (x2 : Int32) (x3 : Int32) : CTO (2) miX4_mostFrom 0 0 [.ref 66, .int x1, .int x2, .int x3] M (fX4_mostFrom  M x1 x2 x3) := by
  refine CTO.of (by decide) (by simp [lg_sl, Value.category]) ?_
  show GO miX4_mostFrom (2) 0 0 0 0 0 [(0, .ref 66), (1, .int x1), (2, .int x2), (3, .int x3)] [] M (bI (fX4_canBeGiven M x1 x2) (fun M1 v2 => if v2 = 0 then some (M1, .inr (some (.long (-9223372036854775808)))) else chk (inb (x1 + 1) 9) (chk (inb x2 512) (fX4_mostFrom_b28  FU M1 x1 x2 x3 (gl M1 (77 + ix (x1 + 1)) (ix x2)) 0))))
  refine g_aload_n 0 rfl rfl dX4_mostFrom_0 ?_
  refine g_iload_n 1 rfl rfl dX4_mostFrom_1 ?_
  refine g_iload_n 2 rfl rfl dX4_mostFrom_2 ?_
  refine g_callVI (y := miX4_canBeGiven) (As := [.int x1, .int x2]) (rest := []) clX4 kd_66 rfl moX4_canBeGiven rfl mlX4_68 (by first | decide | omega) (by decide) (by simp [Value.category]) rfl dX4_mostFrom_3 (SX4_canBeGiven  M x1 x2) (fun M1 v2 => ?_)
  refine g_if_ne (tgt := 13) rfl dX4_mostFrom_6 (fun c => ?_) (fun c => ?_)
  · refine g_aload_n 0 rfl rfl dX4_mostFrom_13 ?_
    refine g_getR (k := 1) (b := 76) clX4 kd_66 (by decide) rfl rfl flX4_20 dX4_mostFrom_14 ?_
    refine g_iload_n 1 rfl rfl dX4_mostFrom_17 ?_
    refine g_iconst (v := 1) (by decide) dX4_mostFrom_18 ?_
    refine g_iadd dX4_mostFrom_19 ?_
    refine GO.chk fun hi3 => ?_
    refine g_aald (b := 77 + ix (x1 + 1)) (cel_ll kd_76) (by decide) (fun _ => rfl) rfl rfl dX4_mostFrom_20 hi3 ?_
    refine g_iload_n 2 rfl rfl dX4_mostFrom_21 ?_
    refine g_lald (kw_77 hi3) dX4_mostFrom_22 (fun hi4 => ?_)
    refine g_lstore (L' := [(4, .long (gl M1 (77 + ix (x1 + 1)) (ix x2))), (0, .ref 66), (1, .int x1), (2, .int x2), (3, .int x3)]) (by decide) rfl dX4_mostFrom_23 ?_
    refine g_iconst (v := 0) (by decide) dX4_mostFrom_25 ?_
    refine g_istore (L' := [(6, .int 0), (4, .long (gl M1 (77 + ix (x1 + 1)) (ix x2))), (0, .ref 66), (1, .int x1), (2, .int x2), (3, .int x3)]) (by decide) rfl dX4_mostFrom_26 ?_
    exact GO.pick [2, 3, 4, 5, 1, 0] rfl <| SX4_mostFrom_b28  FU M1 x1 x2 x3 (gl M1 (77 + ix (x1 + 1)) (ix x2)) 0
  · refine g_ldc2 (v := (-9223372036854775808)) coX4_62 dX4_mostFrom_9 ?_
    exact g_lreturn rfl (by decide) (by decide) dX4_mostFrom_12
def fX4_fill_b65 (rec27 : Mem → Int32 → Int32 → Int64 → Int32 → RS) (M : Mem) (x1 : Int32) (x2 : Int32) (x3 : Int64) (x5 : Int32) (s0 : Int64) (s1 : Int32) (s2 : Nat) : RS := chk (inb s1 512) (wr (sl M s2 (ix s1) s0) (fun M5 => rec27 M5 x1 x2 x3 (x5 + 1)))
theorem SX4_fill_b65 (rec27 : Mem → Int32 → Int32 → Int64 → Int32 → RS) (hrec27 : ∀ (M : Mem) (x1 : Int32) (x2 : Int32) (x3 : Int64) (x5 : Int32), GO miX4_fill (3) 0 0 0 0 27 [(0, .ref 66), (1, .int x1), (2, .int x2), (3, .long x3), (5, .int x5)] [] M (rec27 M x1 x2 x3 x5)) (M : Mem) (x1 : Int32) (x2 : Int32) (x3 : Int64) (x5 : Int32) (s0 : Int64) (s1 : Int32) (s2 : Nat) (hs2 : kd s2 = (22, 512)) : GO miX4_fill (3) 0 0 0 0 65 [(0, .ref 66), (1, .int x1), (2, .int x2), (3, .long x3), (5, .int x5)] [.long s0, .int s1, .ref s2] M (fX4_fill_b65 rec27 M x1 x2 x3 x5 s0 s1 s2) := by
  show GO miX4_fill (3) 0 0 0 0 65 [(0, .ref 66), (1, .int x1), (2, .int x2), (3, .long x3), (5, .int x5)] [.long s0, .int s1, .ref s2] M (chk (inb s1 512) (wr (sl M s2 (ix s1) s0) (fun M5 => rec27 M5 x1 x2 x3 (x5 + 1))))
  refine g_last hs2 dX4_fill_65 (fun hi4 => ?_)
  refine GO.wr (fun M5 => ?_)
  refine g_iinc (v := x5 + 1) (L' := [(5, .int (x5 + 1)), (0, .ref 66), (1, .int x1), (2, .int x2), (3, .long x3)]) 4 rfl rfl (by decide) rfl dX4_fill_66 ?_
  refine g_goto (tgt := 27) rfl dX4_fill_69 ?_
  exact GO.pick [1, 2, 3, 4, 0] rfl <| hrec27 M5 x1 x2 x3 (x5 + 1)
def fX4_fill_b88 (rec80 : Mem → Int32 → Int32 → RS) : Nat → Mem → Int32 → Int32 → Int32 → RS
  | 0 => fun _ _ _ _ => none
  | n + 1 => fun M x1 x5 x6 => if x6 < ((1 : Int32) <<< ((gi M 66 3) &&& 31)) then chk (inb x5 9) (bL (fX4_mostFrom M x5 x6 x1) (fun M7 v8 => chk (inb x6 512) (wr (sl M7 (77 + ix x5) (ix x6) v8) (fun M10 => (fX4_fill_b88 rec80 n) M10 x1 x5 (x6 + 1))))) else rec80 M x1 (x5 + (-1))
theorem SX4_fill_b88 (rec80 : Mem → Int32 → Int32 → RS) (hrec80 : ∀ (M : Mem) (x1 : Int32) (x5 : Int32), GO miX4_fill (3) 0 0 0 0 80 [(0, .ref 66), (1, .int x1), (5, .int x5)] [] M (rec80 M x1 x5)) (n : Nat) : ∀ (M : Mem) (x1 : Int32) (x5 : Int32) (x6 : Int32), GO miX4_fill (3) 0 0 0 0 88 [(0, .ref 66), (1, .int x1), (5, .int x5), (6, .int x6)] [] M (fX4_fill_b88 rec80 n M x1 x5 x6) := by
  induction n with
  | zero => intro M x1 x5 x6 ; exact GO.none
  | succ n hrec88 =>
    intro M x1 x5 x6 
    show GO miX4_fill (3) 0 0 0 0 88 [(0, .ref 66), (1, .int x1), (5, .int x5), (6, .int x6)] [] M (if x6 < ((1 : Int32) <<< ((gi M 66 3) &&& 31)) then chk (inb x5 9) (bL (fX4_mostFrom M x5 x6 x1) (fun M7 v8 => chk (inb x6 512) (wr (sl M7 (77 + ix x5) (ix x6) v8) (fun M10 => (fX4_fill_b88 rec80 n) M10 x1 x5 (x6 + 1))))) else rec80 M x1 (x5 + (-1)))
    refine g_iload 3 rfl dX4_fill_88 ?_
    refine g_iconst (v := 1) (by decide) dX4_fill_90 ?_
    refine g_aload_n 0 rfl rfl dX4_fill_91 ?_
    refine g_getI (k := 3) clX4 kd_66 (by decide) rfl flX4_45 dX4_fill_92 ?_
    refine g_ishl dX4_fill_95 ?_
    refine g_icmp_ge (tgt := 124) rfl dX4_fill_96 (fun c => ?_) (fun c => ?_)
    · refine g_iinc (v := x5 + (-1)) (L' := [(5, .int (x5 + (-1))), (0, .ref 66), (1, .int x1), (6, .int x6)]) 2 rfl (congrArg _ (by decide)) (by decide) rfl dX4_fill_124 ?_
      refine g_goto (tgt := 80) rfl dX4_fill_127 ?_
      exact GO.pick [1, 2, 0] rfl <| hrec80 M x1 (x5 + (-1))
    · refine g_aload_n 0 rfl rfl dX4_fill_99 ?_
      refine g_getR (k := 1) (b := 76) clX4 kd_66 (by decide) rfl rfl flX4_20 dX4_fill_100 ?_
      refine g_iload 2 rfl dX4_fill_103 ?_
      refine GO.chk fun hi6 => ?_
      refine g_aald (b := 77 + ix x5) (cel_ll kd_76) (by decide) (fun _ => rfl) rfl rfl dX4_fill_105 hi6 ?_
      refine g_iload 3 rfl dX4_fill_106 ?_
      refine g_aload_n 0 rfl rfl dX4_fill_108 ?_
      refine g_iload 2 rfl dX4_fill_109 ?_
      refine g_iload 3 rfl dX4_fill_111 ?_
      refine g_iload_n 1 rfl rfl dX4_fill_113 ?_
      refine g_callVL (y := miX4_mostFrom) (As := [.int x5, .int x6, .int x1]) (rest := [.int x6, .ref (77 + ix x5)]) clX4 kd_66 rfl moX4_mostFrom rfl mlX4_64 (by first | decide | omega) (by decide) (by simp [Value.category]) rfl dX4_fill_114 (SX4_mostFrom  M x5 x6 x1) (fun M7 v8 => ?_)
      refine g_last (kw_77 hi6) dX4_fill_117 (fun hi9 => ?_)
      refine GO.wr (fun M10 => ?_)
      refine g_iinc (v := x6 + 1) (L' := [(6, .int (x6 + 1)), (0, .ref 66), (1, .int x1), (5, .int x5)]) 3 rfl rfl (by decide) rfl dX4_fill_118 ?_
      refine g_goto (tgt := 88) rfl dX4_fill_121 ?_
      exact GO.pick [1, 2, 3, 0] rfl <| hrec88 M10 x1 x5 (x6 + 1)
def fX4_fill_b80 : Nat → Mem → Int32 → Int32 → RS
  | 0 => fun _ _ _ => none
  | n + 1 => fun M x1 x5 => if x5 < 0 then some (M, .inr none) else fX4_fill_b88 (fX4_fill_b80 n) FU M x1 x5 0
theorem SX4_fill_b80 (n : Nat) : ∀ (M : Mem) (x1 : Int32) (x5 : Int32), GO miX4_fill (3) 0 0 0 0 80 [(0, .ref 66), (1, .int x1), (5, .int x5)] [] M (fX4_fill_b80 n M x1 x5) := by
  induction n with
  | zero => intro M x1 x5 ; exact GO.none
  | succ n hrec80 =>
    intro M x1 x5 
    show GO miX4_fill (3) 0 0 0 0 80 [(0, .ref 66), (1, .int x1), (5, .int x5)] [] M (if x5 < 0 then some (M, .inr none) else fX4_fill_b88 (fX4_fill_b80 n) FU M x1 x5 0)
    refine g_iload 2 rfl dX4_fill_80 ?_
    refine g_if_lt (tgt := 130) rfl dX4_fill_82 (fun c => ?_) (fun c => ?_)
    · exact g_vreturn rfl (by decide) (by decide) dX4_fill_130
    · refine g_iconst (v := 0) (by decide) dX4_fill_85 ?_
      refine g_istore (L' := [(6, .int 0), (0, .ref 66), (1, .int x1), (5, .int x5)]) (by decide) rfl dX4_fill_86 ?_
      exact GO.pick [1, 2, 3, 0] rfl <| SX4_fill_b88  (fX4_fill_b80 n) hrec80 FU M x1 x5 0
def fX4_fill_b27 : Nat → Mem → Int32 → Int32 → Int64 → Int32 → RS
  | 0 => fun _ _ _ _ _ => none
  | n + 1 => fun M x1 x2 x3 x5 => if x5 < ((1 : Int32) <<< ((gi M 66 3) &&& 31)) then chk (inb (gi M 66 2) 9) (bI (fJ6_bitCount_0f7a4 M x5) (fun M2 v3 => if v3 = x2 then fX4_fill_b65 (fX4_fill_b27 n) M2 x1 x2 x3 x5 x3 x5 (77 + ix (gi M 66 2)) else fX4_fill_b65 (fX4_fill_b27 n) M2 x1 x2 x3 x5 (-9223372036854775808) x5 (77 + ix (gi M 66 2)))) else fX4_fill_b80  FU M x1 ((gi M 66 2) - 1)
theorem SX4_fill_b27 (n : Nat) : ∀ (M : Mem) (x1 : Int32) (x2 : Int32) (x3 : Int64) (x5 : Int32), GO miX4_fill (3) 0 0 0 0 27 [(0, .ref 66), (1, .int x1), (2, .int x2), (3, .long x3), (5, .int x5)] [] M (fX4_fill_b27 n M x1 x2 x3 x5) := by
  induction n with
  | zero => intro M x1 x2 x3 x5 ; exact GO.none
  | succ n hrec27 =>
    intro M x1 x2 x3 x5 
    show GO miX4_fill (3) 0 0 0 0 27 [(0, .ref 66), (1, .int x1), (2, .int x2), (3, .long x3), (5, .int x5)] [] M (if x5 < ((1 : Int32) <<< ((gi M 66 3) &&& 31)) then chk (inb (gi M 66 2) 9) (bI (fJ6_bitCount_0f7a4 M x5) (fun M2 v3 => if v3 = x2 then fX4_fill_b65 (fX4_fill_b27 n) M2 x1 x2 x3 x5 x3 x5 (77 + ix (gi M 66 2)) else fX4_fill_b65 (fX4_fill_b27 n) M2 x1 x2 x3 x5 (-9223372036854775808) x5 (77 + ix (gi M 66 2)))) else fX4_fill_b80  FU M x1 ((gi M 66 2) - 1))
    refine g_iload 4 rfl dX4_fill_27 ?_
    refine g_iconst (v := 1) (by decide) dX4_fill_29 ?_
    refine g_aload_n 0 rfl rfl dX4_fill_30 ?_
    refine g_getI (k := 3) clX4 kd_66 (by decide) rfl flX4_45 dX4_fill_31 ?_
    refine g_ishl dX4_fill_34 ?_
    refine g_icmp_ge (tgt := 72) rfl dX4_fill_35 (fun c => ?_) (fun c => ?_)
    · refine g_aload_n 0 rfl rfl dX4_fill_72 ?_
      refine g_getI (k := 2) clX4 kd_66 (by decide) rfl flX4_41 dX4_fill_73 ?_
      refine g_iconst (v := 1) (by decide) dX4_fill_76 ?_
      refine g_isub dX4_fill_77 ?_
      refine g_istore (L' := [(5, .int ((gi M 66 2) - 1)), (0, .ref 66), (1, .int x1), (2, .int x2), (3, .long x3)]) (by decide) rfl dX4_fill_78 ?_
      exact GO.pick [1, 2, 0] rfl <| SX4_fill_b80  FU M x1 ((gi M 66 2) - 1)
    · refine g_aload_n 0 rfl rfl dX4_fill_38 ?_
      refine g_getR (k := 1) (b := 76) clX4 kd_66 (by decide) rfl rfl flX4_20 dX4_fill_39 ?_
      refine g_aload_n 0 rfl rfl dX4_fill_42 ?_
      refine g_getI (k := 2) clX4 kd_66 (by decide) rfl flX4_41 dX4_fill_43 ?_
      refine GO.chk fun hi1 => ?_
      refine g_aald (b := 77 + ix (gi M 66 2)) (cel_ll kd_76) (by decide) (fun _ => rfl) rfl rfl dX4_fill_46 hi1 ?_
      refine g_iload 4 rfl dX4_fill_47 ?_
      refine g_iload 4 rfl dX4_fill_49 ?_
      refine g_callSI (y := miJ6_bitCount_0f7a4) (As := [.int x5]) (rest := [.int x5, .ref (77 + ix (gi M 66 2))]) moJ6_bitCount_0f7a4 rfl mlX4_56 (by first | decide | omega) (by decide) (by simp [Value.category]) rfl dX4_fill_51 (SJ6_bitCount_0f7a4  M x5) (fun M2 v3 => ?_)
      refine g_iload_n 2 rfl rfl dX4_fill_54 ?_
      refine g_icmp_ne (tgt := 62) rfl dX4_fill_55 (fun c => ?_) (fun c => ?_)
      · refine g_ldc2 (v := (-9223372036854775808)) coX4_62 dX4_fill_62 ?_
        exact GO.pick [0, 1, 2, 3, 4] rfl <| SX4_fill_b65  (fX4_fill_b27 n) hrec27 M2 x1 x2 x3 x5 (-9223372036854775808) x5 (77 + ix (gi M 66 2)) (kw_77 hi1)
      · refine g_lload_n 3 rfl rfl dX4_fill_58 ?_
        refine g_goto (tgt := 65) rfl dX4_fill_59 ?_
        exact GO.pick [0, 1, 2, 3, 4] rfl <| SX4_fill_b65  (fX4_fill_b27 n) hrec27 M2 x1 x2 x3 x5 x3 x5 (77 + ix (gi M 66 2)) (kw_77 hi1)
def fX4_fill_b23 (M : Mem) (x1 : Int32) (x2 : Int32) (s0 : Int64) : RS := fX4_fill_b27  FU M x1 x2 s0 0
theorem SX4_fill_b23 (M : Mem) (x1 : Int32) (x2 : Int32) (s0 : Int64) : GO miX4_fill (3) 0 0 0 0 23 [(0, .ref 66), (1, .int x1), (2, .int x2)] [.long s0] M (fX4_fill_b23 M x1 x2 s0) := by
  show GO miX4_fill (3) 0 0 0 0 23 [(0, .ref 66), (1, .int x1), (2, .int x2)] [.long s0] M (fX4_fill_b27  FU M x1 x2 s0 0)
  refine g_lstore_n (L' := [(3, .long s0), (0, .ref 66), (1, .int x1), (2, .int x2)]) (by decide) rfl rfl dX4_fill_23 ?_
  refine g_iconst (v := 0) (by decide) dX4_fill_24 ?_
  refine g_istore (L' := [(5, .int 0), (3, .long s0), (0, .ref 66), (1, .int x1), (2, .int x2)]) (by decide) rfl dX4_fill_25 ?_
  exact GO.pick [2, 3, 4, 1, 0] rfl <| SX4_fill_b27  FU M x1 x2 s0 0
def fX4_fill (M : Mem) (x1 : Int32) : RS := if x1 = 0 then fX4_fill_b23  M x1 (if (gi M 66 3) < (gi M 66 2) then (gi M 66 3) else (gi M 66 2)) 0 else fX4_fill_b23  M x1 (if (gi M 66 3) < (gi M 66 2) then (gi M 66 3) else (gi M 66 2)) 9223372036854775807
theorem SX4_fill (M : Mem) (x1 : Int32) : CTO (3) miX4_fill 0 0 [.ref 66, .int x1] M (fX4_fill  M x1) := by
  refine CTO.of (by decide) (by simp [lg_sl, Value.category]) ?_
  show GO miX4_fill (3) 0 0 0 0 0 [(0, .ref 66), (1, .int x1)] [] M (if x1 = 0 then fX4_fill_b23  M x1 (if (gi M 66 3) < (gi M 66 2) then (gi M 66 3) else (gi M 66 2)) 0 else fX4_fill_b23  M x1 (if (gi M 66 3) < (gi M 66 2) then (gi M 66 3) else (gi M 66 2)) 9223372036854775807)
  refine g_aload_n 0 rfl rfl dX4_fill_0 ?_
  refine g_getI (k := 2) clX4 kd_66 (by decide) rfl flX4_41 dX4_fill_1 ?_
  refine g_aload_n 0 rfl rfl dX4_fill_4 ?_
  refine g_getI (k := 3) clX4 kd_66 (by decide) rfl flX4_45 dX4_fill_5 ?_
  refine g_mmin mlX4_35 ms_min mt_Math mc_min (by first | decide | omega) (by decide) (by simp [Value.category]) dX4_fill_8 ?_
  refine g_istore_n (L' := [(2, .int (if (gi M 66 3) < (gi M 66 2) then (gi M 66 3) else (gi M 66 2))), (0, .ref 66), (1, .int x1)]) (by decide) rfl rfl dX4_fill_11 ?_
  refine g_iload_n 2 rfl rfl dX4_fill_12 ?_
  refine g_if_eq (tgt := 22) rfl dX4_fill_13 (fun c => ?_) (fun c => ?_)
  · refine g_lconst (v := 0) (by decide) dX4_fill_22 ?_
    exact GO.pick [1, 2, 0] rfl <| SX4_fill_b23  M x1 (if (gi M 66 3) < (gi M 66 2) then (gi M 66 3) else (gi M 66 2)) 0
  · refine g_ldc2 (v := 9223372036854775807) coX4_54 dX4_fill_16 ?_
    refine g_goto (tgt := 23) rfl dX4_fill_19 ?_
    exact GO.pick [1, 2, 0] rfl <| SX4_fill_b23  M x1 (if (gi M 66 3) < (gi M 66 2) then (gi M 66 3) else (gi M 66 2)) 9223372036854775807
def fX4_mostTogether (M : Mem)  : RS := bV (fX4_fill M 0) (fun M1 => chk (inb 0 9) (some (M1, .inr (some (.long (gl M1 (77 + ix 0) 0))))))
theorem SX4_mostTogether (M : Mem)  : CTO (4) miX4_mostTogether 0 0 [.ref 66] M (fX4_mostTogether  M ) := by
  refine CTO.of (by decide) (by simp [lg_sl, Value.category]) ?_
  show GO miX4_mostTogether (4) 0 0 0 0 0 [(0, .ref 66)] [] M (bV (fX4_fill M 0) (fun M1 => chk (inb 0 9) (some (M1, .inr (some (.long (gl M1 (77 + ix 0) 0)))))))
  refine g_aload_n 0 rfl rfl dX4_mostTogether_0 ?_
  refine g_iconst (v := 0) (by decide) dX4_mostTogether_1 ?_
  refine g_callVV (y := miX4_fill) (As := [.int 0]) (rest := []) clX4 kd_66 rfl moX4_fill rfl mlX4_50 (by first | decide | omega) (by decide) (by simp [Value.category]) rfl dX4_mostTogether_2 (SX4_fill  M 0) (fun M1 => ?_)
  refine g_aload_n 0 rfl rfl dX4_mostTogether_5 ?_
  refine g_getR (k := 1) (b := 76) clX4 kd_66 (by decide) rfl rfl flX4_20 dX4_mostTogether_6 ?_
  refine g_iconst (v := 0) (by decide) dX4_mostTogether_9 ?_
  refine GO.chk fun hi3 => ?_
  refine g_aald (b := 77 + ix 0) (cel_ll kd_76) (by decide) (fun _ => rfl) rfl rfl dX4_mostTogether_10 hi3 ?_
  refine g_iconst (v := 0) (by decide) dX4_mostTogether_11 ?_
  refine g_laldL (j := 0) (kw_77 hi3) (by decide) (by decide) dX4_mostTogether_12 ?_
  exact g_lreturn rfl (by decide) (by decide) dX4_mostTogether_13
def fX4_firstPlot_b72 (rec2 : Mem → Int32 → Int32 → Int32 → RS) (M : Mem) (x1 : Int32) (x2 : Int32) (x3 : Int32) : RS := rec2 M x1 x2 (x3 + 1)
theorem SX4_firstPlot_b72 (rec2 : Mem → Int32 → Int32 → Int32 → RS) (hrec2 : ∀ (M : Mem) (x1 : Int32) (x2 : Int32) (x3 : Int32), GO miX4_firstPlot (0) 0 0 0 0 2 [(0, .ref 66), (1, .int x1), (2, .int x2), (3, .int x3)] [] M (rec2 M x1 x2 x3)) (M : Mem) (x1 : Int32) (x2 : Int32) (x3 : Int32) : GO miX4_firstPlot (0) 0 0 0 0 72 [(0, .ref 66), (1, .int x1), (2, .int x2), (3, .int x3)] [] M (fX4_firstPlot_b72 rec2 M x1 x2 x3) := by
  show GO miX4_firstPlot (0) 0 0 0 0 72 [(0, .ref 66), (1, .int x1), (2, .int x2), (3, .int x3)] [] M (rec2 M x1 x2 (x3 + 1))
  refine g_iinc (v := x3 + 1) (L' := [(3, .int (x3 + 1)), (0, .ref 66), (1, .int x1), (2, .int x2)]) 3 rfl rfl (by decide) rfl dX4_firstPlot_72 ?_
  refine g_goto (tgt := 2) rfl dX4_firstPlot_75 ?_
  exact GO.pick [1, 2, 3, 0] rfl <| hrec2 M x1 x2 (x3 + 1)
def fX4_firstPlot_b2 : Nat → Mem → Int32 → Int32 → Int32 → RS
  | 0 => fun _ _ _ _ => none
  | n + 1 => fun M x1 x2 x3 => if x3 < (gi M 66 3) then if ((x2 >>> (x3 &&& 31)) &&& 1) = 0 then chk (inb (x1 + 1) 9) (chk (inb (x2 ||| ((1 : Int32) <<< (x3 &&& 31))) 512) (if (lg_cmp (gl M (77 + ix (x1 + 1)) (ix (x2 ||| ((1 : Int32) <<< (x3 &&& 31))))) (-9223372036854775808)) = 0 then fX4_firstPlot_b72 (fX4_firstPlot_b2 n) M x1 x2 x3 else chk (inb x1 8) (chk (inb x3 9) (chk (inb x1 9) (chk (inb x2 512) (if (lg_cmp ((Int32.toInt64 (gi M (68 + ix x1) (ix x3))) + (gl M (77 + ix (x1 + 1)) (ix (x2 ||| ((1 : Int32) <<< (x3 &&& 31)))))) (gl M (77 + ix x1) (ix x2))) = 0 then some (M, .inr (some (.int x3))) else fX4_firstPlot_b72 (fX4_firstPlot_b2 n) M x1 x2 x3)))))) else fX4_firstPlot_b72 (fX4_firstPlot_b2 n) M x1 x2 x3 else some (M, .inr (some (.int (-1))))
theorem SX4_firstPlot_b2 (n : Nat) : ∀ (M : Mem) (x1 : Int32) (x2 : Int32) (x3 : Int32), GO miX4_firstPlot (0) 0 0 0 0 2 [(0, .ref 66), (1, .int x1), (2, .int x2), (3, .int x3)] [] M (fX4_firstPlot_b2 n M x1 x2 x3) := by
  induction n with
  | zero => intro M x1 x2 x3 ; exact GO.none
  | succ n hrec2 =>
    intro M x1 x2 x3 
    show GO miX4_firstPlot (0) 0 0 0 0 2 [(0, .ref 66), (1, .int x1), (2, .int x2), (3, .int x3)] [] M (if x3 < (gi M 66 3) then if ((x2 >>> (x3 &&& 31)) &&& 1) = 0 then chk (inb (x1 + 1) 9) (chk (inb (x2 ||| ((1 : Int32) <<< (x3 &&& 31))) 512) (if (lg_cmp (gl M (77 + ix (x1 + 1)) (ix (x2 ||| ((1 : Int32) <<< (x3 &&& 31))))) (-9223372036854775808)) = 0 then fX4_firstPlot_b72 (fX4_firstPlot_b2 n) M x1 x2 x3 else chk (inb x1 8) (chk (inb x3 9) (chk (inb x1 9) (chk (inb x2 512) (if (lg_cmp ((Int32.toInt64 (gi M (68 + ix x1) (ix x3))) + (gl M (77 + ix (x1 + 1)) (ix (x2 ||| ((1 : Int32) <<< (x3 &&& 31)))))) (gl M (77 + ix x1) (ix x2))) = 0 then some (M, .inr (some (.int x3))) else fX4_firstPlot_b72 (fX4_firstPlot_b2 n) M x1 x2 x3)))))) else fX4_firstPlot_b72 (fX4_firstPlot_b2 n) M x1 x2 x3 else some (M, .inr (some (.int (-1)))))
    refine g_iload_n 3 rfl rfl dX4_firstPlot_2 ?_
    refine g_aload_n 0 rfl rfl dX4_firstPlot_3 ?_
    refine g_getI (k := 3) clX4 kd_66 (by decide) rfl flX4_45 dX4_firstPlot_4 ?_
    refine g_icmp_ge (tgt := 78) rfl dX4_firstPlot_7 (fun c => ?_) (fun c => ?_)
    · refine g_iconst (v := (-1)) (by decide) dX4_firstPlot_78 ?_
      exact g_ireturn rfl (by decide) (by decide) dX4_firstPlot_79 rfl rfl
    · refine g_iload_n 2 rfl rfl dX4_firstPlot_10 ?_
      refine g_iload_n 3 rfl rfl dX4_firstPlot_11 ?_
      refine g_ishr dX4_firstPlot_12 ?_
      refine g_iconst (v := 1) (by decide) dX4_firstPlot_13 ?_
      refine g_iand dX4_firstPlot_14 ?_
      refine g_if_eq (tgt := 21) rfl dX4_firstPlot_15 (fun c => ?_) (fun c => ?_)
      · refine g_aload_n 0 rfl rfl dX4_firstPlot_21 ?_
        refine g_getR (k := 1) (b := 76) clX4 kd_66 (by decide) rfl rfl flX4_20 dX4_firstPlot_22 ?_
        refine g_iload_n 1 rfl rfl dX4_firstPlot_25 ?_
        refine g_iconst (v := 1) (by decide) dX4_firstPlot_26 ?_
        refine g_iadd dX4_firstPlot_27 ?_
        refine GO.chk fun hi1 => ?_
        refine g_aald (b := 77 + ix (x1 + 1)) (cel_ll kd_76) (by decide) (fun _ => rfl) rfl rfl dX4_firstPlot_28 hi1 ?_
        refine g_iload_n 2 rfl rfl dX4_firstPlot_29 ?_
        refine g_iconst (v := 1) (by decide) dX4_firstPlot_30 ?_
        refine g_iload_n 3 rfl rfl dX4_firstPlot_31 ?_
        refine g_ishl dX4_firstPlot_32 ?_
        refine g_ior dX4_firstPlot_33 ?_
        refine g_lald (kw_77 hi1) dX4_firstPlot_34 (fun hi2 => ?_)
        refine g_lstore (L' := [(4, .long (gl M (77 + ix (x1 + 1)) (ix (x2 ||| ((1 : Int32) <<< (x3 &&& 31)))))), (0, .ref 66), (1, .int x1), (2, .int x2), (3, .int x3)]) (by decide) rfl dX4_firstPlot_35 ?_
        refine g_lload 0 rfl dX4_firstPlot_37 ?_
        refine g_ldc2 (v := (-9223372036854775808)) coX4_62 dX4_firstPlot_39 ?_
        refine g_lcmp dX4_firstPlot_42 ?_
        refine g_if_eq (tgt := 72) rfl dX4_firstPlot_43 (fun c => ?_) (fun c => ?_)
        · exact GO.pick [1, 2, 3, 4] rfl <| SX4_firstPlot_b72  (fX4_firstPlot_b2 n) hrec2 M x1 x2 x3
        · refine g_aload_n 1 rfl rfl dX4_firstPlot_46 ?_
          refine g_getR (k := 0) (b := 67) clX4 kd_66 (by decide) rfl rfl flX4_13 dX4_firstPlot_47 ?_
          refine g_iload_n 2 rfl rfl dX4_firstPlot_50 ?_
          refine GO.chk fun hi3 => ?_
          refine g_aald (b := 68 + ix x1) (cel_ii kd_67) (by decide) (fun _ => rfl) rfl rfl dX4_firstPlot_51 hi3 ?_
          refine g_iload_n 4 rfl rfl dX4_firstPlot_52 ?_
          refine g_ald (kw_68 hi3) dX4_firstPlot_53 (fun hi4 => ?_)
          refine g_i2l dX4_firstPlot_54 ?_
          refine g_lload 0 rfl dX4_firstPlot_55 ?_
          refine g_ladd dX4_firstPlot_57 ?_
          refine g_aload_n 1 rfl rfl dX4_firstPlot_58 ?_
          refine g_getR (k := 1) (b := 76) clX4 kd_66 (by decide) rfl rfl flX4_20 dX4_firstPlot_59 ?_
          refine g_iload_n 2 rfl rfl dX4_firstPlot_62 ?_
          refine GO.chk fun hi5 => ?_
          refine g_aald (b := 77 + ix x1) (cel_ll kd_76) (by decide) (fun _ => rfl) rfl rfl dX4_firstPlot_63 hi5 ?_
          refine g_iload_n 3 rfl rfl dX4_firstPlot_64 ?_
          refine g_lald (kw_77 hi5) dX4_firstPlot_65 (fun hi6 => ?_)
          refine g_lcmp dX4_firstPlot_66 ?_
          refine g_if_ne (tgt := 72) rfl dX4_firstPlot_67 (fun c => ?_) (fun c => ?_)
          · exact GO.pick [1, 2, 3, 4] rfl <| SX4_firstPlot_b72  (fX4_firstPlot_b2 n) hrec2 M x1 x2 x3
          · refine g_iload_n 4 rfl rfl dX4_firstPlot_70 ?_
            exact g_ireturn rfl (by decide) (by decide) dX4_firstPlot_71 rfl rfl
      · refine g_goto (tgt := 72) rfl dX4_firstPlot_18 ?_
        exact GO.pick [0, 1, 2, 3] rfl <| SX4_firstPlot_b72  (fX4_firstPlot_b2 n) hrec2 M x1 x2 x3
def fX4_firstPlot (M : Mem) (x1 : Int32) (x2 : Int32) : RS := fX4_firstPlot_b2  FU M x1 x2 0
theorem SX4_firstPlot (M : Mem) (x1 : Int32) (x2 : Int32) : CTO (0) miX4_firstPlot 0 0 [.ref 66, .int x1, .int x2] M (fX4_firstPlot  M x1 x2) := by
  refine CTO.of (by decide) (by simp [lg_sl, Value.category]) ?_
  show GO miX4_firstPlot (0) 0 0 0 0 0 [(0, .ref 66), (1, .int x1), (2, .int x2)] [] M (fX4_firstPlot_b2  FU M x1 x2 0)
  refine g_iconst (v := 0) (by decide) dX4_firstPlot_0 ?_
  refine g_istore_n (L' := [(3, .int 0), (0, .ref 66), (1, .int x1), (2, .int x2)]) (by decide) rfl rfl dX4_firstPlot_1 ?_
  exact GO.pick [1, 2, 3, 0] rfl <| SX4_firstPlot_b2  FU M x1 x2 0
def fX4_plotFor_b41 (rec7 : Mem → Int32 → Int32 → Int32 → Int32 → RS) (M : Mem) (x1 : Int32) (x2 : Int32) (x3 : Int32) (x4 : Int32) : RS := rec7 M x1 x2 x3 (x4 + 1)
theorem SX4_plotFor_b41 (rec7 : Mem → Int32 → Int32 → Int32 → Int32 → RS) (hrec7 : ∀ (M : Mem) (x1 : Int32) (x2 : Int32) (x3 : Int32) (x4 : Int32), GO miX4_plotFor (1) 0 0 0 0 7 [(0, .ref 66), (1, .int x1), (2, .int x2), (3, .int x3), (4, .int x4)] [] M (rec7 M x1 x2 x3 x4)) (M : Mem) (x1 : Int32) (x2 : Int32) (x3 : Int32) (x4 : Int32) : GO miX4_plotFor (1) 0 0 0 0 41 [(0, .ref 66), (1, .int x1), (2, .int x2), (3, .int x3), (4, .int x4)] [] M (fX4_plotFor_b41 rec7 M x1 x2 x3 x4) := by
  show GO miX4_plotFor (1) 0 0 0 0 41 [(0, .ref 66), (1, .int x1), (2, .int x2), (3, .int x3), (4, .int x4)] [] M (rec7 M x1 x2 x3 (x4 + 1))
  refine g_iinc (v := x4 + 1) (L' := [(4, .int (x4 + 1)), (0, .ref 66), (1, .int x1), (2, .int x2), (3, .int x3)]) 4 rfl rfl (by decide) rfl dX4_plotFor_41 ?_
  refine g_goto (tgt := 7) rfl dX4_plotFor_44 ?_
  exact GO.pick [1, 2, 3, 4, 0] rfl <| hrec7 M x1 x2 x3 (x4 + 1)
def fX4_plotFor_b7 : Nat → Mem → Int32 → Int32 → Int32 → Int32 → RS
  | 0 => fun _ _ _ _ _ => none
  | n + 1 => fun M x1 x2 x3 x4 => if x1 < x4 then some (M, .inr (some (.int x3))) else if x4 < (gi M 66 2) then bI (fX4_firstPlot M x4 x2) (fun M1 v2 => if v2 = (-1) then fX4_plotFor_b41 (fX4_plotFor_b7 n) M1 x1 x2 v2 x4 else fX4_plotFor_b41 (fX4_plotFor_b7 n) M1 x1 (x2 ||| ((1 : Int32) <<< (v2 &&& 31))) v2 x4) else some (M, .inr (some (.int x3)))
theorem SX4_plotFor_b7 (n : Nat) : ∀ (M : Mem) (x1 : Int32) (x2 : Int32) (x3 : Int32) (x4 : Int32), GO miX4_plotFor (1) 0 0 0 0 7 [(0, .ref 66), (1, .int x1), (2, .int x2), (3, .int x3), (4, .int x4)] [] M (fX4_plotFor_b7 n M x1 x2 x3 x4) := by
  induction n with
  | zero => intro M x1 x2 x3 x4 ; exact GO.none
  | succ n hrec7 =>
    intro M x1 x2 x3 x4 
    show GO miX4_plotFor (1) 0 0 0 0 7 [(0, .ref 66), (1, .int x1), (2, .int x2), (3, .int x3), (4, .int x4)] [] M (if x1 < x4 then some (M, .inr (some (.int x3))) else if x4 < (gi M 66 2) then bI (fX4_firstPlot M x4 x2) (fun M1 v2 => if v2 = (-1) then fX4_plotFor_b41 (fX4_plotFor_b7 n) M1 x1 x2 v2 x4 else fX4_plotFor_b41 (fX4_plotFor_b7 n) M1 x1 (x2 ||| ((1 : Int32) <<< (v2 &&& 31))) v2 x4) else some (M, .inr (some (.int x3))))
    refine g_iload 4 rfl dX4_plotFor_7 ?_
    refine g_iload_n 1 rfl rfl dX4_plotFor_9 ?_
    refine g_icmp_gt (tgt := 47) rfl dX4_plotFor_10 (fun c => ?_) (fun c => ?_)
    · refine g_iload_n 3 rfl rfl dX4_plotFor_47 ?_
      exact g_ireturn rfl (by decide) (by decide) dX4_plotFor_48 rfl rfl
    · refine g_iload 4 rfl dX4_plotFor_13 ?_
      refine g_aload_n 0 rfl rfl dX4_plotFor_15 ?_
      refine g_getI (k := 2) clX4 kd_66 (by decide) rfl flX4_41 dX4_plotFor_16 ?_
      refine g_icmp_ge (tgt := 47) rfl dX4_plotFor_19 (fun c => ?_) (fun c => ?_)
      · refine g_iload_n 3 rfl rfl dX4_plotFor_47 ?_
        exact g_ireturn rfl (by decide) (by decide) dX4_plotFor_48 rfl rfl
      · refine g_aload_n 0 rfl rfl dX4_plotFor_22 ?_
        refine g_iload 4 rfl dX4_plotFor_23 ?_
        refine g_iload_n 2 rfl rfl dX4_plotFor_25 ?_
        refine g_callVI (y := miX4_firstPlot) (As := [.int x4, .int x2]) (rest := []) clX4 kd_66 rfl moX4_firstPlot rfl mlX4_78 (by first | decide | omega) (by decide) (by simp [Value.category]) rfl dX4_plotFor_26 (SX4_firstPlot  M x4 x2) (fun M1 v2 => ?_)
        refine g_istore_n (L' := [(3, .int v2), (0, .ref 66), (1, .int x1), (2, .int x2), (4, .int x4)]) (by decide) rfl rfl dX4_plotFor_29 ?_
        refine g_iload_n 0 rfl rfl dX4_plotFor_30 ?_
        refine g_iconst (v := (-1)) (by decide) dX4_plotFor_31 ?_
        refine g_icmp_eq (tgt := 41) rfl dX4_plotFor_32 (fun c => ?_) (fun c => ?_)
        · exact GO.pick [1, 2, 3, 0, 4] rfl <| SX4_plotFor_b41  (fX4_plotFor_b7 n) hrec7 M1 x1 x2 v2 x4
        · refine g_iload_n 3 rfl rfl dX4_plotFor_35 ?_
          refine g_iconst (v := 1) (by decide) dX4_plotFor_36 ?_
          refine g_iload_n 0 rfl rfl dX4_plotFor_37 ?_
          refine g_ishl dX4_plotFor_38 ?_
          refine g_ior dX4_plotFor_39 ?_
          refine g_istore_n (L' := [(2, .int (x2 ||| ((1 : Int32) <<< (v2 &&& 31)))), (3, .int v2), (0, .ref 66), (1, .int x1), (4, .int x4)]) (by decide) rfl rfl dX4_plotFor_40 ?_
          exact GO.pick [2, 3, 0, 1, 4] rfl <| SX4_plotFor_b41  (fX4_plotFor_b7 n) hrec7 M1 x1 (x2 ||| ((1 : Int32) <<< (v2 &&& 31))) v2 x4
def fX4_plotFor (M : Mem) (x1 : Int32) : RS := fX4_plotFor_b7  FU M x1 0 (-1) 0
theorem SX4_plotFor (M : Mem) (x1 : Int32) : CTO (1) miX4_plotFor 0 0 [.ref 66, .int x1] M (fX4_plotFor  M x1) := by
  refine CTO.of (by decide) (by simp [lg_sl, Value.category]) ?_
  show GO miX4_plotFor (1) 0 0 0 0 0 [(0, .ref 66), (1, .int x1)] [] M (fX4_plotFor_b7  FU M x1 0 (-1) 0)
  refine g_iconst (v := 0) (by decide) dX4_plotFor_0 ?_
  refine g_istore_n (L' := [(2, .int 0), (0, .ref 66), (1, .int x1)]) (by decide) rfl rfl dX4_plotFor_1 ?_
  refine g_iconst (v := (-1)) (by decide) dX4_plotFor_2 ?_
  refine g_istore_n (L' := [(3, .int (-1)), (2, .int 0), (0, .ref 66), (1, .int x1)]) (by decide) rfl rfl dX4_plotFor_3 ?_
  refine g_iconst (v := 0) (by decide) dX4_plotFor_4 ?_
  refine g_istore (L' := [(4, .int 0), (3, .int (-1)), (2, .int 0), (0, .ref 66), (1, .int x1)]) (by decide) rfl dX4_plotFor_5 ?_
  exact GO.pick [3, 4, 2, 1, 0] rfl <| SX4_plotFor_b7  FU M x1 0 (-1) 0
def fX4_weigh_b45 (rec34 : Mem → Int32 → RS) : Nat → Mem → Int32 → Int32 → RS
  | 0 => fun _ _ _ => none
  | n + 1 => fun M x3 x4 => if x4 < (gi M 66 3) then chk (inb x3 8) (bI (fX3_worthOf 39 M x3 x4) (fun M4 v5 => chk (inb x4 9) (wr (si M4 (68 + ix x3) (ix x4) v5) (fun M7 => (fX4_weigh_b45 rec34 n) M7 x3 (x4 + 1))))) else rec34 M (x3 + 1)
theorem SX4_weigh_b45 (rec34 : Mem → Int32 → RS) (hrec34 : ∀ (M : Mem) (x3 : Int32), GO miX4_weigh (4) 0 0 0 0 34 [(0, .ref 66), (1, .ref 22), (2, .ref 39), (3, .int x3)] [] M (rec34 M x3)) (n : Nat) : ∀ (M : Mem) (x3 : Int32) (x4 : Int32), GO miX4_weigh (4) 0 0 0 0 45 [(0, .ref 66), (1, .ref 22), (2, .ref 39), (3, .int x3), (4, .int x4)] [] M (fX4_weigh_b45 rec34 n M x3 x4) := by
  induction n with
  | zero => intro M x3 x4 ; exact GO.none
  | succ n hrec45 =>
    intro M x3 x4 
    show GO miX4_weigh (4) 0 0 0 0 45 [(0, .ref 66), (1, .ref 22), (2, .ref 39), (3, .int x3), (4, .int x4)] [] M (if x4 < (gi M 66 3) then chk (inb x3 8) (bI (fX3_worthOf 39 M x3 x4) (fun M4 v5 => chk (inb x4 9) (wr (si M4 (68 + ix x3) (ix x4) v5) (fun M7 => (fX4_weigh_b45 rec34 n) M7 x3 (x4 + 1))))) else rec34 M (x3 + 1))
    refine g_iload 4 rfl dX4_weigh_45 ?_
    refine g_aload_n 0 rfl rfl dX4_weigh_47 ?_
    refine g_getI (k := 3) clX4 kd_66 (by decide) rfl flX4_45 dX4_weigh_48 ?_
    refine g_icmp_ge (tgt := 77) rfl dX4_weigh_51 (fun c => ?_) (fun c => ?_)
    · refine g_iinc (v := x3 + 1) (L' := [(3, .int (x3 + 1)), (0, .ref 66), (1, .ref 22), (2, .ref 39), (4, .int x4)]) 3 rfl rfl (by decide) rfl dX4_weigh_77 ?_
      refine g_goto (tgt := 34) rfl dX4_weigh_80 ?_
      exact GO.pick [1, 2, 3, 0] rfl <| hrec34 M (x3 + 1)
    · refine g_aload_n 0 rfl rfl dX4_weigh_54 ?_
      refine g_getR (k := 0) (b := 67) clX4 kd_66 (by decide) rfl rfl flX4_13 dX4_weigh_55 ?_
      refine g_iload_n 3 rfl rfl dX4_weigh_58 ?_
      refine GO.chk fun hi3 => ?_
      refine g_aald (b := 68 + ix x3) (cel_ii kd_67) (by decide) (fun _ => rfl) rfl rfl dX4_weigh_59 hi3 ?_
      refine g_iload 4 rfl dX4_weigh_60 ?_
      refine g_aload_n 1 rfl rfl dX4_weigh_62 ?_
      refine g_aload_n 2 rfl rfl dX4_weigh_63 ?_
      refine g_iload_n 3 rfl rfl dX4_weigh_64 ?_
      refine g_iload 4 rfl dX4_weigh_65 ?_
      refine g_callVI (y := miX3_worthOf) (As := [.ref 39, .int x3, .int x4]) (rest := [.int x4, .ref (68 + ix x3)]) clX3 kd_22 rfl moX3_worthOf rfl mlX4_46 (by first | decide | omega) (by decide) (by simp [Value.category]) rfl dX4_weigh_67 (SX3_worthOf 39 (by decide) M x3 x4) (fun M4 v5 => ?_)
      refine g_ast (kw_68 hi3) dX4_weigh_70 (fun hi6 => ?_)
      refine GO.wr (fun M7 => ?_)
      refine g_iinc (v := x4 + 1) (L' := [(4, .int (x4 + 1)), (0, .ref 66), (1, .ref 22), (2, .ref 39), (3, .int x3)]) 4 rfl rfl (by decide) rfl dX4_weigh_71 ?_
      refine g_goto (tgt := 45) rfl dX4_weigh_74 ?_
      exact GO.pick [1, 2, 3, 4, 0] rfl <| hrec45 M7 x3 (x4 + 1)
def fX4_weigh_b34 : Nat → Mem → Int32 → RS
  | 0 => fun _ _ => none
  | n + 1 => fun M x3 => if x3 < (gi M 66 2) then fX4_weigh_b45 (fX4_weigh_b34 n) FU M x3 0 else some (M, .inr none)
theorem SX4_weigh_b34 (n : Nat) : ∀ (M : Mem) (x3 : Int32), GO miX4_weigh (4) 0 0 0 0 34 [(0, .ref 66), (1, .ref 22), (2, .ref 39), (3, .int x3)] [] M (fX4_weigh_b34 n M x3) := by
  induction n with
  | zero => intro M x3 ; exact GO.none
  | succ n hrec34 =>
    intro M x3 
    show GO miX4_weigh (4) 0 0 0 0 34 [(0, .ref 66), (1, .ref 22), (2, .ref 39), (3, .int x3)] [] M (if x3 < (gi M 66 2) then fX4_weigh_b45 (fX4_weigh_b34 n) FU M x3 0 else some (M, .inr none))
    refine g_iload_n 3 rfl rfl dX4_weigh_34 ?_
    refine g_aload_n 0 rfl rfl dX4_weigh_35 ?_
    refine g_getI (k := 2) clX4 kd_66 (by decide) rfl flX4_41 dX4_weigh_36 ?_
    refine g_icmp_ge (tgt := 83) rfl dX4_weigh_39 (fun c => ?_) (fun c => ?_)
    · exact g_vreturn rfl (by decide) (by decide) dX4_weigh_83
    · refine g_iconst (v := 0) (by decide) dX4_weigh_42 ?_
      refine g_istore (L' := [(4, .int 0), (0, .ref 66), (1, .ref 22), (2, .ref 39), (3, .int x3)]) (by decide) rfl dX4_weigh_43 ?_
      exact GO.pick [1, 2, 3, 4, 0] rfl <| SX4_weigh_b45  (fX4_weigh_b34 n) hrec34 FU M x3 0
def fX4_weigh (M : Mem)  : RS := wr (si M 66 2 (if 8 < (gi M (isA (gb M 0)) 9) then 8 else (gi M (isA (gb M 0)) 9))) (fun M1 => wr (si M1 66 3 (if 9 < (gi M1 (isA (gb M1 0)) 10) then 9 else (gi M1 (isA (gb M1 0)) 10))) (fun M2 => fX4_weigh_b34  FU M2 0))
theorem SX4_weigh (M : Mem)  : CTO (4) miX4_weigh 0 0 [.ref 66, .ref 22, .ref 39] M (fX4_weigh  M ) := by
  refine CTO.of (by decide) (by simp [lg_sl, Value.category]) ?_
  show GO miX4_weigh (4) 0 0 0 0 0 [(0, .ref 66), (1, .ref 22), (2, .ref 39)] [] M (wr (si M 66 2 (if 8 < (gi M (isA (gb M 0)) 9) then 8 else (gi M (isA (gb M 0)) 9))) (fun M1 => wr (si M1 66 3 (if 9 < (gi M1 (isA (gb M1 0)) 10) then 9 else (gi M1 (isA (gb M1 0)) 10))) (fun M2 => fX4_weigh_b34  FU M2 0)))
  refine g_aload_n 0 rfl rfl dX4_weigh_0 ?_
  refine g_aload_n 1 rfl rfl dX4_weigh_1 ?_
  refine g_getR (k := 1) (b := (isA (gb M 0))) clX3 kd_22 (by decide) rfl rfl flX4_23 dX4_weigh_2 ?_
  refine g_getI (k := 9) clX2 (kv_d3_24_0 _ (isA_dom _)) (by decide) rfl flX4_29 dX4_weigh_5 ?_
  refine g_bipush (v := 8) (by decide) dX4_weigh_8 ?_
  refine g_mmin mlX4_35 ms_min mt_Math mc_min (by first | decide | omega) (by decide) (by simp [Value.category]) dX4_weigh_10 ?_
  refine g_putI (k := 2) clX4 kd_66 (by decide) rfl (by decide) rfl flX4_41 dX4_weigh_13 ?_
  refine GO.wr (fun M1 => ?_)
  refine g_aload_n 0 rfl rfl dX4_weigh_16 ?_
  refine g_aload_n 1 rfl rfl dX4_weigh_17 ?_
  refine g_getR (k := 1) (b := (isA (gb M1 0))) clX3 kd_22 (by decide) rfl rfl flX4_23 dX4_weigh_18 ?_
  refine g_getI (k := 10) clX2 (kv_d3_24_0 _ (isA_dom _)) (by decide) rfl flX4_42 dX4_weigh_21 ?_
  refine g_bipush (v := 9) (by decide) dX4_weigh_24 ?_
  refine g_mmin mlX4_35 ms_min mt_Math mc_min (by first | decide | omega) (by decide) (by simp [Value.category]) dX4_weigh_26 ?_
  refine g_putI (k := 3) clX4 kd_66 (by decide) rfl (by decide) rfl flX4_45 dX4_weigh_29 ?_
  refine GO.wr (fun M2 => ?_)
  refine g_iconst (v := 0) (by decide) dX4_weigh_32 ?_
  refine g_istore_n (L' := [(3, .int 0), (0, .ref 66), (1, .ref 22), (2, .ref 39)]) (by decide) rfl rfl dX4_weigh_33 ?_
  exact GO.pick [1, 2, 3, 0] rfl <| SX4_weigh_b34  FU M2 0
def fX11_best_b10 (M : Mem) (x1 : Int32) : RS := bV (fX4_weigh M) (fun M3 => bL (fX4_mostTogether M3) (fun M5 v6 => if x1 = (-1) then some (M5, .inr (some (.long v6))) else bI (fX4_plotFor M5 x1) (fun M7 v8 => some (M7, .inr (some (.long (Int32.toInt64 v8)))))))
theorem SX11_best_b10 (M : Mem) (x1 : Int32) : GO miX11_best (7) 1 6 1 6 10 [(0, .ref 0), (1, .int x1)] [] M (fX11_best_b10 M x1) := by
  show GO miX11_best (7) 1 6 1 6 10 [(0, .ref 0), (1, .int x1)] [] M (bV (fX4_weigh M) (fun M3 => bL (fX4_mostTogether M3) (fun M5 v6 => if x1 = (-1) then some (M5, .inr (some (.long v6))) else bI (fX4_plotFor M5 x1) (fun M7 v8 => some (M7, .inr (some (.long (Int32.toInt64 v8))))))))
  refine g_aload_n 0 rfl rfl dX11_best_10 ?_
  refine g_getR (k := 6) (b := 66) clX11 kd_0 (by decide) rfl rfl flX11_59 dX11_best_11 ?_
  refine g_aload_n 0 rfl rfl dX11_best_14 ?_
  refine g_getR (k := 2) (b := 22) clX11 kd_0 (by decide) rfl rfl flX11_35 dX11_best_15 ?_
  refine g_aload_n 0 rfl rfl dX11_best_18 ?_
  refine g_getR (k := 3) (b := 38) clX11 kd_0 (by decide) rfl rfl flX11_42 dX11_best_19 ?_
  refine g_getR (k := 0) (b := 39) clX0 kd_38 (by decide) rfl rfl flX11_96 dX11_best_22 ?_
  refine g_callVV (y := miX4_weigh) (As := [.ref 22, .ref 39]) (rest := []) clX4 kd_66 rfl moX4_weigh rfl mlX11_263 (by first | decide | omega) (by decide) (by simp [Value.category]) rfl dX11_best_25 (SX4_weigh  M) (fun M3 => ?_)
  refine g_aload_n 0 rfl rfl dX11_best_28 ?_
  refine g_getR (k := 6) (b := 66) clX11 kd_0 (by decide) rfl rfl flX11_59 dX11_best_29 ?_
  refine g_callVL (y := miX4_mostTogether) (As := []) (rest := []) clX4 kd_66 rfl moX4_mostTogether rfl mlX11_267 (by first | decide | omega) (by decide) (by simp [Value.category]) rfl dX11_best_32 (SX4_mostTogether  M3) (fun M5 v6 => ?_)
  refine g_lstore_n (L' := [(2, .long v6), (0, .ref 0), (1, .int x1)]) (by decide) rfl rfl dX11_best_35 ?_
  refine g_iload_n 2 rfl rfl dX11_best_36 ?_
  refine g_iconst (v := (-1)) (by decide) dX11_best_37 ?_
  refine g_icmp_ne (tgt := 45) rfl dX11_best_38 (fun c => ?_) (fun c => ?_)
  · refine g_aload_n 1 rfl rfl dX11_best_45 ?_
    refine g_getR (k := 6) (b := 66) clX11 kd_0 (by decide) rfl rfl flX11_59 dX11_best_46 ?_
    refine g_iload_n 2 rfl rfl dX11_best_49 ?_
    refine g_callVI (y := miX4_plotFor) (As := [.int x1]) (rest := []) clX4 kd_66 rfl moX4_plotFor rfl mlX11_271 (by first | decide | omega) (by decide) (by simp [Value.category]) rfl dX11_best_50 (SX4_plotFor  M5 x1) (fun M7 v8 => ?_)
    refine g_i2l dX11_best_53 ?_
    exact g_lreturn rfl (by decide) (by decide) dX11_best_54
  · refine g_lload_n 0 rfl rfl dX11_best_41 ?_
    refine g_goto (tgt := 54) rfl dX11_best_42 ?_
    exact g_lreturn rfl (by decide) (by decide) dX11_best_54
def fX11_best (M : Mem) (x1 : Int32) : RS := if x1 = (-1) then fX11_best_b10  M x1 else bV (fX11_needHouse M x1) (fun M1 => fX11_best_b10  M1 x1)
theorem SX11_best (M : Mem) (x1 : Int32) : CTO (7) miX11_best 1 6 [.ref 0, .int x1] M (fX11_best  M x1) := by
  refine CTO.of (by decide) (by simp [lg_sl, Value.category]) ?_
  show GO miX11_best (7) 1 6 0 0 0 [(0, .ref 0), (1, .int x1)] [] M (if x1 = (-1) then fX11_best_b10  M x1 else bV (fX11_needHouse M x1) (fun M1 => fX11_best_b10  M1 x1))
  refine g_iload_n 1 rfl rfl dX11_best_0 ?_
  refine g_iconst (v := (-1)) (by decide) dX11_best_1 ?_
  refine g_icmp_eq (tgt := 10) rfl dX11_best_2 (fun c => ?_) (fun c => ?_)
  · exact GO.pick [0, 1] rfl <| GO.widen (k := 1) (j := 6) (by decide) (by decide) <| SX11_best_b10  M x1
  · refine g_aload_n 0 rfl rfl dX11_best_5 ?_
    refine g_iload_n 1 rfl rfl dX11_best_6 ?_
    refine g_callVV (y := miX11_needHouse) (As := [.int x1]) (rest := []) clX11 kd_0 rfl moX11_needHouse rfl mlX11_157 (by first | decide | omega) (by decide) (by simp [Value.category]) rfl dX11_best_7 (SX11_needHouse  M x1) (fun M1 => ?_)
    exact GO.pick [0, 1] rfl <| SX11_best_b10  M1 x1
def fX4_mostForTheLeast (M : Mem)  : RS := bV (fX4_fill M 1) (fun M1 => chk (inb 0 9) (some (M1, .inr (some (.int (Int64.toInt32 (gl M1 (77 + ix 0) 0)))))))
theorem SX4_mostForTheLeast (M : Mem)  : CTO (4) miX4_mostForTheLeast 0 0 [.ref 66] M (fX4_mostForTheLeast  M ) := by
  refine CTO.of (by decide) (by simp [lg_sl, Value.category]) ?_
  show GO miX4_mostForTheLeast (4) 0 0 0 0 0 [(0, .ref 66)] [] M (bV (fX4_fill M 1) (fun M1 => chk (inb 0 9) (some (M1, .inr (some (.int (Int64.toInt32 (gl M1 (77 + ix 0) 0))))))))
  refine g_aload_n 0 rfl rfl dX4_mostForTheLeast_0 ?_
  refine g_iconst (v := 1) (by decide) dX4_mostForTheLeast_1 ?_
  refine g_callVV (y := miX4_fill) (As := [.int 1]) (rest := []) clX4 kd_66 rfl moX4_fill rfl mlX4_50 (by first | decide | omega) (by decide) (by simp [Value.category]) rfl dX4_mostForTheLeast_2 (SX4_fill  M 1) (fun M1 => ?_)
  refine g_aload_n 0 rfl rfl dX4_mostForTheLeast_5 ?_
  refine g_getR (k := 1) (b := 76) clX4 kd_66 (by decide) rfl rfl flX4_20 dX4_mostForTheLeast_6 ?_
  refine g_iconst (v := 0) (by decide) dX4_mostForTheLeast_9 ?_
  refine GO.chk fun hi3 => ?_
  refine g_aald (b := 77 + ix 0) (cel_ll kd_76) (by decide) (fun _ => rfl) rfl rfl dX4_mostForTheLeast_10 hi3 ?_
  refine g_iconst (v := 0) (by decide) dX4_mostForTheLeast_11 ?_
  refine g_laldL (j := 0) (kw_77 hi3) (by decide) (by decide) dX4_mostForTheLeast_12 ?_
  refine g_l2i dX4_mostForTheLeast_13 ?_
  exact g_ireturn rfl (by decide) (by decide) dX4_mostForTheLeast_14 rfl rfl
def fX11_fairest (M : Mem) (x1 : Int32) : RS := bV (fX11_needWhat M x1 2) (fun M1 => if (gi M1 (isA (gb M1 0)) 9) = 0 then some (M1, .inr (some (.int 0))) else if (gi M1 (isA (gb M1 0)) 10) < (gi M1 (isA (gb M1 0)) 9) then some (M1, .inr (some (.int 0))) else if x1 = 0 then some (M1, .inr (some (.int 1))) else bV (fX4_weigh M1) (fun M3 => bI (fX4_mostForTheLeast M3) (fun M5 v6 => some (M5, .inr (some (.int v6))))))
theorem SX11_fairest (M : Mem) (x1 : Int32) : CTO (7) miX11_fairest 1 6 [.ref 0, .int x1] M (fX11_fairest  M x1) := by
  refine CTO.of (by decide) (by simp [lg_sl, Value.category]) ?_
  show GO miX11_fairest (7) 1 6 0 0 0 [(0, .ref 0), (1, .int x1)] [] M (bV (fX11_needWhat M x1 2) (fun M1 => if (gi M1 (isA (gb M1 0)) 9) = 0 then some (M1, .inr (some (.int 0))) else if (gi M1 (isA (gb M1 0)) 10) < (gi M1 (isA (gb M1 0)) 9) then some (M1, .inr (some (.int 0))) else if x1 = 0 then some (M1, .inr (some (.int 1))) else bV (fX4_weigh M1) (fun M3 => bI (fX4_mostForTheLeast M3) (fun M5 v6 => some (M5, .inr (some (.int v6)))))))
  refine g_aload_n 0 rfl rfl dX11_fairest_0 ?_
  refine g_iload_n 1 rfl rfl dX11_fairest_1 ?_
  refine g_iconst (v := 2) (by decide) dX11_fairest_2 ?_
  refine g_callVV (y := miX11_needWhat) (As := [.int x1, .int 2]) (rest := []) clX11 kd_0 rfl moX11_needWhat rfl mlX11_257 (by first | decide | omega) (by decide) (by simp [Value.category]) rfl dX11_fairest_3 (SX11_needWhat  M x1 2) (fun M1 => ?_)
  refine g_aload_n 0 rfl rfl dX11_fairest_6 ?_
  refine g_getR (k := 2) (b := 22) clX11 kd_0 (by decide) rfl rfl flX11_35 dX11_fairest_7 ?_
  refine g_getR (k := 1) (b := (isA (gb M1 0))) clX3 kd_22 (by decide) rfl rfl flX11_89 dX11_fairest_10 ?_
  refine g_getI (k := 9) clX2 (kv_d3_24_0 _ (isA_dom _)) (by decide) rfl flX11_106 dX11_fairest_13 ?_
  refine g_if_eq (tgt := 42) rfl dX11_fairest_16 (fun c => ?_) (fun c => ?_)
  · refine g_iconst (v := 0) (by decide) dX11_fairest_42 ?_
    exact g_ireturn rfl (by decide) (by decide) dX11_fairest_43 rfl rfl
  · refine g_aload_n 0 rfl rfl dX11_fairest_19 ?_
    refine g_getR (k := 2) (b := 22) clX11 kd_0 (by decide) rfl rfl flX11_35 dX11_fairest_20 ?_
    refine g_getR (k := 1) (b := (isA (gb M1 0))) clX3 kd_22 (by decide) rfl rfl flX11_89 dX11_fairest_23 ?_
    refine g_getI (k := 10) clX2 (kv_d3_24_0 _ (isA_dom _)) (by decide) rfl flX11_109 dX11_fairest_26 ?_
    refine g_aload_n 0 rfl rfl dX11_fairest_29 ?_
    refine g_getR (k := 2) (b := 22) clX11 kd_0 (by decide) rfl rfl flX11_35 dX11_fairest_30 ?_
    refine g_getR (k := 1) (b := (isA (gb M1 0))) clX3 kd_22 (by decide) rfl rfl flX11_89 dX11_fairest_33 ?_
    refine g_getI (k := 9) clX2 (kv_d3_24_0 _ (isA_dom _)) (by decide) rfl flX11_106 dX11_fairest_36 ?_
    refine g_icmp_ge (tgt := 44) rfl dX11_fairest_39 (fun c => ?_) (fun c => ?_)
    · refine g_iload_n 1 rfl rfl dX11_fairest_44 ?_
      refine g_if_ne (tgt := 50) rfl dX11_fairest_45 (fun c => ?_) (fun c => ?_)
      · refine g_aload_n 0 rfl rfl dX11_fairest_50 ?_
        refine g_getR (k := 6) (b := 66) clX11 kd_0 (by decide) rfl rfl flX11_59 dX11_fairest_51 ?_
        refine g_aload_n 0 rfl rfl dX11_fairest_54 ?_
        refine g_getR (k := 2) (b := 22) clX11 kd_0 (by decide) rfl rfl flX11_35 dX11_fairest_55 ?_
        refine g_aload_n 0 rfl rfl dX11_fairest_58 ?_
        refine g_getR (k := 3) (b := 38) clX11 kd_0 (by decide) rfl rfl flX11_42 dX11_fairest_59 ?_
        refine g_getR (k := 0) (b := 39) clX0 kd_38 (by decide) rfl rfl flX11_96 dX11_fairest_62 ?_
        refine g_callVV (y := miX4_weigh) (As := [.ref 22, .ref 39]) (rest := []) clX4 kd_66 rfl moX4_weigh rfl mlX11_263 (by first | decide | omega) (by decide) (by simp [Value.category]) rfl dX11_fairest_65 (SX4_weigh  M1) (fun M3 => ?_)
        refine g_aload_n 0 rfl rfl dX11_fairest_68 ?_
        refine g_getR (k := 6) (b := 66) clX11 kd_0 (by decide) rfl rfl flX11_59 dX11_fairest_69 ?_
        refine g_callVI (y := miX4_mostForTheLeast) (As := []) (rest := []) clX4 kd_66 rfl moX4_mostForTheLeast rfl mlX11_274 (by first | decide | omega) (by decide) (by simp [Value.category]) rfl dX11_fairest_72 (SX4_mostForTheLeast  M3) (fun M5 v6 => ?_)
        exact g_ireturn rfl (by decide) (by decide) dX11_fairest_75 rfl rfl
      · refine g_iconst (v := 1) (by decide) dX11_fairest_48 ?_
        exact g_ireturn rfl (by decide) (by decide) dX11_fairest_49 rfl rfl
    · refine g_iconst (v := 0) (by decide) dX11_fairest_42 ?_
      exact g_ireturn rfl (by decide) (by decide) dX11_fairest_43 rfl rfl
def fX3_strengthOf (a1 : Nat) (M : Mem) (x2 : Int32) : RS := bI (fX2_hasHouse (isA (gb M 0)) M x2) (fun M1 v2 => if v2 = 0 then some (M1, .inr (some (.int 0))) else bI (fX8_lotOf a1 M1 x2) (fun M3 v4 => if v4 = 0 then chk (inb x2 8) (some (M3, .inr (some (.int (gi M3 ((isA (gb M3 0)) + 1) (ix x2)))))) else chk (inb x2 8) (some (M3, .inr (some (.int (gi M3 ((isA (gb M3 0)) + 2) (ix x2))))))))
theorem SX3_strengthOf (a1 : Nat) (h1 : a1 ∈ [39, 62]) (M : Mem) (x2 : Int32) : CTO (1) miX3_strengthOf 0 0 [.ref 22, .ref a1, .int x2] M (fX3_strengthOf a1 M x2) := by
  refine CTO.of (by decide) (by simp [lg_sl, Value.category]) ?_
  show GO miX3_strengthOf (1) 0 0 0 0 0 [(0, .ref 22), (1, .ref a1), (2, .int x2)] [] M (bI (fX2_hasHouse (isA (gb M 0)) M x2) (fun M1 v2 => if v2 = 0 then some (M1, .inr (some (.int 0))) else bI (fX8_lotOf a1 M1 x2) (fun M3 v4 => if v4 = 0 then chk (inb x2 8) (some (M3, .inr (some (.int (gi M3 ((isA (gb M3 0)) + 1) (ix x2)))))) else chk (inb x2 8) (some (M3, .inr (some (.int (gi M3 ((isA (gb M3 0)) + 2) (ix x2)))))))))
  refine g_aload_n 0 rfl rfl dX3_strengthOf_0 ?_
  refine g_getR (k := 1) (b := (isA (gb M 0))) clX3 kd_22 (by decide) rfl rfl flX3_18 dX3_strengthOf_1 ?_
  refine g_iload_n 2 rfl rfl dX3_strengthOf_4 ?_
  refine g_callVI (y := miX2_hasHouse) (As := [.int x2]) (rest := []) clX2 (kv_d3_24_0 _ (isA_dom _)) rfl moX2_hasHouse rfl mlX3_22 (by first | decide | omega) (by decide) (by simp [Value.category]) rfl dX3_strengthOf_5 (SX2_hasHouse (isA (gb M 0)) (isA_dom _) M x2) (fun M1 v2 => ?_)
  refine g_if_ne (tgt := 13) rfl dX3_strengthOf_8 (fun c => ?_) (fun c => ?_)
  · refine g_aload_n 1 rfl rfl dX3_strengthOf_13 ?_
    refine g_iload_n 2 rfl rfl dX3_strengthOf_14 ?_
    refine g_callVI (y := miX8_lotOf) (As := [.int x2]) (rest := []) clX8 (kv_d39_62_0 _ h1) rfl moX8_lotOf rfl mlX3_26 (by first | decide | omega) (by decide) (by simp [Value.category]) rfl dX3_strengthOf_15 (SX8_lotOf a1 h1 M1 x2) (fun M3 v4 => ?_)
    refine g_if_ne (tgt := 33) rfl dX3_strengthOf_18 (fun c => ?_) (fun c => ?_)
    · refine g_aload_n 0 rfl rfl dX3_strengthOf_33 ?_
      refine g_getR (k := 1) (b := (isA (gb M3 0))) clX3 kd_22 (by decide) rfl rfl flX3_18 dX3_strengthOf_34 ?_
      refine g_getR (k := 1) (b := ((isA (gb M3 0)) + 2)) clX2 (kv_d3_24_0 _ (isA_dom _)) (by decide) rfl rfl flX3_35 dX3_strengthOf_37 ?_
      refine g_iload_n 2 rfl rfl dX3_strengthOf_40 ?_
      refine g_ald (kv_d3_24_2 _ (isA_dom _)) dX3_strengthOf_41 (fun hi5 => ?_)
      exact g_ireturn rfl (by decide) (by decide) dX3_strengthOf_42 rfl rfl
    · refine g_aload_n 0 rfl rfl dX3_strengthOf_21 ?_
      refine g_getR (k := 1) (b := (isA (gb M3 0))) clX3 kd_22 (by decide) rfl rfl flX3_18 dX3_strengthOf_22 ?_
      refine g_getR (k := 0) (b := ((isA (gb M3 0)) + 1)) clX2 (kv_d3_24_0 _ (isA_dom _)) (by decide) rfl rfl flX3_32 dX3_strengthOf_25 ?_
      refine g_iload_n 2 rfl rfl dX3_strengthOf_28 ?_
      refine g_ald (kv_d3_24_1 _ (isA_dom _)) dX3_strengthOf_29 (fun hi6 => ?_)
      refine g_goto (tgt := 42) rfl dX3_strengthOf_30 ?_
      exact g_ireturn rfl (by decide) (by decide) dX3_strengthOf_42 rfl rfl
  · refine g_iconst (v := 0) (by decide) dX3_strengthOf_11 ?_
    exact g_ireturn rfl (by decide) (by decide) dX3_strengthOf_12 rfl rfl
def fX11_leastSpread_b20 (rE : Mem → Int32 → Int32 → Int32 → Int32 → RS) (M : Mem) (x2 : Int32) (x3 : Int32) (x4 : Int32) : RS := some (M, .inr (some (.int ((if x2 < (if x3 < x4 then x4 else x3) then (if x3 < x4 then x4 else x3) else x2) - (if (if x4 < x3 then x4 else x3) < x2 then (if x4 < x3 then x4 else x3) else x2)))))
theorem SX11_leastSpread_b20 (dE : Nat) (hD : 2 ≤ dE) (rE : Mem → Int32 → Int32 → Int32 → Int32 → RS) (hE : ∀ (M : Mem) (x1 : Int32) (x2 : Int32) (x3 : Int32) (x4 : Int32), CTO dE miX11_leastSpread 0 0 [.ref 0, .int x1, .int x2, .int x3, .int x4] M (rE M x1 x2 x3 x4)) (M : Mem) (x2 : Int32) (x3 : Int32) (x4 : Int32) : GO miX11_leastSpread (dE + 1) 0 0 0 0 20 [(2, .int x2), (3, .int x3), (4, .int x4)] [] M (fX11_leastSpread_b20 rE M x2 x3 x4) := by
  show GO miX11_leastSpread (dE + 1) 0 0 0 0 20 [(2, .int x2), (3, .int x3), (4, .int x4)] [] M (some (M, .inr (some (.int ((if x2 < (if x3 < x4 then x4 else x3) then (if x3 < x4 then x4 else x3) else x2) - (if (if x4 < x3 then x4 else x3) < x2 then (if x4 < x3 then x4 else x3) else x2))))))
  refine g_iload_n 0 rfl rfl dX11_leastSpread_20 ?_
  refine g_iload_n 1 rfl rfl dX11_leastSpread_21 ?_
  refine g_iload 2 rfl dX11_leastSpread_22 ?_
  refine g_mmax mlX11_281 ms_max mt_Math mc_max (by first | decide | omega) (by decide) (by simp [Value.category]) dX11_leastSpread_24 ?_
  refine g_mmax mlX11_281 ms_max mt_Math mc_max (by first | decide | omega) (by decide) (by simp [Value.category]) dX11_leastSpread_27 ?_
  refine g_iload_n 0 rfl rfl dX11_leastSpread_30 ?_
  refine g_iload_n 1 rfl rfl dX11_leastSpread_31 ?_
  refine g_iload 2 rfl dX11_leastSpread_32 ?_
  refine g_mmin mlX11_287 ms_min mt_Math mc_min (by first | decide | omega) (by decide) (by simp [Value.category]) dX11_leastSpread_34 ?_
  refine g_mmin mlX11_287 ms_min mt_Math mc_min (by first | decide | omega) (by decide) (by simp [Value.category]) dX11_leastSpread_37 ?_
  refine g_isub dX11_leastSpread_40 ?_
  exact g_ireturn rfl (by decide) (by decide) dX11_leastSpread_41 rfl rfl
def fX11_leastSpreadF (rE : Mem → Int32 → Int32 → Int32 → Int32 → RS) (M : Mem) (x1 : Int32) (x2 : Int32) (x3 : Int32) (x4 : Int32) : RS := if x1 < (gi M (isA (gb M 0)) 9) then if x1 < 8 then bI (fX3_strengthOf 39 M x1) (fun M1 v2 => bI (rE M1 (x1 + 1) (x2 + v2) x3 x4) (fun M3 v4 => bI (rE M3 (x1 + 1) x2 (x3 + v2) x4) (fun M5 v6 => bI (rE M5 (x1 + 1) x2 x3 (x4 + v2)) (fun M7 v8 => some (M7, .inr (some (.int (if (if v8 < v6 then v8 else v6) < v4 then (if v8 < v6 then v8 else v6) else v4)))))))) else fX11_leastSpread_b20 rE  M x2 x3 x4 else fX11_leastSpread_b20 rE  M x2 x3 x4
theorem SX11_leastSpreadF (dE : Nat) (hD : 2 ≤ dE) (rE : Mem → Int32 → Int32 → Int32 → Int32 → RS) (hE : ∀ (M : Mem) (x1 : Int32) (x2 : Int32) (x3 : Int32) (x4 : Int32), CTO dE miX11_leastSpread 0 0 [.ref 0, .int x1, .int x2, .int x3, .int x4] M (rE M x1 x2 x3 x4)) (M : Mem) (x1 : Int32) (x2 : Int32) (x3 : Int32) (x4 : Int32) : CTO (dE + 1) miX11_leastSpread 0 0 [.ref 0, .int x1, .int x2, .int x3, .int x4] M (fX11_leastSpreadF rE  M x1 x2 x3 x4) := by
  refine CTO.of (by decide) (by simp [lg_sl, Value.category]) ?_
  show GO miX11_leastSpread (dE + 1) 0 0 0 0 0 [(0, .ref 0), (1, .int x1), (2, .int x2), (3, .int x3), (4, .int x4)] [] M (if x1 < (gi M (isA (gb M 0)) 9) then if x1 < 8 then bI (fX3_strengthOf 39 M x1) (fun M1 v2 => bI (rE M1 (x1 + 1) (x2 + v2) x3 x4) (fun M3 v4 => bI (rE M3 (x1 + 1) x2 (x3 + v2) x4) (fun M5 v6 => bI (rE M5 (x1 + 1) x2 x3 (x4 + v2)) (fun M7 v8 => some (M7, .inr (some (.int (if (if v8 < v6 then v8 else v6) < v4 then (if v8 < v6 then v8 else v6) else v4)))))))) else fX11_leastSpread_b20 rE  M x2 x3 x4 else fX11_leastSpread_b20 rE  M x2 x3 x4)
  refine g_iload_n 1 rfl rfl dX11_leastSpread_0 ?_
  refine g_aload_n 0 rfl rfl dX11_leastSpread_1 ?_
  refine g_getR (k := 2) (b := 22) clX11 kd_0 (by decide) rfl rfl flX11_35 dX11_leastSpread_2 ?_
  refine g_getR (k := 1) (b := (isA (gb M 0))) clX3 kd_22 (by decide) rfl rfl flX11_89 dX11_leastSpread_5 ?_
  refine g_getI (k := 9) clX2 (kv_d3_24_0 _ (isA_dom _)) (by decide) rfl flX11_106 dX11_leastSpread_8 ?_
  refine g_icmp_ge (tgt := 20) rfl dX11_leastSpread_11 (fun c => ?_) (fun c => ?_)
  · exact GO.pick [2, 3, 4] rfl <| SX11_leastSpread_b20 dE hD rE hE  M x2 x3 x4
  · refine g_iload_n 1 rfl rfl dX11_leastSpread_14 ?_
    refine g_bipush (v := 8) (by decide) dX11_leastSpread_15 ?_
    refine g_icmp_lt (tgt := 42) rfl dX11_leastSpread_17 (fun c => ?_) (fun c => ?_)
    · refine g_aload_n 0 rfl rfl dX11_leastSpread_42 ?_
      refine g_getR (k := 2) (b := 22) clX11 kd_0 (by decide) rfl rfl flX11_35 dX11_leastSpread_43 ?_
      refine g_aload_n 0 rfl rfl dX11_leastSpread_46 ?_
      refine g_getR (k := 3) (b := 38) clX11 kd_0 (by decide) rfl rfl flX11_42 dX11_leastSpread_47 ?_
      refine g_getR (k := 0) (b := 39) clX0 kd_38 (by decide) rfl rfl flX11_96 dX11_leastSpread_50 ?_
      refine g_iload_n 1 rfl rfl dX11_leastSpread_53 ?_
      refine g_callVI (y := miX3_strengthOf) (As := [.ref 39, .int x1]) (rest := []) clX3 kd_22 rfl moX3_strengthOf rfl mlX11_290 (by first | decide | omega) (by decide) (by simp [Value.category]) rfl dX11_leastSpread_54 (SX3_strengthOf 39 (by decide) M x1) (fun M1 v2 => ?_)
      refine g_istore (L' := [(5, .int v2), (0, .ref 0), (1, .int x1), (2, .int x2), (3, .int x3), (4, .int x4)]) (by decide) rfl dX11_leastSpread_57 ?_
      refine g_aload_n 1 rfl rfl dX11_leastSpread_59 ?_
      refine g_iload_n 2 rfl rfl dX11_leastSpread_60 ?_
      refine g_iconst (v := 1) (by decide) dX11_leastSpread_61 ?_
      refine g_iadd dX11_leastSpread_62 ?_
      refine g_iload_n 3 rfl rfl dX11_leastSpread_63 ?_
      refine g_iload 0 rfl dX11_leastSpread_64 ?_
      refine g_iadd dX11_leastSpread_66 ?_
      refine g_iload_n 4 rfl rfl dX11_leastSpread_67 ?_
      refine g_iload 5 rfl dX11_leastSpread_68 ?_
      refine g_callVI (y := miX11_leastSpread) (As := [.int (x1 + 1), .int (x2 + v2), .int x3, .int x4]) (rest := []) clX11 kd_0 rfl moX11_leastSpread rfl mlX11_277 (by first | decide | omega) (by decide) (by simp [Value.category]) rfl dX11_leastSpread_70 (hE  M1 (x1 + 1) (x2 + v2) x3 x4) (fun M3 v4 => ?_)
      refine g_istore (L' := [(6, .int v4), (5, .int v2), (0, .ref 0), (1, .int x1), (2, .int x2), (3, .int x3), (4, .int x4)]) (by decide) rfl dX11_leastSpread_73 ?_
      refine g_aload_n 2 rfl rfl dX11_leastSpread_75 ?_
      refine g_iload_n 3 rfl rfl dX11_leastSpread_76 ?_
      refine g_iconst (v := 1) (by decide) dX11_leastSpread_77 ?_
      refine g_iadd dX11_leastSpread_78 ?_
      refine g_iload_n 4 rfl rfl dX11_leastSpread_79 ?_
      refine g_iload_n 5 rfl rfl dX11_leastSpread_80 ?_
      refine g_iload 1 rfl dX11_leastSpread_81 ?_
      refine g_iadd dX11_leastSpread_83 ?_
      refine g_iload 6 rfl dX11_leastSpread_84 ?_
      refine g_callVI (y := miX11_leastSpread) (As := [.int (x1 + 1), .int x2, .int (x3 + v2), .int x4]) (rest := []) clX11 kd_0 rfl moX11_leastSpread rfl mlX11_277 (by first | decide | omega) (by decide) (by simp [Value.category]) rfl dX11_leastSpread_86 (hE  M3 (x1 + 1) x2 (x3 + v2) x4) (fun M5 v6 => ?_)
      refine g_istore (L' := [(7, .int v6), (6, .int v4), (5, .int v2), (0, .ref 0), (1, .int x1), (2, .int x2), (3, .int x3), (4, .int x4)]) (by decide) rfl dX11_leastSpread_89 ?_
      refine g_aload_n 3 rfl rfl dX11_leastSpread_91 ?_
      refine g_iload_n 4 rfl rfl dX11_leastSpread_92 ?_
      refine g_iconst (v := 1) (by decide) dX11_leastSpread_93 ?_
      refine g_iadd dX11_leastSpread_94 ?_
      refine g_iload_n 5 rfl rfl dX11_leastSpread_95 ?_
      refine g_iload_n 6 rfl rfl dX11_leastSpread_96 ?_
      refine g_iload 7 rfl dX11_leastSpread_97 ?_
      refine g_iload 2 rfl dX11_leastSpread_99 ?_
      refine g_iadd dX11_leastSpread_101 ?_
      refine g_callVI (y := miX11_leastSpread) (As := [.int (x1 + 1), .int x2, .int x3, .int (x4 + v2)]) (rest := []) clX11 kd_0 rfl moX11_leastSpread rfl mlX11_277 (by first | decide | omega) (by decide) (by simp [Value.category]) rfl dX11_leastSpread_102 (hE  M5 (x1 + 1) x2 x3 (x4 + v2)) (fun M7 v8 => ?_)
      refine g_istore (L' := [(8, .int v8), (7, .int v6), (6, .int v4), (5, .int v2), (0, .ref 0), (1, .int x1), (2, .int x2), (3, .int x3), (4, .int x4)]) (by decide) rfl dX11_leastSpread_105 ?_
      refine g_iload 2 rfl dX11_leastSpread_107 ?_
      refine g_iload 1 rfl dX11_leastSpread_109 ?_
      refine g_iload 0 rfl dX11_leastSpread_111 ?_
      refine g_mmin mlX11_287 ms_min mt_Math mc_min (by first | decide | omega) (by decide) (by simp [Value.category]) dX11_leastSpread_113 ?_
      refine g_mmin mlX11_287 ms_min mt_Math mc_min (by first | decide | omega) (by decide) (by simp [Value.category]) dX11_leastSpread_116 ?_
      exact g_ireturn rfl (by decide) (by decide) dX11_leastSpread_119 rfl rfl
    · exact GO.pick [2, 3, 4] rfl <| SX11_leastSpread_b20 dE hD rE hE  M x2 x3 x4
def fX11_leastSpread : Nat → Mem → Int32 → Int32 → Int32 → Int32 → RS
  | 0 => fun _ _ _ _ _ => none
  | n + 1 => fun M x1 x2 x3 x4 => fX11_leastSpreadF (fX11_leastSpread n) M x1 x2 x3 x4
theorem SX11_leastSpread (n : Nat) : ∀ (M : Mem) (x1 : Int32) (x2 : Int32) (x3 : Int32) (x4 : Int32), CTO (2 + 1 * n) miX11_leastSpread 0 0 [.ref 0, .int x1, .int x2, .int x3, .int x4] M (fX11_leastSpread n M x1 x2 x3 x4) := by
  induction n with
  | zero => intro M x1 x2 x3 x4 M1 r e; cases e
  | succ n ih =>
    intro M x1 x2 x3 x4
    exact SX11_leastSpreadF (2 + 1 * n) (by omega) (fX11_leastSpread n) ih M x1 x2 x3 x4
def fX11_tribes (M : Mem)  : RS := bI (fX11_leastSpread FR M 0 0 0 0) (fun M1 v2 => some (M1, .inr (some (.int v2))))
theorem SX11_tribes (M : Mem)  : CTO (13) miX11_tribes 0 0 [.ref 0] M (fX11_tribes  M ) := by
  refine CTO.of (by decide) (by simp [lg_sl, Value.category]) ?_
  show GO miX11_tribes (13) 0 0 0 0 0 [(0, .ref 0)] [] M (bI (fX11_leastSpread FR M 0 0 0 0) (fun M1 v2 => some (M1, .inr (some (.int v2)))))
  refine g_aload_n 0 rfl rfl dX11_tribes_0 ?_
  refine g_iconst (v := 0) (by decide) dX11_tribes_1 ?_
  refine g_iconst (v := 0) (by decide) dX11_tribes_2 ?_
  refine g_iconst (v := 0) (by decide) dX11_tribes_3 ?_
  refine g_iconst (v := 0) (by decide) dX11_tribes_4 ?_
  refine g_callVI (y := miX11_leastSpread) (As := [.int 0, .int 0, .int 0, .int 0]) (rest := []) clX11 kd_0 rfl moX11_leastSpread rfl mlX11_277 (by first | decide | omega) (by decide) (by simp [Value.category]) rfl dX11_tribes_5 (SX11_leastSpread FR  M 0 0 0 0) (fun M1 v2 => ?_)
  exact g_ireturn rfl (by decide) (by decide) dX11_tribes_8 rfl rfl
def fX3_walksToShares_b69 (rec6 : Mem → Int32 → Int32 → Int32 → Int32 → RS) (M : Mem) (x2 : Int32) (x3 : Int32) (x4 : Int32) (x5 : Int32) : RS := rec6 M x2 x3 x4 (x5 + 1)
theorem SX3_walksToShares_b69 (rec6 : Mem → Int32 → Int32 → Int32 → Int32 → RS) (hrec6 : ∀ (M : Mem) (x2 : Int32) (x3 : Int32) (x4 : Int32) (x5 : Int32), GO miX3_walksToShares (2) 0 0 0 0 6 [(0, .ref 22), (1, .ref 39), (2, .int x2), (3, .int x3), (4, .int x4), (5, .int x5)] [] M (rec6 M x2 x3 x4 x5)) (M : Mem) (x2 : Int32) (x3 : Int32) (x4 : Int32) (x5 : Int32) : GO miX3_walksToShares (2) 0 0 0 0 69 [(0, .ref 22), (1, .ref 39), (2, .int x2), (3, .int x3), (4, .int x4), (5, .int x5)] [] M (fX3_walksToShares_b69 rec6 M x2 x3 x4 x5) := by
  show GO miX3_walksToShares (2) 0 0 0 0 69 [(0, .ref 22), (1, .ref 39), (2, .int x2), (3, .int x3), (4, .int x4), (5, .int x5)] [] M (rec6 M x2 x3 x4 (x5 + 1))
  refine g_iinc (v := x5 + 1) (L' := [(5, .int (x5 + 1)), (0, .ref 22), (1, .ref 39), (2, .int x2), (3, .int x3), (4, .int x4)]) 5 rfl rfl (by decide) rfl dX3_walksToShares_69 ?_
  refine g_goto (tgt := 6) rfl dX3_walksToShares_72 ?_
  exact GO.pick [1, 2, 3, 4, 5, 0] rfl <| hrec6 M x2 x3 x4 (x5 + 1)
def fX3_walksToShares_b6 : Nat → Mem → Int32 → Int32 → Int32 → Int32 → RS
  | 0 => fun _ _ _ _ _ => none
  | n + 1 => fun M x2 x3 x4 x5 => if x5 < (gi M (isA (gb M 0)) 9) then chk (inb x5 8) (bI (fX2_hasPlot (isA (gb M 0)) M (gi M 41 (ix x5))) (fun M2 v3 => if v3 = 0 then fX3_walksToShares_b69 (fX3_walksToShares_b6 n) M2 x2 x3 x4 x5 else chk (inb (gi M 41 (ix x5)) 9) (chk (inb (gi M 41 (ix x5)) 9) (bI (fX3_walk M2 x2 x3 (gi M2 ((isA (gb M2 0)) + 4) (ix (gi M 41 (ix x5)))) (gi M2 ((isA (gb M2 0)) + 5) (ix (gi M 41 (ix x5))))) (fun M6 v7 => fX3_walksToShares_b69 (fX3_walksToShares_b6 n) M6 x2 x3 (x4 + v7) x5))))) else some (M, .inr (some (.int x4)))
theorem SX3_walksToShares_b6 (n : Nat) : ∀ (M : Mem) (x2 : Int32) (x3 : Int32) (x4 : Int32) (x5 : Int32), GO miX3_walksToShares (2) 0 0 0 0 6 [(0, .ref 22), (1, .ref 39), (2, .int x2), (3, .int x3), (4, .int x4), (5, .int x5)] [] M (fX3_walksToShares_b6 n M x2 x3 x4 x5) := by
  induction n with
  | zero => intro M x2 x3 x4 x5 ; exact GO.none
  | succ n hrec6 =>
    intro M x2 x3 x4 x5 
    show GO miX3_walksToShares (2) 0 0 0 0 6 [(0, .ref 22), (1, .ref 39), (2, .int x2), (3, .int x3), (4, .int x4), (5, .int x5)] [] M (if x5 < (gi M (isA (gb M 0)) 9) then chk (inb x5 8) (bI (fX2_hasPlot (isA (gb M 0)) M (gi M 41 (ix x5))) (fun M2 v3 => if v3 = 0 then fX3_walksToShares_b69 (fX3_walksToShares_b6 n) M2 x2 x3 x4 x5 else chk (inb (gi M 41 (ix x5)) 9) (chk (inb (gi M 41 (ix x5)) 9) (bI (fX3_walk M2 x2 x3 (gi M2 ((isA (gb M2 0)) + 4) (ix (gi M 41 (ix x5)))) (gi M2 ((isA (gb M2 0)) + 5) (ix (gi M 41 (ix x5))))) (fun M6 v7 => fX3_walksToShares_b69 (fX3_walksToShares_b6 n) M6 x2 x3 (x4 + v7) x5))))) else some (M, .inr (some (.int x4))))
    refine g_iload 5 rfl dX3_walksToShares_6 ?_
    refine g_aload_n 0 rfl rfl dX3_walksToShares_8 ?_
    refine g_getR (k := 1) (b := (isA (gb M 0))) clX3 kd_22 (by decide) rfl rfl flX3_18 dX3_walksToShares_9 ?_
    refine g_getI (k := 9) clX2 (kv_d3_24_0 _ (isA_dom _)) (by decide) rfl flX3_38 dX3_walksToShares_12 ?_
    refine g_icmp_ge (tgt := 75) rfl dX3_walksToShares_15 (fun c => ?_) (fun c => ?_)
    · refine g_iload 4 rfl dX3_walksToShares_75 ?_
      exact g_ireturn rfl (by decide) (by decide) dX3_walksToShares_77 rfl rfl
    · refine g_aload_n 1 rfl rfl dX3_walksToShares_18 ?_
      refine g_getR (k := 8) (b := 41) clX8 kd_39 (by decide) rfl rfl flX3_65 dX3_walksToShares_19 ?_
      refine g_iload 5 rfl dX3_walksToShares_22 ?_
      refine g_ald kd_41 dX3_walksToShares_24 (fun hi1 => ?_)
      refine g_istore (L' := [(6, .int (gi M 41 (ix x5))), (0, .ref 22), (1, .ref 39), (2, .int x2), (3, .int x3), (4, .int x4), (5, .int x5)]) (by decide) rfl dX3_walksToShares_25 ?_
      refine g_aload_n 1 rfl rfl dX3_walksToShares_27 ?_
      refine g_getR (k := 1) (b := (isA (gb M 0))) clX3 kd_22 (by decide) rfl rfl flX3_18 dX3_walksToShares_28 ?_
      refine g_iload 0 rfl dX3_walksToShares_31 ?_
      refine g_callVI (y := miX2_hasPlot) (As := [.int (gi M 41 (ix x5))]) (rest := []) clX2 (kv_d3_24_0 _ (isA_dom _)) rfl moX2_hasPlot rfl mlX3_46 (by first | decide | omega) (by decide) (by simp [Value.category]) rfl dX3_walksToShares_33 (SX2_hasPlot (isA (gb M 0)) (isA_dom _) M (gi M 41 (ix x5))) (fun M2 v3 => ?_)
      refine g_if_eq (tgt := 69) rfl dX3_walksToShares_36 (fun c => ?_) (fun c => ?_)
      · exact GO.pick [1, 2, 3, 4, 5, 6] rfl <| SX3_walksToShares_b69  (fX3_walksToShares_b6 n) hrec6 M2 x2 x3 x4 x5
      · refine g_iload 5 rfl dX3_walksToShares_39 ?_
        refine g_iload_n 3 rfl rfl dX3_walksToShares_41 ?_
        refine g_iload_n 4 rfl rfl dX3_walksToShares_42 ?_
        refine g_aload_n 1 rfl rfl dX3_walksToShares_43 ?_
        refine g_getR (k := 1) (b := (isA (gb M2 0))) clX3 kd_22 (by decide) rfl rfl flX3_18 dX3_walksToShares_44 ?_
        refine g_getR (k := 3) (b := ((isA (gb M2 0)) + 4)) clX2 (kv_d3_24_0 _ (isA_dom _)) (by decide) rfl rfl flX3_49 dX3_walksToShares_47 ?_
        refine g_iload 0 rfl dX3_walksToShares_50 ?_
        refine g_ald (kv_d3_24_4 _ (isA_dom _)) dX3_walksToShares_52 (fun hi4 => ?_)
        refine g_aload_n 1 rfl rfl dX3_walksToShares_53 ?_
        refine g_getR (k := 1) (b := (isA (gb M2 0))) clX3 kd_22 (by decide) rfl rfl flX3_18 dX3_walksToShares_54 ?_
        refine g_getR (k := 4) (b := ((isA (gb M2 0)) + 5)) clX2 (kv_d3_24_0 _ (isA_dom _)) (by decide) rfl rfl flX3_52 dX3_walksToShares_57 ?_
        refine g_iload 0 rfl dX3_walksToShares_60 ?_
        refine g_ald (kv_d3_24_5 _ (isA_dom _)) dX3_walksToShares_62 (fun hi5 => ?_)
        refine g_callSI (y := miX3_walk) (As := [.int x2, .int x3, .int (gi M2 ((isA (gb M2 0)) + 4) (ix (gi M 41 (ix x5)))), .int (gi M2 ((isA (gb M2 0)) + 5) (ix (gi M 41 (ix x5))))]) (rest := [.int x4]) moX3_walk rfl mlX3_61 (by first | decide | omega) (by decide) (by simp [Value.category]) rfl dX3_walksToShares_63 (SX3_walk  M2 x2 x3 (gi M2 ((isA (gb M2 0)) + 4) (ix (gi M 41 (ix x5)))) (gi M2 ((isA (gb M2 0)) + 5) (ix (gi M 41 (ix x5))))) (fun M6 v7 => ?_)
        refine g_iadd dX3_walksToShares_66 ?_
        refine g_istore (L' := [(4, .int (x4 + v7)), (6, .int (gi M 41 (ix x5))), (0, .ref 22), (1, .ref 39), (2, .int x2), (3, .int x3), (5, .int x5)]) (by decide) rfl dX3_walksToShares_67 ?_
        exact GO.pick [2, 3, 4, 5, 0, 6] rfl <| SX3_walksToShares_b69  (fX3_walksToShares_b6 n) hrec6 M6 x2 x3 (x4 + v7) x5
def fX3_walksToShares (M : Mem) (x2 : Int32) (x3 : Int32) : RS := fX3_walksToShares_b6  FU M x2 x3 0 0
theorem SX3_walksToShares (M : Mem) (x2 : Int32) (x3 : Int32) : CTO (2) miX3_walksToShares 0 0 [.ref 22, .ref 39, .int x2, .int x3] M (fX3_walksToShares  M x2 x3) := by
  refine CTO.of (by decide) (by simp [lg_sl, Value.category]) ?_
  show GO miX3_walksToShares (2) 0 0 0 0 0 [(0, .ref 22), (1, .ref 39), (2, .int x2), (3, .int x3)] [] M (fX3_walksToShares_b6  FU M x2 x3 0 0)
  refine g_iconst (v := 0) (by decide) dX3_walksToShares_0 ?_
  refine g_istore (L' := [(4, .int 0), (0, .ref 22), (1, .ref 39), (2, .int x2), (3, .int x3)]) (by decide) rfl dX3_walksToShares_1 ?_
  refine g_iconst (v := 0) (by decide) dX3_walksToShares_3 ?_
  refine g_istore (L' := [(5, .int 0), (4, .int 0), (0, .ref 22), (1, .ref 39), (2, .int x2), (3, .int x3)]) (by decide) rfl dX3_walksToShares_4 ?_
  exact GO.pick [2, 3, 4, 5, 1, 0] rfl <| SX3_walksToShares_b6  FU M x2 x3 0 0
def fX11_middle_b60 (rec8 : Mem → Int32 → Int32 → Int32 → RS) (rec17 : Mem → Int32 → Int32 → Int32 → Int32 → RS) (M : Mem) (x1 : Int32) (x2 : Int32) (x3 : Int32) (x4 : Int32) : RS := rec17 M x1 x2 x3 (x4 + 1)
theorem SX11_middle_b60 (rec8 : Mem → Int32 → Int32 → Int32 → RS) (hrec8 : ∀ (M : Mem) (x1 : Int32) (x2 : Int32) (x3 : Int32), GO miX11_middle (3) 0 0 0 0 8 [(0, .ref 0), (1, .int x1), (2, .int x2), (3, .int x3)] [] M (rec8 M x1 x2 x3)) (rec17 : Mem → Int32 → Int32 → Int32 → Int32 → RS) (hrec17 : ∀ (M : Mem) (x1 : Int32) (x2 : Int32) (x3 : Int32) (x4 : Int32), GO miX11_middle (3) 0 0 0 0 17 [(0, .ref 0), (1, .int x1), (2, .int x2), (3, .int x3), (4, .int x4)] [] M (rec17 M x1 x2 x3 x4)) (M : Mem) (x1 : Int32) (x2 : Int32) (x3 : Int32) (x4 : Int32) : GO miX11_middle (3) 0 0 0 0 60 [(0, .ref 0), (1, .int x1), (2, .int x2), (3, .int x3), (4, .int x4)] [] M (fX11_middle_b60 rec8 rec17 M x1 x2 x3 x4) := by
  show GO miX11_middle (3) 0 0 0 0 60 [(0, .ref 0), (1, .int x1), (2, .int x2), (3, .int x3), (4, .int x4)] [] M (rec17 M x1 x2 x3 (x4 + 1))
  refine g_iinc (v := x4 + 1) (L' := [(4, .int (x4 + 1)), (0, .ref 0), (1, .int x1), (2, .int x2), (3, .int x3)]) 4 rfl rfl (by decide) rfl dX11_middle_60 ?_
  refine g_goto (tgt := 17) rfl dX11_middle_63 ?_
  exact GO.pick [1, 2, 3, 4, 0] rfl <| hrec17 M x1 x2 x3 (x4 + 1)
def fX11_middle_b17 (rec8 : Mem → Int32 → Int32 → Int32 → RS) : Nat → Mem → Int32 → Int32 → Int32 → Int32 → RS
  | 0 => fun _ _ _ _ _ => none
  | n + 1 => fun M x1 x2 x3 x4 => if 20 < x4 then rec8 M x1 x2 (x3 + 1) else bI (fX3_walksToShares M x4 x3) (fun M1 v2 => if v2 < x2 then fX11_middle_b60 rec8 (fX11_middle_b17 rec8 n) M1 ((100 * x3) + x4) v2 x3 x4 else fX11_middle_b60 rec8 (fX11_middle_b17 rec8 n) M1 x1 x2 x3 x4)
theorem SX11_middle_b17 (rec8 : Mem → Int32 → Int32 → Int32 → RS) (hrec8 : ∀ (M : Mem) (x1 : Int32) (x2 : Int32) (x3 : Int32), GO miX11_middle (3) 0 0 0 0 8 [(0, .ref 0), (1, .int x1), (2, .int x2), (3, .int x3)] [] M (rec8 M x1 x2 x3)) (n : Nat) : ∀ (M : Mem) (x1 : Int32) (x2 : Int32) (x3 : Int32) (x4 : Int32), GO miX11_middle (3) 0 0 0 0 17 [(0, .ref 0), (1, .int x1), (2, .int x2), (3, .int x3), (4, .int x4)] [] M (fX11_middle_b17 rec8 n M x1 x2 x3 x4) := by
  induction n with
  | zero => intro M x1 x2 x3 x4 ; exact GO.none
  | succ n hrec17 =>
    intro M x1 x2 x3 x4 
    show GO miX11_middle (3) 0 0 0 0 17 [(0, .ref 0), (1, .int x1), (2, .int x2), (3, .int x3), (4, .int x4)] [] M (if 20 < x4 then rec8 M x1 x2 (x3 + 1) else bI (fX3_walksToShares M x4 x3) (fun M1 v2 => if v2 < x2 then fX11_middle_b60 rec8 (fX11_middle_b17 rec8 n) M1 ((100 * x3) + x4) v2 x3 x4 else fX11_middle_b60 rec8 (fX11_middle_b17 rec8 n) M1 x1 x2 x3 x4))
    refine g_iload 4 rfl dX11_middle_17 ?_
    refine g_bipush (v := 20) (by decide) dX11_middle_19 ?_
    refine g_icmp_gt (tgt := 66) rfl dX11_middle_21 (fun c => ?_) (fun c => ?_)
    · refine g_iinc (v := x3 + 1) (L' := [(3, .int (x3 + 1)), (0, .ref 0), (1, .int x1), (2, .int x2), (4, .int x4)]) 3 rfl rfl (by decide) rfl dX11_middle_66 ?_
      refine g_goto (tgt := 8) rfl dX11_middle_69 ?_
      exact GO.pick [1, 2, 3, 0] rfl <| hrec8 M x1 x2 (x3 + 1)
    · refine g_aload_n 0 rfl rfl dX11_middle_24 ?_
      refine g_getR (k := 2) (b := 22) clX11 kd_0 (by decide) rfl rfl flX11_35 dX11_middle_25 ?_
      refine g_aload_n 0 rfl rfl dX11_middle_28 ?_
      refine g_getR (k := 3) (b := 38) clX11 kd_0 (by decide) rfl rfl flX11_42 dX11_middle_29 ?_
      refine g_getR (k := 0) (b := 39) clX0 kd_38 (by decide) rfl rfl flX11_96 dX11_middle_32 ?_
      refine g_iload 4 rfl dX11_middle_35 ?_
      refine g_iload_n 3 rfl rfl dX11_middle_37 ?_
      refine g_callVI (y := miX3_walksToShares) (As := [.ref 39, .int x4, .int x3]) (rest := []) clX3 kd_22 rfl moX3_walksToShares rfl mlX11_296 (by first | decide | omega) (by decide) (by simp [Value.category]) rfl dX11_middle_38 (SX3_walksToShares  M x4 x3) (fun M1 v2 => ?_)
      refine g_istore (L' := [(5, .int v2), (0, .ref 0), (1, .int x1), (2, .int x2), (3, .int x3), (4, .int x4)]) (by decide) rfl dX11_middle_41 ?_
      refine g_iload 0 rfl dX11_middle_43 ?_
      refine g_iload_n 3 rfl rfl dX11_middle_45 ?_
      refine g_icmp_ge (tgt := 60) rfl dX11_middle_46 (fun c => ?_) (fun c => ?_)
      · exact GO.pick [1, 2, 3, 4, 5] rfl <| SX11_middle_b60  rec8 hrec8 (fX11_middle_b17 rec8 n) hrec17 M1 x1 x2 x3 x4
      · refine g_iload 0 rfl dX11_middle_49 ?_
        refine g_istore_n (L' := [(2, .int v2), (5, .int v2), (0, .ref 0), (1, .int x1), (3, .int x3), (4, .int x4)]) (by decide) rfl rfl dX11_middle_51 ?_
        refine g_bipush (v := 100) (by decide) dX11_middle_52 ?_
        refine g_iload_n 4 rfl rfl dX11_middle_54 ?_
        refine g_imul dX11_middle_55 ?_
        refine g_iload 5 rfl dX11_middle_56 ?_
        refine g_iadd dX11_middle_58 ?_
        refine g_istore_n (L' := [(1, .int ((100 * x3) + x4)), (2, .int v2), (5, .int v2), (0, .ref 0), (3, .int x3), (4, .int x4)]) (by decide) rfl rfl dX11_middle_59 ?_
        exact GO.pick [3, 0, 1, 4, 5] rfl <| SX11_middle_b60  rec8 hrec8 (fX11_middle_b17 rec8 n) hrec17 M1 ((100 * x3) + x4) v2 x3 x4
def fX11_middle_b8 : Nat → Mem → Int32 → Int32 → Int32 → RS
  | 0 => fun _ _ _ _ => none
  | n + 1 => fun M x1 x2 x3 => if 20 < x3 then some (M, .inr (some (.int x1))) else fX11_middle_b17 (fX11_middle_b8 n) FU M x1 x2 x3 0
theorem SX11_middle_b8 (n : Nat) : ∀ (M : Mem) (x1 : Int32) (x2 : Int32) (x3 : Int32), GO miX11_middle (3) 0 0 0 0 8 [(0, .ref 0), (1, .int x1), (2, .int x2), (3, .int x3)] [] M (fX11_middle_b8 n M x1 x2 x3) := by
  induction n with
  | zero => intro M x1 x2 x3 ; exact GO.none
  | succ n hrec8 =>
    intro M x1 x2 x3 
    show GO miX11_middle (3) 0 0 0 0 8 [(0, .ref 0), (1, .int x1), (2, .int x2), (3, .int x3)] [] M (if 20 < x3 then some (M, .inr (some (.int x1))) else fX11_middle_b17 (fX11_middle_b8 n) FU M x1 x2 x3 0)
    refine g_iload_n 3 rfl rfl dX11_middle_8 ?_
    refine g_bipush (v := 20) (by decide) dX11_middle_9 ?_
    refine g_icmp_gt (tgt := 72) rfl dX11_middle_11 (fun c => ?_) (fun c => ?_)
    · refine g_iload_n 1 rfl rfl dX11_middle_72 ?_
      exact g_ireturn rfl (by decide) (by decide) dX11_middle_73 rfl rfl
    · refine g_iconst (v := 0) (by decide) dX11_middle_14 ?_
      refine g_istore (L' := [(4, .int 0), (0, .ref 0), (1, .int x1), (2, .int x2), (3, .int x3)]) (by decide) rfl dX11_middle_15 ?_
      exact GO.pick [1, 2, 3, 4, 0] rfl <| SX11_middle_b17  (fX11_middle_b8 n) hrec8 FU M x1 x2 x3 0
def fX11_middle (M : Mem)  : RS := fX11_middle_b8  FU M 0 2147483647 0
theorem SX11_middle (M : Mem)  : CTO (3) miX11_middle 0 0 [.ref 0] M (fX11_middle  M ) := by
  refine CTO.of (by decide) (by simp [lg_sl, Value.category]) ?_
  show GO miX11_middle (3) 0 0 0 0 0 [(0, .ref 0)] [] M (fX11_middle_b8  FU M 0 2147483647 0)
  refine g_iconst (v := 0) (by decide) dX11_middle_0 ?_
  refine g_istore_n (L' := [(1, .int 0), (0, .ref 0)]) (by decide) rfl rfl dX11_middle_1 ?_
  refine g_ldc_w (v := 2147483647) coX11_295 dX11_middle_2 ?_
  refine g_istore_n (L' := [(2, .int 2147483647), (1, .int 0), (0, .ref 0)]) (by decide) rfl rfl dX11_middle_5 ?_
  refine g_iconst (v := 0) (by decide) dX11_middle_6 ?_
  refine g_istore_n (L' := [(3, .int 0), (2, .int 2147483647), (1, .int 0), (0, .ref 0)]) (by decide) rfl rfl dX11_middle_7 ?_
  exact GO.pick [3, 2, 1, 0] rfl <| SX11_middle_b8  FU M 0 2147483647 0
def fX8_copyFrom_b58 (a0 : Nat) (a1 : Nat) : Nat → Mem → Int32 → RS
  | 0 => fun _ _ => none
  | n + 1 => fun M x2 => if x2 < 8 then chk (inb x2 8) (chk (inb x2 8) (wr (si M (a0 + 1) (ix x2) (gi M (a1 + 1) (ix x2))) (fun M10 => chk (inb x2 8) (chk (inb x2 8) (wr (si M10 (a0 + 2) (ix x2) (gi M10 (a1 + 2) (ix x2))) (fun M13 => chk (inb x2 8) (chk (inb x2 8) (wr (si M13 (a0 + 3) (ix x2) (gi M13 (a1 + 3) (ix x2))) (fun M16 => (fX8_copyFrom_b58 a0 a1 n) M16 (x2 + 1)))))))))) else some (M, .inr none)
theorem SX8_copyFrom_b58 (a0 : Nat) (a1 : Nat) (h0 : a0 ∈ [39, 51, 62]) (h1 : a1 ∈ [39, 51]) (n : Nat) : ∀ (M : Mem) (x2 : Int32), GO miX8_copyFrom (0) 0 0 0 0 58 [(0, .ref a0), (1, .ref a1), (2, .int x2)] [] M (fX8_copyFrom_b58 a0 a1 n M x2) := by
  induction n with
  | zero => intro M x2 ; exact GO.none
  | succ n hrec58 =>
    intro M x2 
    show GO miX8_copyFrom (0) 0 0 0 0 58 [(0, .ref a0), (1, .ref a1), (2, .int x2)] [] M (if x2 < 8 then chk (inb x2 8) (chk (inb x2 8) (wr (si M (a0 + 1) (ix x2) (gi M (a1 + 1) (ix x2))) (fun M10 => chk (inb x2 8) (chk (inb x2 8) (wr (si M10 (a0 + 2) (ix x2) (gi M10 (a1 + 2) (ix x2))) (fun M13 => chk (inb x2 8) (chk (inb x2 8) (wr (si M13 (a0 + 3) (ix x2) (gi M13 (a1 + 3) (ix x2))) (fun M16 => (fX8_copyFrom_b58 a0 a1 n) M16 (x2 + 1)))))))))) else some (M, .inr none))
    refine g_iload_n 2 rfl rfl dX8_copyFrom_58 ?_
    refine g_bipush (v := 8) (by decide) dX8_copyFrom_59 ?_
    refine g_icmp_ge (tgt := 106) rfl dX8_copyFrom_61 (fun c => ?_) (fun c => ?_)
    · exact g_vreturn rfl (by decide) (by decide) dX8_copyFrom_106
    · refine g_aload_n 0 rfl rfl dX8_copyFrom_64 ?_
      refine g_getR (k := 7) (b := (a0 + 1)) clX8 (kv_d39_51_62_0 _ h0) (by decide) rfl rfl flX8_18 dX8_copyFrom_65 ?_
      refine g_iload_n 2 rfl rfl dX8_copyFrom_68 ?_
      refine g_aload_n 1 rfl rfl dX8_copyFrom_69 ?_
      refine g_getR (k := 7) (b := (a1 + 1)) clX8 (kv_d39_51_0 _ h1) (by decide) rfl rfl flX8_18 dX8_copyFrom_70 ?_
      refine g_iload_n 2 rfl rfl dX8_copyFrom_73 ?_
      refine g_ald (kv_d39_51_1 _ h1) dX8_copyFrom_74 (fun hi8 => ?_)
      refine g_ast (kv_d39_51_62_1 _ h0) dX8_copyFrom_75 (fun hi9 => ?_)
      refine GO.wr (fun M10 => ?_)
      refine g_aload_n 0 rfl rfl dX8_copyFrom_76 ?_
      refine g_getR (k := 8) (b := (a0 + 2)) clX8 (kv_d39_51_62_0 _ h0) (by decide) rfl rfl flX8_22 dX8_copyFrom_77 ?_
      refine g_iload_n 2 rfl rfl dX8_copyFrom_80 ?_
      refine g_aload_n 1 rfl rfl dX8_copyFrom_81 ?_
      refine g_getR (k := 8) (b := (a1 + 2)) clX8 (kv_d39_51_0 _ h1) (by decide) rfl rfl flX8_22 dX8_copyFrom_82 ?_
      refine g_iload_n 2 rfl rfl dX8_copyFrom_85 ?_
      refine g_ald (kv_d39_51_2 _ h1) dX8_copyFrom_86 (fun hi11 => ?_)
      refine g_ast (kv_d39_51_62_2 _ h0) dX8_copyFrom_87 (fun hi12 => ?_)
      refine GO.wr (fun M13 => ?_)
      refine g_aload_n 0 rfl rfl dX8_copyFrom_88 ?_
      refine g_getR (k := 9) (b := (a0 + 3)) clX8 (kv_d39_51_62_0 _ h0) (by decide) rfl rfl flX8_25 dX8_copyFrom_89 ?_
      refine g_iload_n 2 rfl rfl dX8_copyFrom_92 ?_
      refine g_aload_n 1 rfl rfl dX8_copyFrom_93 ?_
      refine g_getR (k := 9) (b := (a1 + 3)) clX8 (kv_d39_51_0 _ h1) (by decide) rfl rfl flX8_25 dX8_copyFrom_94 ?_
      refine g_iload_n 2 rfl rfl dX8_copyFrom_97 ?_
      refine g_ald (kv_d39_51_3 _ h1) dX8_copyFrom_98 (fun hi14 => ?_)
      refine g_ast (kv_d39_51_62_3 _ h0) dX8_copyFrom_99 (fun hi15 => ?_)
      refine GO.wr (fun M16 => ?_)
      refine g_iinc (v := x2 + 1) (L' := [(2, .int (x2 + 1)), (0, .ref a0), (1, .ref a1)]) 2 rfl rfl (by decide) rfl dX8_copyFrom_100 ?_
      refine g_goto (tgt := 58) rfl dX8_copyFrom_103 ?_
      exact GO.pick [1, 2, 0] rfl <| hrec58 M16 (x2 + 1)
def fX8_copyFrom (a0 : Nat) (a1 : Nat) (M : Mem)  : RS := wr (si M a0 0 (gi M a1 0)) (fun M1 => wr (si M1 a0 1 (gi M1 a1 1)) (fun M2 => wr (si M2 a0 2 (gi M2 a1 2)) (fun M3 => wr (si M3 a0 3 (gi M3 a1 3)) (fun M4 => wr (si M4 a0 4 (gi M4 a1 4)) (fun M5 => wr (si M5 a0 5 (gi M5 a1 5)) (fun M6 => wr (si M6 a0 6 (gi M6 a1 6)) (fun M7 => fX8_copyFrom_b58 a0 a1 FU M7 0)))))))
theorem SX8_copyFrom (a0 : Nat) (a1 : Nat) (h0 : a0 ∈ [39, 51, 62]) (h1 : a1 ∈ [39, 51]) (M : Mem)  : CTO (0) miX8_copyFrom 0 0 [.ref a0, .ref a1] M (fX8_copyFrom a0 a1 M ) := by
  refine CTO.of (by decide) (by simp [lg_sl, Value.category]) ?_
  show GO miX8_copyFrom (0) 0 0 0 0 0 [(0, .ref a0), (1, .ref a1)] [] M (wr (si M a0 0 (gi M a1 0)) (fun M1 => wr (si M1 a0 1 (gi M1 a1 1)) (fun M2 => wr (si M2 a0 2 (gi M2 a1 2)) (fun M3 => wr (si M3 a0 3 (gi M3 a1 3)) (fun M4 => wr (si M4 a0 4 (gi M4 a1 4)) (fun M5 => wr (si M5 a0 5 (gi M5 a1 5)) (fun M6 => wr (si M6 a0 6 (gi M6 a1 6)) (fun M7 => fX8_copyFrom_b58 a0 a1 FU M7 0))))))))
  refine g_aload_n 0 rfl rfl dX8_copyFrom_0 ?_
  refine g_aload_n 1 rfl rfl dX8_copyFrom_1 ?_
  refine g_getI (k := 0) clX8 (kv_d39_51_0 _ h1) (by decide) rfl flX8_28 dX8_copyFrom_2 ?_
  refine g_putI (k := 0) clX8 (kv_d39_51_62_0 _ h0) (by decide) rfl (by decide) rfl flX8_28 dX8_copyFrom_5 ?_
  refine GO.wr (fun M1 => ?_)
  refine g_aload_n 0 rfl rfl dX8_copyFrom_8 ?_
  refine g_aload_n 1 rfl rfl dX8_copyFrom_9 ?_
  refine g_getI (k := 1) clX8 (kv_d39_51_0 _ h1) (by decide) rfl flX8_47 dX8_copyFrom_10 ?_
  refine g_putI (k := 1) clX8 (kv_d39_51_62_0 _ h0) (by decide) rfl (by decide) rfl flX8_47 dX8_copyFrom_13 ?_
  refine GO.wr (fun M2 => ?_)
  refine g_aload_n 0 rfl rfl dX8_copyFrom_16 ?_
  refine g_aload_n 1 rfl rfl dX8_copyFrom_17 ?_
  refine g_getI (k := 2) clX8 (kv_d39_51_0 _ h1) (by decide) rfl flX8_9 dX8_copyFrom_18 ?_
  refine g_putI (k := 2) clX8 (kv_d39_51_62_0 _ h0) (by decide) rfl (by decide) rfl flX8_9 dX8_copyFrom_21 ?_
  refine GO.wr (fun M3 => ?_)
  refine g_aload_n 0 rfl rfl dX8_copyFrom_24 ?_
  refine g_aload_n 1 rfl rfl dX8_copyFrom_25 ?_
  refine g_getI (k := 3) clX8 (kv_d39_51_0 _ h1) (by decide) rfl flX8_15 dX8_copyFrom_26 ?_
  refine g_putI (k := 3) clX8 (kv_d39_51_62_0 _ h0) (by decide) rfl (by decide) rfl flX8_15 dX8_copyFrom_29 ?_
  refine GO.wr (fun M4 => ?_)
  refine g_aload_n 0 rfl rfl dX8_copyFrom_32 ?_
  refine g_aload_n 1 rfl rfl dX8_copyFrom_33 ?_
  refine g_getI (k := 4) clX8 (kv_d39_51_0 _ h1) (by decide) rfl flX8_44 dX8_copyFrom_34 ?_
  refine g_putI (k := 4) clX8 (kv_d39_51_62_0 _ h0) (by decide) rfl (by decide) rfl flX8_44 dX8_copyFrom_37 ?_
  refine GO.wr (fun M5 => ?_)
  refine g_aload_n 0 rfl rfl dX8_copyFrom_40 ?_
  refine g_aload_n 1 rfl rfl dX8_copyFrom_41 ?_
  refine g_getI (k := 5) clX8 (kv_d39_51_0 _ h1) (by decide) rfl flX8_35 dX8_copyFrom_42 ?_
  refine g_putI (k := 5) clX8 (kv_d39_51_62_0 _ h0) (by decide) rfl (by decide) rfl flX8_35 dX8_copyFrom_45 ?_
  refine GO.wr (fun M6 => ?_)
  refine g_aload_n 0 rfl rfl dX8_copyFrom_48 ?_
  refine g_aload_n 1 rfl rfl dX8_copyFrom_49 ?_
  refine g_getI (k := 6) clX8 (kv_d39_51_0 _ h1) (by decide) rfl flX8_38 dX8_copyFrom_50 ?_
  refine g_putI (k := 6) clX8 (kv_d39_51_62_0 _ h0) (by decide) rfl (by decide) rfl flX8_38 dX8_copyFrom_53 ?_
  refine GO.wr (fun M7 => ?_)
  refine g_iconst (v := 0) (by decide) dX8_copyFrom_56 ?_
  refine g_istore_n (L' := [(2, .int 0), (0, .ref a0), (1, .ref a1)]) (by decide) rfl rfl dX8_copyFrom_57 ?_
  exact GO.pick [1, 2, 0] rfl <| SX8_copyFrom_b58 a0 a1 h0 h1 FU M7 0
def fX11_without (M : Mem) (x1 : Int32) (x2 : Int32) : RS := bV (fX11_needHouse M x1) (fun M1 => bV (fX11_needHouse M1 x2) (fun M3 => if x1 = x2 then some (M3, .inl 2) else bV (fX8_copyFrom 62 39 M3) (fun M5 => bV (fX3_takeShares 62 M5 x1) (fun M7 => chk (inb x2 8) (some (M7, .inr (some (.int (gi M7 64 (ix x2))))))))))
theorem SX11_without (M : Mem) (x1 : Int32) (x2 : Int32) : CTO (7) miX11_without 3 18 [.ref 0, .int x1, .int x2] M (fX11_without  M x1 x2) := by
  refine CTO.of (by decide) (by simp [lg_sl, Value.category]) ?_
  show GO miX11_without (7) 3 18 0 0 0 [(0, .ref 0), (1, .int x1), (2, .int x2)] [] M (bV (fX11_needHouse M x1) (fun M1 => bV (fX11_needHouse M1 x2) (fun M3 => if x1 = x2 then some (M3, .inl 2) else bV (fX8_copyFrom 62 39 M3) (fun M5 => bV (fX3_takeShares 62 M5 x1) (fun M7 => chk (inb x2 8) (some (M7, .inr (some (.int (gi M7 64 (ix x2)))))))))))
  refine g_aload_n 0 rfl rfl dX11_without_0 ?_
  refine g_iload_n 1 rfl rfl dX11_without_1 ?_
  refine g_callVV (y := miX11_needHouse) (As := [.int x1]) (rest := []) clX11 kd_0 rfl moX11_needHouse rfl mlX11_157 (by first | decide | omega) (by decide) (by simp [Value.category]) rfl dX11_without_2 (SX11_needHouse  M x1) (fun M1 => ?_)
  refine g_aload_n 0 rfl rfl dX11_without_5 ?_
  refine g_iload_n 2 rfl rfl dX11_without_6 ?_
  refine g_callVV (y := miX11_needHouse) (As := [.int x2]) (rest := []) clX11 kd_0 rfl moX11_needHouse rfl mlX11_157 (by first | decide | omega) (by decide) (by simp [Value.category]) rfl dX11_without_7 (SX11_needHouse  M1 x2) (fun M3 => ?_)
  refine g_iload_n 1 rfl rfl dX11_without_10 ?_
  refine g_iload_n 2 rfl rfl dX11_without_11 ?_
  refine g_icmp_ne (tgt := 23) rfl dX11_without_12 (fun c => ?_) (fun c => ?_)
  · refine g_aload_n 0 rfl rfl dX11_without_23 ?_
    refine g_getR (k := 5) (b := 62) clX11 kd_0 (by decide) rfl rfl flX11_52 dX11_without_24 ?_
    refine g_aload_n 0 rfl rfl dX11_without_27 ?_
    refine g_getR (k := 3) (b := 38) clX11 kd_0 (by decide) rfl rfl flX11_42 dX11_without_28 ?_
    refine g_getR (k := 0) (b := 39) clX0 kd_38 (by decide) rfl rfl flX11_96 dX11_without_31 ?_
    refine g_callVV (y := miX8_copyFrom) (As := [.ref 39]) (rest := []) clX8 kd_62 rfl moX8_copyFrom rfl mlX11_299 (by first | decide | omega) (by decide) (by simp [Value.category]) rfl dX11_without_34 (SX8_copyFrom 62 39 (by decide) (by decide) M3) (fun M5 => ?_)
    refine g_aload_n 0 rfl rfl dX11_without_37 ?_
    refine g_getR (k := 2) (b := 22) clX11 kd_0 (by decide) rfl rfl flX11_35 dX11_without_38 ?_
    refine g_aload_n 0 rfl rfl dX11_without_41 ?_
    refine g_getR (k := 5) (b := 62) clX11 kd_0 (by decide) rfl rfl flX11_52 dX11_without_42 ?_
    refine g_iload_n 1 rfl rfl dX11_without_45 ?_
    refine g_callVV (y := miX3_takeShares) (As := [.ref 62, .int x1]) (rest := []) clX3 kd_22 rfl moX3_takeShares rfl mlX11_99 (by first | decide | omega) (by decide) (by simp [Value.category]) rfl dX11_without_46 (SX3_takeShares 62 (by decide) M5 x1) (fun M7 => ?_)
    refine g_aload_n 0 rfl rfl dX11_without_49 ?_
    refine g_getR (k := 5) (b := 62) clX11 kd_0 (by decide) rfl rfl flX11_52 dX11_without_50 ?_
    refine g_getR (k := 8) (b := 64) clX8 kd_62 (by decide) rfl rfl flX11_172 dX11_without_53 ?_
    refine g_iload_n 2 rfl rfl dX11_without_56 ?_
    refine g_ald kd_64 dX11_without_57 (fun hi9 => ?_)
    exact g_ireturn rfl (by decide) (by decide) dX11_without_58 rfl rfl
  · exact g_throw2 rfl (by decide) (by decide) (by decide) dX11_without_15 dX11_without_18 dX11_without_19 dX11_without_22
def fX11_lastPlace_b38 : Nat → Mem → Int32 → Int64 → Int32 → RS
  | 0 => fun _ _ _ _ => none
  | n + 1 => fun M x1 x2 x4 => if x4 < 0 then some (M, .inr (some (.int (-1)))) else bV (fX8_copyFrom 62 39 M) (fun M5 => bV (fX8_moveInOrder 62 M5 x1 x4) (fun M7 => bV (fX3_takeShares 62 M7 (-1)) (fun M9 => bL (fX3_worthOfShare 62 M9 x1 (-9223372036854775808)) (fun M11 v12 => if (lg_cmp v12 x2) < 0 then (fX11_lastPlace_b38 n) M11 x1 x2 (x4 + (-1)) else some (M11, .inr (some (.int x4)))))))
theorem SX11_lastPlace_b38 (n : Nat) : ∀ (M : Mem) (x1 : Int32) (x2 : Int64) (x4 : Int32), GO miX11_lastPlace (7) 1 6 1 6 38 [(0, .ref 0), (1, .int x1), (2, .long x2), (4, .int x4)] [] M (fX11_lastPlace_b38 n M x1 x2 x4) := by
  induction n with
  | zero => intro M x1 x2 x4 ; exact GO.none
  | succ n hrec38 =>
    intro M x1 x2 x4 
    show GO miX11_lastPlace (7) 1 6 1 6 38 [(0, .ref 0), (1, .int x1), (2, .long x2), (4, .int x4)] [] M (if x4 < 0 then some (M, .inr (some (.int (-1)))) else bV (fX8_copyFrom 62 39 M) (fun M5 => bV (fX8_moveInOrder 62 M5 x1 x4) (fun M7 => bV (fX3_takeShares 62 M7 (-1)) (fun M9 => bL (fX3_worthOfShare 62 M9 x1 (-9223372036854775808)) (fun M11 v12 => if (lg_cmp v12 x2) < 0 then (fX11_lastPlace_b38 n) M11 x1 x2 (x4 + (-1)) else some (M11, .inr (some (.int x4))))))))
    refine g_iload 3 rfl dX11_lastPlace_38 ?_
    refine g_if_lt (tgt := 108) rfl dX11_lastPlace_40 (fun c => ?_) (fun c => ?_)
    · refine g_iconst (v := (-1)) (by decide) dX11_lastPlace_108 ?_
      exact g_ireturn rfl (by decide) (by decide) dX11_lastPlace_109 rfl rfl
    · refine g_aload_n 0 rfl rfl dX11_lastPlace_43 ?_
      refine g_getR (k := 5) (b := 62) clX11 kd_0 (by decide) rfl rfl flX11_52 dX11_lastPlace_44 ?_
      refine g_aload_n 0 rfl rfl dX11_lastPlace_47 ?_
      refine g_getR (k := 3) (b := 38) clX11 kd_0 (by decide) rfl rfl flX11_42 dX11_lastPlace_48 ?_
      refine g_getR (k := 0) (b := 39) clX0 kd_38 (by decide) rfl rfl flX11_96 dX11_lastPlace_51 ?_
      refine g_callVV (y := miX8_copyFrom) (As := [.ref 39]) (rest := []) clX8 kd_62 rfl moX8_copyFrom rfl mlX11_299 (by first | decide | omega) (by decide) (by simp [Value.category]) rfl dX11_lastPlace_54 (SX8_copyFrom 62 39 (by decide) (by decide) M) (fun M5 => ?_)
      refine g_aload_n 0 rfl rfl dX11_lastPlace_57 ?_
      refine g_getR (k := 5) (b := 62) clX11 kd_0 (by decide) rfl rfl flX11_52 dX11_lastPlace_58 ?_
      refine g_iload_n 1 rfl rfl dX11_lastPlace_61 ?_
      refine g_iload 3 rfl dX11_lastPlace_62 ?_
      refine g_callVV (y := miX8_moveInOrder) (As := [.int x1, .int x4]) (rest := []) clX8 kd_62 rfl moX8_moveInOrder rfl mlX11_236 (by first | decide | omega) (by decide) (by simp [Value.category]) rfl dX11_lastPlace_64 (SX8_moveInOrder 62 (by decide) M5 x1 x4) (fun M7 => ?_)
      refine g_aload_n 0 rfl rfl dX11_lastPlace_67 ?_
      refine g_getR (k := 2) (b := 22) clX11 kd_0 (by decide) rfl rfl flX11_35 dX11_lastPlace_68 ?_
      refine g_aload_n 0 rfl rfl dX11_lastPlace_71 ?_
      refine g_getR (k := 5) (b := 62) clX11 kd_0 (by decide) rfl rfl flX11_52 dX11_lastPlace_72 ?_
      refine g_iconst (v := (-1)) (by decide) dX11_lastPlace_75 ?_
      refine g_callVV (y := miX3_takeShares) (As := [.ref 62, .int (-1)]) (rest := []) clX3 kd_22 rfl moX3_takeShares rfl mlX11_99 (by first | decide | omega) (by decide) (by simp [Value.category]) rfl dX11_lastPlace_76 (SX3_takeShares 62 (by decide) M7 (-1)) (fun M9 => ?_)
      refine g_aload_n 0 rfl rfl dX11_lastPlace_79 ?_
      refine g_getR (k := 2) (b := 22) clX11 kd_0 (by decide) rfl rfl flX11_35 dX11_lastPlace_80 ?_
      refine g_aload_n 0 rfl rfl dX11_lastPlace_83 ?_
      refine g_getR (k := 5) (b := 62) clX11 kd_0 (by decide) rfl rfl flX11_52 dX11_lastPlace_84 ?_
      refine g_iload_n 1 rfl rfl dX11_lastPlace_87 ?_
      refine g_ldc2 (v := (-9223372036854775808)) coX11_304 dX11_lastPlace_88 ?_
      refine g_callVL (y := miX3_worthOfShare) (As := [.ref 62, .int x1, .long (-9223372036854775808)]) (rest := []) clX3 kd_22 rfl moX3_worthOfShare rfl mlX11_306 (by first | decide | omega) (by decide) (by simp [Value.category]) rfl dX11_lastPlace_91 (SX3_worthOfShare 62 (by decide) M9 x1 (-9223372036854775808)) (fun M11 v12 => ?_)
      refine g_lload_n 2 rfl rfl dX11_lastPlace_94 ?_
      refine g_lcmp dX11_lastPlace_95 ?_
      refine g_if_lt (tgt := 102) rfl dX11_lastPlace_96 (fun c => ?_) (fun c => ?_)
      · refine g_iinc (v := x4 + (-1)) (L' := [(4, .int (x4 + (-1))), (0, .ref 0), (1, .int x1), (2, .long x2)]) 3 rfl (congrArg _ (by decide)) (by decide) rfl dX11_lastPlace_102 ?_
        refine g_goto (tgt := 38) rfl dX11_lastPlace_105 ?_
        exact GO.pick [1, 2, 3, 0] rfl <| hrec38 M11 x1 x2 (x4 + (-1))
      · refine g_iload 3 rfl dX11_lastPlace_99 ?_
        exact g_ireturn rfl (by decide) (by decide) dX11_lastPlace_101 rfl rfl
def fX11_lastPlace (M : Mem) (x1 : Int32) : RS := bV (fX11_needHouse M x1) (fun M1 => bL (fX3_worthOfShare 39 M1 x1 (-9223372036854775808)) (fun M3 v4 => fX11_lastPlace_b38  FU M3 x1 v4 ((gi M3 (isA (gb M3 0)) 9) - 1)))
theorem SX11_lastPlace (M : Mem) (x1 : Int32) : CTO (7) miX11_lastPlace 1 6 [.ref 0, .int x1] M (fX11_lastPlace  M x1) := by
  refine CTO.of (by decide) (by simp [lg_sl, Value.category]) ?_
  show GO miX11_lastPlace (7) 1 6 0 0 0 [(0, .ref 0), (1, .int x1)] [] M (bV (fX11_needHouse M x1) (fun M1 => bL (fX3_worthOfShare 39 M1 x1 (-9223372036854775808)) (fun M3 v4 => fX11_lastPlace_b38  FU M3 x1 v4 ((gi M3 (isA (gb M3 0)) 9) - 1))))
  refine g_aload_n 0 rfl rfl dX11_lastPlace_0 ?_
  refine g_iload_n 1 rfl rfl dX11_lastPlace_1 ?_
  refine g_callVV (y := miX11_needHouse) (As := [.int x1]) (rest := []) clX11 kd_0 rfl moX11_needHouse rfl mlX11_157 (by first | decide | omega) (by decide) (by simp [Value.category]) rfl dX11_lastPlace_2 (SX11_needHouse  M x1) (fun M1 => ?_)
  refine g_aload_n 0 rfl rfl dX11_lastPlace_5 ?_
  refine g_getR (k := 2) (b := 22) clX11 kd_0 (by decide) rfl rfl flX11_35 dX11_lastPlace_6 ?_
  refine g_aload_n 0 rfl rfl dX11_lastPlace_9 ?_
  refine g_getR (k := 3) (b := 38) clX11 kd_0 (by decide) rfl rfl flX11_42 dX11_lastPlace_10 ?_
  refine g_getR (k := 0) (b := 39) clX0 kd_38 (by decide) rfl rfl flX11_96 dX11_lastPlace_13 ?_
  refine g_iload_n 1 rfl rfl dX11_lastPlace_16 ?_
  refine g_ldc2 (v := (-9223372036854775808)) coX11_304 dX11_lastPlace_17 ?_
  refine g_callVL (y := miX3_worthOfShare) (As := [.ref 39, .int x1, .long (-9223372036854775808)]) (rest := []) clX3 kd_22 rfl moX3_worthOfShare rfl mlX11_306 (by first | decide | omega) (by decide) (by simp [Value.category]) rfl dX11_lastPlace_20 (SX3_worthOfShare 39 (by decide) M1 x1 (-9223372036854775808)) (fun M3 v4 => ?_)
  refine g_lstore_n (L' := [(2, .long v4), (0, .ref 0), (1, .int x1)]) (by decide) rfl rfl dX11_lastPlace_23 ?_
  refine g_aload_n 1 rfl rfl dX11_lastPlace_24 ?_
  refine g_getR (k := 2) (b := 22) clX11 kd_0 (by decide) rfl rfl flX11_35 dX11_lastPlace_25 ?_
  refine g_getR (k := 1) (b := (isA (gb M3 0))) clX3 kd_22 (by decide) rfl rfl flX11_89 dX11_lastPlace_28 ?_
  refine g_getI (k := 9) clX2 (kv_d3_24_0 _ (isA_dom _)) (by decide) rfl flX11_106 dX11_lastPlace_31 ?_
  refine g_iconst (v := 1) (by decide) dX11_lastPlace_34 ?_
  refine g_isub dX11_lastPlace_35 ?_
  refine g_istore (L' := [(4, .int ((gi M3 (isA (gb M3 0)) 9) - 1)), (2, .long v4), (0, .ref 0), (1, .int x1)]) (by decide) rfl dX11_lastPlace_36 ?_
  exact GO.pick [2, 3, 1, 0] rfl <| SX11_lastPlace_b38  FU M3 x1 v4 ((gi M3 (isA (gb M3 0)) 9) - 1)
def fX11_foresee (M : Mem) (x1 : Int32) : RS := bV (fX8_copyFrom 62 39 M) (fun M1 => bV (fX3_passYears 62 M1 x1) (fun M3 => some (M3, .inr none)))
theorem SX11_foresee (M : Mem) (x1 : Int32) : CTO (6) miX11_foresee 0 0 [.ref 0, .int x1] M (fX11_foresee  M x1) := by
  refine CTO.of (by decide) (by simp [lg_sl, Value.category]) ?_
  show GO miX11_foresee (6) 0 0 0 0 0 [(0, .ref 0), (1, .int x1)] [] M (bV (fX8_copyFrom 62 39 M) (fun M1 => bV (fX3_passYears 62 M1 x1) (fun M3 => some (M3, .inr none))))
  refine g_aload_n 0 rfl rfl dX11_foresee_0 ?_
  refine g_getR (k := 5) (b := 62) clX11 kd_0 (by decide) rfl rfl flX11_52 dX11_foresee_1 ?_
  refine g_aload_n 0 rfl rfl dX11_foresee_4 ?_
  refine g_getR (k := 3) (b := 38) clX11 kd_0 (by decide) rfl rfl flX11_42 dX11_foresee_5 ?_
  refine g_getR (k := 0) (b := 39) clX0 kd_38 (by decide) rfl rfl flX11_96 dX11_foresee_8 ?_
  refine g_callVV (y := miX8_copyFrom) (As := [.ref 39]) (rest := []) clX8 kd_62 rfl moX8_copyFrom rfl mlX11_299 (by first | decide | omega) (by decide) (by simp [Value.category]) rfl dX11_foresee_11 (SX8_copyFrom 62 39 (by decide) (by decide) M) (fun M1 => ?_)
  refine g_aload_n 0 rfl rfl dX11_foresee_14 ?_
  refine g_getR (k := 2) (b := 22) clX11 kd_0 (by decide) rfl rfl flX11_35 dX11_foresee_15 ?_
  refine g_aload_n 0 rfl rfl dX11_foresee_18 ?_
  refine g_getR (k := 5) (b := 62) clX11 kd_0 (by decide) rfl rfl flX11_52 dX11_foresee_19 ?_
  refine g_iload_n 1 rfl rfl dX11_foresee_22 ?_
  refine g_callVV (y := miX3_passYears) (As := [.ref 62, .int x1]) (rest := []) clX3 kd_22 rfl moX3_passYears rfl mlX11_240 (by first | decide | omega) (by decide) (by simp [Value.category]) rfl dX11_foresee_23 (SX3_passYears 62 (by decide) M1 x1) (fun M3 => ?_)
  exact g_vreturn rfl (by decide) (by decide) dX11_foresee_26
def fX11_then (M : Mem) (x1 : Int32) (x2 : Int32) : RS := bV (fX11_needHouse M x1) (fun M1 => bV (fX11_needWithin M1 x2 0 50) (fun M3 => bV (fX11_foresee M3 x2) (fun M5 => chk (inb x1 8) (some (M5, .inr (some (.int (gi M5 65 (ix x1)))))))))
theorem SX11_then (M : Mem) (x1 : Int32) (x2 : Int32) : CTO (7) miX11_then 2 12 [.ref 0, .int x1, .int x2] M (fX11_then  M x1 x2) := by
  refine CTO.of (by decide) (by simp [lg_sl, Value.category]) ?_
  show GO miX11_then (7) 2 12 0 0 0 [(0, .ref 0), (1, .int x1), (2, .int x2)] [] M (bV (fX11_needHouse M x1) (fun M1 => bV (fX11_needWithin M1 x2 0 50) (fun M3 => bV (fX11_foresee M3 x2) (fun M5 => chk (inb x1 8) (some (M5, .inr (some (.int (gi M5 65 (ix x1))))))))))
  refine g_aload_n 0 rfl rfl dX11_then_0 ?_
  refine g_iload_n 1 rfl rfl dX11_then_1 ?_
  refine g_callVV (y := miX11_needHouse) (As := [.int x1]) (rest := []) clX11 kd_0 rfl moX11_needHouse rfl mlX11_157 (by first | decide | omega) (by decide) (by simp [Value.category]) rfl dX11_then_2 (SX11_needHouse  M x1) (fun M1 => ?_)
  refine g_aload_n 0 rfl rfl dX11_then_5 ?_
  refine g_iload_n 2 rfl rfl dX11_then_6 ?_
  refine g_iconst (v := 0) (by decide) dX11_then_7 ?_
  refine g_bipush (v := 50) (by decide) dX11_then_8 ?_
  refine g_callVV (y := miX11_needWithin) (As := [.int x2, .int 0, .int 50]) (rest := []) clX11 kd_0 rfl moX11_needWithin rfl mlX11_206 (by first | decide | omega) (by decide) (by simp [Value.category]) rfl dX11_then_10 (SX11_needWithin  M1 x2 0 50) (fun M3 => ?_)
  refine g_aload_n 0 rfl rfl dX11_then_13 ?_
  refine g_iload_n 2 rfl rfl dX11_then_14 ?_
  refine g_callVV (y := miX11_foresee) (As := [.int x2]) (rest := []) clX11 kd_0 rfl moX11_foresee rfl mlX11_310 (by first | decide | omega) (by decide) (by simp [Value.category]) rfl dX11_then_15 (SX11_foresee  M3 x2) (fun M5 => ?_)
  refine g_aload_n 0 rfl rfl dX11_then_18 ?_
  refine g_getR (k := 5) (b := 62) clX11 kd_0 (by decide) rfl rfl flX11_52 dX11_then_19 ?_
  refine g_getR (k := 9) (b := 65) clX8 kd_62 (by decide) rfl rfl flX11_175 dX11_then_22 ?_
  refine g_iload_n 1 rfl rfl dX11_then_25 ?_
  refine g_ald kd_65 dX11_then_26 (fun hi7 => ?_)
  exact g_ireturn rfl (by decide) (by decide) dX11_then_27 rfl rfl
def fX11_starves_b21 : Nat → Mem → Int32 → Int32 → RS
  | 0 => fun _ _ _ => none
  | n + 1 => fun M x1 x2 => if 50 < x2 then some (M, .inr (some (.int (-1)))) else bI (fX8_isGone 62 M x1) (fun M5 v6 => if v6 = 0 then bV (fX3_passYears 62 M5 1) (fun M7 => (fX11_starves_b21 n) M7 x1 (x2 + 1)) else some (M5, .inr (some (.int x2))))
theorem SX11_starves_b21 (n : Nat) : ∀ (M : Mem) (x1 : Int32) (x2 : Int32), GO miX11_starves (7) 1 6 1 6 21 [(0, .ref 0), (1, .int x1), (2, .int x2)] [] M (fX11_starves_b21 n M x1 x2) := by
  induction n with
  | zero => intro M x1 x2 ; exact GO.none
  | succ n hrec21 =>
    intro M x1 x2 
    show GO miX11_starves (7) 1 6 1 6 21 [(0, .ref 0), (1, .int x1), (2, .int x2)] [] M (if 50 < x2 then some (M, .inr (some (.int (-1)))) else bI (fX8_isGone 62 M x1) (fun M5 v6 => if v6 = 0 then bV (fX3_passYears 62 M5 1) (fun M7 => (fX11_starves_b21 n) M7 x1 (x2 + 1)) else some (M5, .inr (some (.int x2)))))
    refine g_iload_n 2 rfl rfl dX11_starves_21 ?_
    refine g_bipush (v := 50) (by decide) dX11_starves_22 ?_
    refine g_icmp_gt (tgt := 58) rfl dX11_starves_24 (fun c => ?_) (fun c => ?_)
    · refine g_iconst (v := (-1)) (by decide) dX11_starves_58 ?_
      exact g_ireturn rfl (by decide) (by decide) dX11_starves_59 rfl rfl
    · refine g_aload_n 0 rfl rfl dX11_starves_27 ?_
      refine g_getR (k := 5) (b := 62) clX11 kd_0 (by decide) rfl rfl flX11_52 dX11_starves_28 ?_
      refine g_iload_n 1 rfl rfl dX11_starves_31 ?_
      refine g_callVI (y := miX8_isGone) (As := [.int x1]) (rest := []) clX8 kd_62 rfl moX8_isGone rfl mlX11_313 (by first | decide | omega) (by decide) (by simp [Value.category]) rfl dX11_starves_32 (SX8_isGone 62 (by decide) M x1) (fun M5 v6 => ?_)
      refine g_if_eq (tgt := 40) rfl dX11_starves_35 (fun c => ?_) (fun c => ?_)
      · refine g_aload_n 0 rfl rfl dX11_starves_40 ?_
        refine g_getR (k := 2) (b := 22) clX11 kd_0 (by decide) rfl rfl flX11_35 dX11_starves_41 ?_
        refine g_aload_n 0 rfl rfl dX11_starves_44 ?_
        refine g_getR (k := 5) (b := 62) clX11 kd_0 (by decide) rfl rfl flX11_52 dX11_starves_45 ?_
        refine g_iconst (v := 1) (by decide) dX11_starves_48 ?_
        refine g_callVV (y := miX3_passYears) (As := [.ref 62, .int 1]) (rest := []) clX3 kd_22 rfl moX3_passYears rfl mlX11_240 (by first | decide | omega) (by decide) (by simp [Value.category]) rfl dX11_starves_49 (SX3_passYears 62 (by decide) M5 1) (fun M7 => ?_)
        refine g_iinc (v := x2 + 1) (L' := [(2, .int (x2 + 1)), (0, .ref 0), (1, .int x1)]) 2 rfl rfl (by decide) rfl dX11_starves_52 ?_
        refine g_goto (tgt := 21) rfl dX11_starves_55 ?_
        exact GO.pick [1, 2, 0] rfl <| hrec21 M7 x1 (x2 + 1)
      · refine g_iload_n 2 rfl rfl dX11_starves_38 ?_
        exact g_ireturn rfl (by decide) (by decide) dX11_starves_39 rfl rfl
def fX11_starves (M : Mem) (x1 : Int32) : RS := bV (fX11_needHouse M x1) (fun M1 => bV (fX8_copyFrom 62 39 M1) (fun M3 => fX11_starves_b21  FU M3 x1 0))
theorem SX11_starves (M : Mem) (x1 : Int32) : CTO (7) miX11_starves 1 6 [.ref 0, .int x1] M (fX11_starves  M x1) := by
  refine CTO.of (by decide) (by simp [lg_sl, Value.category]) ?_
  show GO miX11_starves (7) 1 6 0 0 0 [(0, .ref 0), (1, .int x1)] [] M (bV (fX11_needHouse M x1) (fun M1 => bV (fX8_copyFrom 62 39 M1) (fun M3 => fX11_starves_b21  FU M3 x1 0)))
  refine g_aload_n 0 rfl rfl dX11_starves_0 ?_
  refine g_iload_n 1 rfl rfl dX11_starves_1 ?_
  refine g_callVV (y := miX11_needHouse) (As := [.int x1]) (rest := []) clX11 kd_0 rfl moX11_needHouse rfl mlX11_157 (by first | decide | omega) (by decide) (by simp [Value.category]) rfl dX11_starves_2 (SX11_needHouse  M x1) (fun M1 => ?_)
  refine g_aload_n 0 rfl rfl dX11_starves_5 ?_
  refine g_getR (k := 5) (b := 62) clX11 kd_0 (by decide) rfl rfl flX11_52 dX11_starves_6 ?_
  refine g_aload_n 0 rfl rfl dX11_starves_9 ?_
  refine g_getR (k := 3) (b := 38) clX11 kd_0 (by decide) rfl rfl flX11_42 dX11_starves_10 ?_
  refine g_getR (k := 0) (b := 39) clX0 kd_38 (by decide) rfl rfl flX11_96 dX11_starves_13 ?_
  refine g_callVV (y := miX8_copyFrom) (As := [.ref 39]) (rest := []) clX8 kd_62 rfl moX8_copyFrom rfl mlX11_299 (by first | decide | omega) (by decide) (by simp [Value.category]) rfl dX11_starves_16 (SX8_copyFrom 62 39 (by decide) (by decide) M1) (fun M3 => ?_)
  refine g_iconst (v := 0) (by decide) dX11_starves_19 ?_
  refine g_istore_n (L' := [(2, .int 0), (0, .ref 0), (1, .int x1)]) (by decide) rfl rfl dX11_starves_20 ?_
  exact GO.pick [1, 2, 0] rfl <| SX11_starves_b21  FU M3 x1 0

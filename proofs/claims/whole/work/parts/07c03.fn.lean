def fX11_free (M : Mem)  : RS := bI (fX3_plotsLeft M) (fun M1 v2 => some (M1, .inr (some (.int v2))))
theorem SX11_free (M : Mem)  : CTO (2) miX11_free 0 0 [.ref 0] M (fX11_free  M ) := by
  refine CTO.of (by decide) (by simp [lg_sl, Value.category]) ?_
  show GO miX11_free (2) 0 0 0 0 0 [(0, .ref 0)] [] M (bI (fX3_plotsLeft M) (fun M1 v2 => some (M1, .inr (some (.int v2)))))
  refine g_aload_n 0 rfl rfl dX11_free_0 ?_
  refine g_getR (k := 2) (b := 22) clX11 kd_0 (by decide) rfl rfl flX11_35 dX11_free_1 ?_
  refine g_aload_n 0 rfl rfl dX11_free_4 ?_
  refine g_getR (k := 3) (b := 38) clX11 kd_0 (by decide) rfl rfl flX11_42 dX11_free_5 ?_
  refine g_getR (k := 0) (b := 39) clX0 kd_38 (by decide) rfl rfl flX11_96 dX11_free_8 ?_
  refine g_callVI (y := miX3_plotsLeft) (As := [.ref 39]) (rest := []) clX3 kd_22 rfl moX3_plotsLeft rfl mlX11_214 (by first | decide | omega) (by decide) (by simp [Value.category]) rfl dX11_free_11 (SX3_plotsLeft  M) (fun M1 v2 => ?_)
  exact g_ireturn rfl (by decide) (by decide) dX11_free_14 rfl rfl
def fX8_writeTo_b78 : Nat → Mem → Int32 → Int32 → RS
  | 0 => fun _ _ _ => none
  | n + 1 => fun M x2 x3 => if x3 < 8 then chk (inb x3 8) (chk (inb ((x2 + 7) + x3) 1240) (wr (si M 44 (ix ((x2 + 7) + x3)) (gi M 40 (ix x3))) (fun M17 => chk (inb x3 8) (chk (inb (((x2 + 7) + 8) + x3) 1240) (wr (si M17 44 (ix (((x2 + 7) + 8) + x3)) (gi M17 41 (ix x3))) (fun M20 => chk (inb x3 8) (chk (inb (((x2 + 7) + 16) + x3) 1240) (wr (si M20 44 (ix (((x2 + 7) + 16) + x3)) (gi M20 42 (ix x3))) (fun M23 => (fX8_writeTo_b78 n) M23 x2 (x3 + 1)))))))))) else some (M, .inr none)
theorem SX8_writeTo_b78 (n : Nat) : ∀ (M : Mem) (x2 : Int32) (x3 : Int32), GO miX8_writeTo (0) 0 0 0 0 78 [(0, .ref 39), (1, .ref 44), (2, .int x2), (3, .int x3)] [] M (fX8_writeTo_b78 n M x2 x3) := by
  induction n with
  | zero => intro M x2 x3 ; exact GO.none
  | succ n hrec78 =>
    intro M x2 x3 
    show GO miX8_writeTo (0) 0 0 0 0 78 [(0, .ref 39), (1, .ref 44), (2, .int x2), (3, .int x3)] [] M (if x3 < 8 then chk (inb x3 8) (chk (inb ((x2 + 7) + x3) 1240) (wr (si M 44 (ix ((x2 + 7) + x3)) (gi M 40 (ix x3))) (fun M17 => chk (inb x3 8) (chk (inb (((x2 + 7) + 8) + x3) 1240) (wr (si M17 44 (ix (((x2 + 7) + 8) + x3)) (gi M17 41 (ix x3))) (fun M20 => chk (inb x3 8) (chk (inb (((x2 + 7) + 16) + x3) 1240) (wr (si M20 44 (ix (((x2 + 7) + 16) + x3)) (gi M20 42 (ix x3))) (fun M23 => (fX8_writeTo_b78 n) M23 x2 (x3 + 1)))))))))) else some (M, .inr none))
    refine g_iload_n 3 rfl rfl dX8_writeTo_78 ?_
    refine g_bipush (v := 8) (by decide) dX8_writeTo_79 ?_
    refine g_icmp_ge (tgt := 138) rfl dX8_writeTo_81 (fun c => ?_) (fun c => ?_)
    · exact g_vreturn rfl (by decide) (by decide) dX8_writeTo_138
    · refine g_aload_n 1 rfl rfl dX8_writeTo_84 ?_
      refine g_iload_n 2 rfl rfl dX8_writeTo_85 ?_
      refine g_bipush (v := 7) (by decide) dX8_writeTo_86 ?_
      refine g_iadd dX8_writeTo_88 ?_
      refine g_iload_n 3 rfl rfl dX8_writeTo_89 ?_
      refine g_iadd dX8_writeTo_90 ?_
      refine g_aload_n 0 rfl rfl dX8_writeTo_91 ?_
      refine g_getR (k := 7) (b := 40) clX8 kd_39 (by decide) rfl rfl flX8_18 dX8_writeTo_92 ?_
      refine g_iload_n 3 rfl rfl dX8_writeTo_95 ?_
      refine g_ald kd_40 dX8_writeTo_96 (fun hi15 => ?_)
      refine g_ast kd_44 dX8_writeTo_97 (fun hi16 => ?_)
      refine GO.wr (fun M17 => ?_)
      refine g_aload_n 1 rfl rfl dX8_writeTo_98 ?_
      refine g_iload_n 2 rfl rfl dX8_writeTo_99 ?_
      refine g_bipush (v := 7) (by decide) dX8_writeTo_100 ?_
      refine g_iadd dX8_writeTo_102 ?_
      refine g_bipush (v := 8) (by decide) dX8_writeTo_103 ?_
      refine g_iadd dX8_writeTo_105 ?_
      refine g_iload_n 3 rfl rfl dX8_writeTo_106 ?_
      refine g_iadd dX8_writeTo_107 ?_
      refine g_aload_n 0 rfl rfl dX8_writeTo_108 ?_
      refine g_getR (k := 8) (b := 41) clX8 kd_39 (by decide) rfl rfl flX8_22 dX8_writeTo_109 ?_
      refine g_iload_n 3 rfl rfl dX8_writeTo_112 ?_
      refine g_ald kd_41 dX8_writeTo_113 (fun hi18 => ?_)
      refine g_ast kd_44 dX8_writeTo_114 (fun hi19 => ?_)
      refine GO.wr (fun M20 => ?_)
      refine g_aload_n 1 rfl rfl dX8_writeTo_115 ?_
      refine g_iload_n 2 rfl rfl dX8_writeTo_116 ?_
      refine g_bipush (v := 7) (by decide) dX8_writeTo_117 ?_
      refine g_iadd dX8_writeTo_119 ?_
      refine g_bipush (v := 16) (by decide) dX8_writeTo_120 ?_
      refine g_iadd dX8_writeTo_122 ?_
      refine g_iload_n 3 rfl rfl dX8_writeTo_123 ?_
      refine g_iadd dX8_writeTo_124 ?_
      refine g_aload_n 0 rfl rfl dX8_writeTo_125 ?_
      refine g_getR (k := 9) (b := 42) clX8 kd_39 (by decide) rfl rfl flX8_25 dX8_writeTo_126 ?_
      refine g_iload_n 3 rfl rfl dX8_writeTo_129 ?_
      refine g_ald kd_42 dX8_writeTo_130 (fun hi21 => ?_)
      refine g_ast kd_44 dX8_writeTo_131 (fun hi22 => ?_)
      refine GO.wr (fun M23 => ?_)
      refine g_iinc (v := x3 + 1) (L' := [(3, .int (x3 + 1)), (0, .ref 39), (1, .ref 44), (2, .int x2)]) 3 rfl rfl (by decide) rfl dX8_writeTo_132 ?_
      refine g_goto (tgt := 78) rfl dX8_writeTo_135 ?_
      exact GO.pick [1, 2, 3, 0] rfl <| hrec78 M23 x2 (x3 + 1)
def fX8_writeTo (M : Mem) (x2 : Int32) : RS := if x2 < 0 then some (M, .inr none) else if (1240 - 31) < x2 then some (M, .inr none) else chk (inb x2 1240) (wr (si M 44 (ix x2) (gi M 39 0)) (fun M2 => chk (inb (x2 + 1) 1240) (wr (si M2 44 (ix (x2 + 1)) (gi M2 39 1)) (fun M4 => chk (inb (x2 + 2) 1240) (wr (si M4 44 (ix (x2 + 2)) (gi M4 39 2)) (fun M6 => chk (inb (x2 + 3) 1240) (wr (si M6 44 (ix (x2 + 3)) (gi M6 39 3)) (fun M8 => chk (inb (x2 + 4) 1240) (wr (si M8 44 (ix (x2 + 4)) (gi M8 39 4)) (fun M10 => chk (inb (x2 + 5) 1240) (wr (si M10 44 (ix (x2 + 5)) (gi M10 39 5)) (fun M12 => chk (inb (x2 + 6) 1240) (wr (si M12 44 (ix (x2 + 6)) (gi M12 39 6)) (fun M14 => fX8_writeTo_b78  FU M14 x2 0))))))))))))))
theorem SX8_writeTo (M : Mem) (x2 : Int32) : CTO (0) miX8_writeTo 0 0 [.ref 39, .ref 44, .int x2] M (fX8_writeTo  M x2) := by
  refine CTO.of (by decide) (by simp [lg_sl, Value.category]) ?_
  show GO miX8_writeTo (0) 0 0 0 0 0 [(0, .ref 39), (1, .ref 44), (2, .int x2)] [] M (if x2 < 0 then some (M, .inr none) else if (1240 - 31) < x2 then some (M, .inr none) else chk (inb x2 1240) (wr (si M 44 (ix x2) (gi M 39 0)) (fun M2 => chk (inb (x2 + 1) 1240) (wr (si M2 44 (ix (x2 + 1)) (gi M2 39 1)) (fun M4 => chk (inb (x2 + 2) 1240) (wr (si M4 44 (ix (x2 + 2)) (gi M4 39 2)) (fun M6 => chk (inb (x2 + 3) 1240) (wr (si M6 44 (ix (x2 + 3)) (gi M6 39 3)) (fun M8 => chk (inb (x2 + 4) 1240) (wr (si M8 44 (ix (x2 + 4)) (gi M8 39 4)) (fun M10 => chk (inb (x2 + 5) 1240) (wr (si M10 44 (ix (x2 + 5)) (gi M10 39 5)) (fun M12 => chk (inb (x2 + 6) 1240) (wr (si M12 44 (ix (x2 + 6)) (gi M12 39 6)) (fun M14 => fX8_writeTo_b78  FU M14 x2 0)))))))))))))))
  refine g_iload_n 2 rfl rfl dX8_writeTo_0 ?_
  refine g_if_lt (tgt := 13) rfl dX8_writeTo_1 (fun c => ?_) (fun c => ?_)
  · exact g_vreturn rfl (by decide) (by decide) dX8_writeTo_13
  · refine g_iload_n 2 rfl rfl dX8_writeTo_4 ?_
    refine g_aload_n 1 rfl rfl dX8_writeTo_5 ?_
    refine g_alen (v := 1240) kd_44 (by decide) (by decide) dX8_writeTo_6 ?_
    refine g_bipush (v := 31) (by decide) dX8_writeTo_7 ?_
    refine g_isub dX8_writeTo_9 ?_
    refine g_icmp_le (tgt := 14) rfl dX8_writeTo_10 (fun c => ?_) (fun c => ?_)
    · refine g_aload_n 1 rfl rfl dX8_writeTo_14 ?_
      refine g_iload_n 2 rfl rfl dX8_writeTo_15 ?_
      refine g_aload_n 0 rfl rfl dX8_writeTo_16 ?_
      refine g_getI (k := 0) clX8 kd_39 (by decide) rfl flX8_28 dX8_writeTo_17 ?_
      refine g_ast kd_44 dX8_writeTo_20 (fun hi1 => ?_)
      refine GO.wr (fun M2 => ?_)
      refine g_aload_n 1 rfl rfl dX8_writeTo_21 ?_
      refine g_iload_n 2 rfl rfl dX8_writeTo_22 ?_
      refine g_iconst (v := 1) (by decide) dX8_writeTo_23 ?_
      refine g_iadd dX8_writeTo_24 ?_
      refine g_aload_n 0 rfl rfl dX8_writeTo_25 ?_
      refine g_getI (k := 1) clX8 kd_39 (by decide) rfl flX8_47 dX8_writeTo_26 ?_
      refine g_ast kd_44 dX8_writeTo_29 (fun hi3 => ?_)
      refine GO.wr (fun M4 => ?_)
      refine g_aload_n 1 rfl rfl dX8_writeTo_30 ?_
      refine g_iload_n 2 rfl rfl dX8_writeTo_31 ?_
      refine g_iconst (v := 2) (by decide) dX8_writeTo_32 ?_
      refine g_iadd dX8_writeTo_33 ?_
      refine g_aload_n 0 rfl rfl dX8_writeTo_34 ?_
      refine g_getI (k := 2) clX8 kd_39 (by decide) rfl flX8_9 dX8_writeTo_35 ?_
      refine g_ast kd_44 dX8_writeTo_38 (fun hi5 => ?_)
      refine GO.wr (fun M6 => ?_)
      refine g_aload_n 1 rfl rfl dX8_writeTo_39 ?_
      refine g_iload_n 2 rfl rfl dX8_writeTo_40 ?_
      refine g_iconst (v := 3) (by decide) dX8_writeTo_41 ?_
      refine g_iadd dX8_writeTo_42 ?_
      refine g_aload_n 0 rfl rfl dX8_writeTo_43 ?_
      refine g_getI (k := 3) clX8 kd_39 (by decide) rfl flX8_15 dX8_writeTo_44 ?_
      refine g_ast kd_44 dX8_writeTo_47 (fun hi7 => ?_)
      refine GO.wr (fun M8 => ?_)
      refine g_aload_n 1 rfl rfl dX8_writeTo_48 ?_
      refine g_iload_n 2 rfl rfl dX8_writeTo_49 ?_
      refine g_iconst (v := 4) (by decide) dX8_writeTo_50 ?_
      refine g_iadd dX8_writeTo_51 ?_
      refine g_aload_n 0 rfl rfl dX8_writeTo_52 ?_
      refine g_getI (k := 4) clX8 kd_39 (by decide) rfl flX8_44 dX8_writeTo_53 ?_
      refine g_ast kd_44 dX8_writeTo_56 (fun hi9 => ?_)
      refine GO.wr (fun M10 => ?_)
      refine g_aload_n 1 rfl rfl dX8_writeTo_57 ?_
      refine g_iload_n 2 rfl rfl dX8_writeTo_58 ?_
      refine g_iconst (v := 5) (by decide) dX8_writeTo_59 ?_
      refine g_iadd dX8_writeTo_60 ?_
      refine g_aload_n 0 rfl rfl dX8_writeTo_61 ?_
      refine g_getI (k := 5) clX8 kd_39 (by decide) rfl flX8_35 dX8_writeTo_62 ?_
      refine g_ast kd_44 dX8_writeTo_65 (fun hi11 => ?_)
      refine GO.wr (fun M12 => ?_)
      refine g_aload_n 1 rfl rfl dX8_writeTo_66 ?_
      refine g_iload_n 2 rfl rfl dX8_writeTo_67 ?_
      refine g_bipush (v := 6) (by decide) dX8_writeTo_68 ?_
      refine g_iadd dX8_writeTo_70 ?_
      refine g_aload_n 0 rfl rfl dX8_writeTo_71 ?_
      refine g_getI (k := 6) clX8 kd_39 (by decide) rfl flX8_38 dX8_writeTo_72 ?_
      refine g_ast kd_44 dX8_writeTo_75 (fun hi13 => ?_)
      refine GO.wr (fun M14 => ?_)
      refine g_iconst (v := 0) (by decide) dX8_writeTo_76 ?_
      refine g_istore_n (L' := [(3, .int 0), (0, .ref 39), (1, .ref 44), (2, .int x2)]) (by decide) rfl rfl dX8_writeTo_77 ?_
      exact GO.pick [1, 2, 3, 0] rfl <| SX8_writeTo_b78  FU M14 x2 0
    · exact g_vreturn rfl (by decide) (by decide) dX8_writeTo_13
def fX1_keep (M : Mem)  : RS := bV (fX8_writeTo M ((((gi M 43 1) + (gi M 43 2)) - ((gi M 43 1) + (gi M 43 2)) / 40 * 40) * 31)) (fun M1 => if (gi M1 43 2) < 40 then wr (si M1 43 2 ((gi M1 43 2) + 1)) (fun M4 => some (M4, .inr none)) else wr (si M1 43 1 (((gi M1 43 1) + 1) - ((gi M1 43 1) + 1) / 40 * 40)) (fun M3 => some (M3, .inr none)))
theorem SX1_keep (M : Mem)  : CTO (1) miX1_keep 0 0 [.ref 43, .ref 39] M (fX1_keep  M ) := by
  refine CTO.of (by decide) (by simp [lg_sl, Value.category]) ?_
  show GO miX1_keep (1) 0 0 0 0 0 [(0, .ref 43), (1, .ref 39)] [] M (bV (fX8_writeTo M ((((gi M 43 1) + (gi M 43 2)) - ((gi M 43 1) + (gi M 43 2)) / 40 * 40) * 31)) (fun M1 => if (gi M1 43 2) < 40 then wr (si M1 43 2 ((gi M1 43 2) + 1)) (fun M4 => some (M4, .inr none)) else wr (si M1 43 1 (((gi M1 43 1) + 1) - ((gi M1 43 1) + 1) / 40 * 40)) (fun M3 => some (M3, .inr none))))
  refine g_aload_n 1 rfl rfl dX1_keep_0 ?_
  refine g_aload_n 0 rfl rfl dX1_keep_1 ?_
  refine g_getR (k := 0) (b := 44) clX1 kd_43 (by decide) rfl rfl flX1_11 dX1_keep_2 ?_
  refine g_aload_n 0 rfl rfl dX1_keep_5 ?_
  refine g_getI (k := 1) clX1 kd_43 (by decide) rfl flX1_17 dX1_keep_6 ?_
  refine g_aload_n 0 rfl rfl dX1_keep_9 ?_
  refine g_getI (k := 2) clX1 kd_43 (by decide) rfl flX1_21 dX1_keep_10 ?_
  refine g_iadd dX1_keep_13 ?_
  refine g_bipush (v := 40) (by decide) dX1_keep_14 ?_
  refine g_irem (by decide) dX1_keep_16 ?_
  refine g_bipush (v := 31) (by decide) dX1_keep_17 ?_
  refine g_imul dX1_keep_19 ?_
  refine g_callVV (y := miX8_writeTo) (As := [.ref 44, .int ((((gi M 43 1) + (gi M 43 2)) - ((gi M 43 1) + (gi M 43 2)) / 40 * 40) * 31)]) (rest := []) clX8 kd_39 rfl moX8_writeTo rfl mlX1_24 (by first | decide | omega) (by decide) (by simp [Value.category]) rfl dX1_keep_20 (SX8_writeTo  M ((((gi M 43 1) + (gi M 43 2)) - ((gi M 43 1) + (gi M 43 2)) / 40 * 40) * 31)) (fun M1 => ?_)
  refine g_aload_n 0 rfl rfl dX1_keep_23 ?_
  refine g_getI (k := 2) clX1 kd_43 (by decide) rfl flX1_21 dX1_keep_24 ?_
  refine g_bipush (v := 40) (by decide) dX1_keep_27 ?_
  refine g_icmp_ge (tgt := 45) rfl dX1_keep_29 (fun c => ?_) (fun c => ?_)
  · refine g_aload_n 0 rfl rfl dX1_keep_45 ?_
    refine g_aload_n 0 rfl rfl dX1_keep_46 ?_
    refine g_getI (k := 1) clX1 kd_43 (by decide) rfl flX1_17 dX1_keep_47 ?_
    refine g_iconst (v := 1) (by decide) dX1_keep_50 ?_
    refine g_iadd dX1_keep_51 ?_
    refine g_bipush (v := 40) (by decide) dX1_keep_52 ?_
    refine g_irem (by decide) dX1_keep_54 ?_
    refine g_putI (k := 1) clX1 kd_43 (by decide) rfl (by decide) rfl flX1_17 dX1_keep_55 ?_
    refine GO.wr (fun M3 => ?_)
    exact g_vreturn rfl (by decide) (by decide) dX1_keep_58
  · refine g_aload_n 0 rfl rfl dX1_keep_32 ?_
    refine g_dup_ref dX1_keep_33 ?_
    refine g_getI (k := 2) clX1 kd_43 (by decide) rfl flX1_21 dX1_keep_34 ?_
    refine g_iconst (v := 1) (by decide) dX1_keep_37 ?_
    refine g_iadd dX1_keep_38 ?_
    refine g_putI (k := 2) clX1 kd_43 (by decide) rfl (by decide) rfl flX1_21 dX1_keep_39 ?_
    refine GO.wr (fun M4 => ?_)
    refine g_goto (tgt := 58) rfl dX1_keep_42 ?_
    exact g_vreturn rfl (by decide) (by decide) dX1_keep_58
def fX11_keepAct (M : Mem)  : RS := bV (fX1_keep M) (fun M1 => some (M1, .inr none))
theorem SX11_keepAct (M : Mem)  : CTO (2) miX11_keepAct 0 0 [.ref 0] M (fX11_keepAct  M ) := by
  refine CTO.of (by decide) (by simp [lg_sl, Value.category]) ?_
  show GO miX11_keepAct (2) 0 0 0 0 0 [(0, .ref 0)] [] M (bV (fX1_keep M) (fun M1 => some (M1, .inr none)))
  refine g_aload_n 0 rfl rfl dX11_keepAct_0 ?_
  refine g_getR (k := 3) (b := 38) clX11 kd_0 (by decide) rfl rfl flX11_42 dX11_keepAct_1 ?_
  refine g_getR (k := 1) (b := 43) clX0 kd_38 (by decide) rfl rfl flX11_138 dX11_keepAct_4 ?_
  refine g_aload_n 0 rfl rfl dX11_keepAct_7 ?_
  refine g_getR (k := 3) (b := 38) clX11 kd_0 (by decide) rfl rfl flX11_42 dX11_keepAct_8 ?_
  refine g_getR (k := 0) (b := 39) clX0 kd_38 (by decide) rfl rfl flX11_96 dX11_keepAct_11 ?_
  refine g_callVV (y := miX1_keep) (As := [.ref 39]) (rest := []) clX1 kd_43 rfl moX1_keep rfl mlX11_247 (by first | decide | omega) (by decide) (by simp [Value.category]) rfl dX11_keepAct_14 (SX1_keep  M) (fun M1 => ?_)
  exact g_vreturn rfl (by decide) (by decide) dX11_keepAct_17
def fX3_drawLots_b8 (a1 : Nat) : Nat → Mem → Int32 → Int32 → Int32 → RS
  | 0 => fun _ _ _ _ => none
  | n + 1 => fun M x3 x4 x5 => if x5 < (gi M (isA (gb M 0)) 9) then (fX3_drawLots_b8 a1 n) M ((x3 * 1103515245) + 12345) (x4 ||| ((((((x3 * 1103515245) + 12345) >>> ((16 : Int32) &&& 31)) &&& 32767) - ((((x3 * 1103515245) + 12345) >>> ((16 : Int32) &&& 31)) &&& 32767) / 2 * 2) <<< (x5 &&& 31))) (x5 + 1) else wr (si M a1 0 x4) (fun M1 => some (M1, .inr (some (.int x3))))
theorem SX3_drawLots_b8 (a1 : Nat) (h1 : a1 ∈ [39, 62]) (n : Nat) : ∀ (M : Mem) (x3 : Int32) (x4 : Int32) (x5 : Int32), GO miX3_drawLots (0) 0 0 0 0 8 [(0, .ref 22), (1, .ref a1), (3, .int x3), (4, .int x4), (5, .int x5)] [] M (fX3_drawLots_b8 a1 n M x3 x4 x5) := by
  induction n with
  | zero => intro M x3 x4 x5 ; exact GO.none
  | succ n hrec8 =>
    intro M x3 x4 x5 
    show GO miX3_drawLots (0) 0 0 0 0 8 [(0, .ref 22), (1, .ref a1), (3, .int x3), (4, .int x4), (5, .int x5)] [] M (if x5 < (gi M (isA (gb M 0)) 9) then (fX3_drawLots_b8 a1 n) M ((x3 * 1103515245) + 12345) (x4 ||| ((((((x3 * 1103515245) + 12345) >>> ((16 : Int32) &&& 31)) &&& 32767) - ((((x3 * 1103515245) + 12345) >>> ((16 : Int32) &&& 31)) &&& 32767) / 2 * 2) <<< (x5 &&& 31))) (x5 + 1) else wr (si M a1 0 x4) (fun M1 => some (M1, .inr (some (.int x3)))))
    refine g_iload 4 rfl dX3_drawLots_8 ?_
    refine g_aload_n 0 rfl rfl dX3_drawLots_10 ?_
    refine g_getR (k := 1) (b := (isA (gb M 0))) clX3 kd_22 (by decide) rfl rfl flX3_18 dX3_drawLots_11 ?_
    refine g_getI (k := 9) clX2 (kv_d3_24_0 _ (isA_dom _)) (by decide) rfl flX3_38 dX3_drawLots_14 ?_
    refine g_icmp_ge (tgt := 53) rfl dX3_drawLots_17 (fun c => ?_) (fun c => ?_)
    · refine g_aload_n 1 rfl rfl dX3_drawLots_53 ?_
      refine g_iload 3 rfl dX3_drawLots_54 ?_
      refine g_putI (k := 0) clX8 (kv_d39_62_0 _ h1) (by decide) rfl (by decide) rfl flX3_143 dX3_drawLots_56 ?_
      refine GO.wr (fun M1 => ?_)
      refine g_iload_n 2 rfl rfl dX3_drawLots_59 ?_
      exact g_ireturn rfl (by decide) (by decide) dX3_drawLots_60 rfl rfl
    · refine g_iload_n 2 rfl rfl dX3_drawLots_20 ?_
      refine g_ldc (v := 1103515245) coX3_142 dX3_drawLots_21 ?_
      refine g_imul dX3_drawLots_23 ?_
      refine g_sipush (v := 12345) (by decide) dX3_drawLots_24 ?_
      refine g_iadd dX3_drawLots_27 ?_
      refine g_istore_n (L' := [(3, .int ((x3 * 1103515245) + 12345)), (0, .ref 22), (1, .ref a1), (4, .int x4), (5, .int x5)]) (by decide) rfl rfl dX3_drawLots_28 ?_
      refine g_iload 3 rfl dX3_drawLots_29 ?_
      refine g_iload_n 0 rfl rfl dX3_drawLots_31 ?_
      refine g_bipush (v := 16) (by decide) dX3_drawLots_32 ?_
      refine g_ishr dX3_drawLots_34 ?_
      refine g_sipush (v := 32767) (by decide) dX3_drawLots_35 ?_
      refine g_iand dX3_drawLots_38 ?_
      refine g_iconst (v := 2) (by decide) dX3_drawLots_39 ?_
      refine g_irem (by decide) dX3_drawLots_40 ?_
      refine g_iload 4 rfl dX3_drawLots_41 ?_
      refine g_ishl dX3_drawLots_43 ?_
      refine g_ior dX3_drawLots_44 ?_
      refine g_istore (L' := [(4, .int (x4 ||| ((((((x3 * 1103515245) + 12345) >>> ((16 : Int32) &&& 31)) &&& 32767) - ((((x3 * 1103515245) + 12345) >>> ((16 : Int32) &&& 31)) &&& 32767) / 2 * 2) <<< (x5 &&& 31)))), (3, .int ((x3 * 1103515245) + 12345)), (0, .ref 22), (1, .ref a1), (5, .int x5)]) (by decide) rfl dX3_drawLots_45 ?_
      refine g_iinc (v := x5 + 1) (L' := [(5, .int (x5 + 1)), (4, .int (x4 ||| ((((((x3 * 1103515245) + 12345) >>> ((16 : Int32) &&& 31)) &&& 32767) - ((((x3 * 1103515245) + 12345) >>> ((16 : Int32) &&& 31)) &&& 32767) / 2 * 2) <<< (x5 &&& 31)))), (3, .int ((x3 * 1103515245) + 12345)), (0, .ref 22), (1, .ref a1)]) 4 rfl rfl (by decide) rfl dX3_drawLots_47 ?_
      refine g_goto (tgt := 8) rfl dX3_drawLots_50 ?_
      exact GO.pick [3, 4, 2, 1, 0] rfl <| hrec8 M ((x3 * 1103515245) + 12345) (x4 ||| ((((((x3 * 1103515245) + 12345) >>> ((16 : Int32) &&& 31)) &&& 32767) - ((((x3 * 1103515245) + 12345) >>> ((16 : Int32) &&& 31)) &&& 32767) / 2 * 2) <<< (x5 &&& 31))) (x5 + 1)
def fX3_drawLots (a1 : Nat) (M : Mem) (x2 : Int32) : RS := fX3_drawLots_b8 a1 FU M x2 0 0
theorem SX3_drawLots (a1 : Nat) (h1 : a1 ∈ [39, 62]) (M : Mem) (x2 : Int32) : CTO (0) miX3_drawLots 0 0 [.ref 22, .ref a1, .int x2] M (fX3_drawLots a1 M x2) := by
  refine CTO.of (by decide) (by simp [lg_sl, Value.category]) ?_
  show GO miX3_drawLots (0) 0 0 0 0 0 [(0, .ref 22), (1, .ref a1), (2, .int x2)] [] M (fX3_drawLots_b8 a1 FU M x2 0 0)
  refine g_iload_n 2 rfl rfl dX3_drawLots_0 ?_
  refine g_istore_n (L' := [(3, .int x2), (0, .ref 22), (1, .ref a1), (2, .int x2)]) (by decide) rfl rfl dX3_drawLots_1 ?_
  refine g_iconst (v := 0) (by decide) dX3_drawLots_2 ?_
  refine g_istore (L' := [(4, .int 0), (3, .int x2), (0, .ref 22), (1, .ref a1), (2, .int x2)]) (by decide) rfl dX3_drawLots_3 ?_
  refine g_iconst (v := 0) (by decide) dX3_drawLots_5 ?_
  refine g_istore (L' := [(5, .int 0), (4, .int 0), (3, .int x2), (0, .ref 22), (1, .ref a1), (2, .int x2)]) (by decide) rfl dX3_drawLots_6 ?_
  exact GO.pick [3, 4, 2, 1, 0] rfl <| SX3_drawLots_b8 a1 h1 FU M x2 0 0
def fX11_lots (M : Mem) (x1 : Int32) : RS := bV (fX11_keepAct M) (fun M1 => bI (fX3_drawLots 39 M1 x1) (fun M3 v4 => bV (fX3_takeShares 39 M3 (-1)) (fun M5 => some (M5, .inr (some (.int (gi M5 39 0)))))))
theorem SX11_lots (M : Mem) (x1 : Int32) : CTO (6) miX11_lots 0 0 [.ref 0, .int x1] M (fX11_lots  M x1) := by
  refine CTO.of (by decide) (by simp [lg_sl, Value.category]) ?_
  show GO miX11_lots (6) 0 0 0 0 0 [(0, .ref 0), (1, .int x1)] [] M (bV (fX11_keepAct M) (fun M1 => bI (fX3_drawLots 39 M1 x1) (fun M3 v4 => bV (fX3_takeShares 39 M3 (-1)) (fun M5 => some (M5, .inr (some (.int (gi M5 39 0))))))))
  refine g_aload_n 0 rfl rfl dX11_lots_0 ?_
  refine g_callVV (y := miX11_keepAct) (As := []) (rest := []) clX11 kd_0 rfl moX11_keepAct rfl mlX11_224 (by first | decide | omega) (by decide) (by simp [Value.category]) rfl dX11_lots_1 (SX11_keepAct  M) (fun M1 => ?_)
  refine g_aload_n 0 rfl rfl dX11_lots_4 ?_
  refine g_getR (k := 2) (b := 22) clX11 kd_0 (by decide) rfl rfl flX11_35 dX11_lots_5 ?_
  refine g_aload_n 0 rfl rfl dX11_lots_8 ?_
  refine g_getR (k := 3) (b := 38) clX11 kd_0 (by decide) rfl rfl flX11_42 dX11_lots_9 ?_
  refine g_getR (k := 0) (b := 39) clX0 kd_38 (by decide) rfl rfl flX11_96 dX11_lots_12 ?_
  refine g_iload_n 1 rfl rfl dX11_lots_15 ?_
  refine g_callVI (y := miX3_drawLots) (As := [.ref 39, .int x1]) (rest := []) clX3 kd_22 rfl moX3_drawLots rfl mlX11_227 (by first | decide | omega) (by decide) (by simp [Value.category]) rfl dX11_lots_16 (SX3_drawLots 39 (by decide) M1 x1) (fun M3 v4 => ?_)
  refine g_pop_int dX11_lots_19 ?_
  refine g_aload_n 0 rfl rfl dX11_lots_20 ?_
  refine g_getR (k := 2) (b := 22) clX11 kd_0 (by decide) rfl rfl flX11_35 dX11_lots_21 ?_
  refine g_aload_n 0 rfl rfl dX11_lots_24 ?_
  refine g_getR (k := 3) (b := 38) clX11 kd_0 (by decide) rfl rfl flX11_42 dX11_lots_25 ?_
  refine g_getR (k := 0) (b := 39) clX0 kd_38 (by decide) rfl rfl flX11_96 dX11_lots_28 ?_
  refine g_iconst (v := (-1)) (by decide) dX11_lots_31 ?_
  refine g_callVV (y := miX3_takeShares) (As := [.ref 39, .int (-1)]) (rest := []) clX3 kd_22 rfl moX3_takeShares rfl mlX11_99 (by first | decide | omega) (by decide) (by simp [Value.category]) rfl dX11_lots_32 (SX3_takeShares 39 (by decide) M3 (-1)) (fun M5 => ?_)
  refine g_aload_n 0 rfl rfl dX11_lots_35 ?_
  refine g_getR (k := 3) (b := 38) clX11 kd_0 (by decide) rfl rfl flX11_42 dX11_lots_36 ?_
  refine g_getR (k := 0) (b := 39) clX0 kd_38 (by decide) rfl rfl flX11_96 dX11_lots_39 ?_
  refine g_getI (k := 0) clX8 kd_39 (by decide) rfl flX11_135 dX11_lots_42 ?_
  exact g_ireturn rfl (by decide) (by decide) dX11_lots_45 rfl rfl
def fX8_turnLot (a0 : Nat) (M : Mem) (x1 : Int32) : RS := wr (si M a0 0 ((gi M a0 0) ^^^ ((1 : Int32) <<< (x1 &&& 31)))) (fun M1 => some (M1, .inr none))
theorem SX8_turnLot (a0 : Nat) (h0 : a0 ∈ [39, 62]) (M : Mem) (x1 : Int32) : CTO (0) miX8_turnLot 0 0 [.ref a0, .int x1] M (fX8_turnLot a0 M x1) := by
  refine CTO.of (by decide) (by simp [lg_sl, Value.category]) ?_
  show GO miX8_turnLot (0) 0 0 0 0 0 [(0, .ref a0), (1, .int x1)] [] M (wr (si M a0 0 ((gi M a0 0) ^^^ ((1 : Int32) <<< (x1 &&& 31)))) (fun M1 => some (M1, .inr none)))
  refine g_aload_n 0 rfl rfl dX8_turnLot_0 ?_
  refine g_dup_ref dX8_turnLot_1 ?_
  refine g_getI (k := 0) clX8 (kv_d39_62_0 _ h0) (by decide) rfl flX8_28 dX8_turnLot_2 ?_
  refine g_iconst (v := 1) (by decide) dX8_turnLot_5 ?_
  refine g_iload_n 1 rfl rfl dX8_turnLot_6 ?_
  refine g_ishl dX8_turnLot_7 ?_
  refine g_ixor dX8_turnLot_8 ?_
  refine g_putI (k := 0) clX8 (kv_d39_62_0 _ h0) (by decide) rfl (by decide) rfl flX8_28 dX8_turnLot_9 ?_
  refine GO.wr (fun M1 => ?_)
  exact g_vreturn rfl (by decide) (by decide) dX8_turnLot_12
def fX11_turn (M : Mem) (x1 : Int32) : RS := bV (fX11_needHouse M x1) (fun M1 => bV (fX11_keepAct M1) (fun M3 => bV (fX8_turnLot 39 M3 x1) (fun M5 => wr (si M5 39 6 ((gi M5 39 6) + 1)) (fun M7 => bV (fX3_takeShares 39 M7 (-1)) (fun M8 => bI (fX8_lotOf 39 M8 x1) (fun M10 v11 => some (M10, .inr (some (.int v11)))))))))
theorem SX11_turn (M : Mem) (x1 : Int32) : CTO (7) miX11_turn 1 6 [.ref 0, .int x1] M (fX11_turn  M x1) := by
  refine CTO.of (by decide) (by simp [lg_sl, Value.category]) ?_
  show GO miX11_turn (7) 1 6 0 0 0 [(0, .ref 0), (1, .int x1)] [] M (bV (fX11_needHouse M x1) (fun M1 => bV (fX11_keepAct M1) (fun M3 => bV (fX8_turnLot 39 M3 x1) (fun M5 => wr (si M5 39 6 ((gi M5 39 6) + 1)) (fun M7 => bV (fX3_takeShares 39 M7 (-1)) (fun M8 => bI (fX8_lotOf 39 M8 x1) (fun M10 v11 => some (M10, .inr (some (.int v11))))))))))
  refine g_aload_n 0 rfl rfl dX11_turn_0 ?_
  refine g_iload_n 1 rfl rfl dX11_turn_1 ?_
  refine g_callVV (y := miX11_needHouse) (As := [.int x1]) (rest := []) clX11 kd_0 rfl moX11_needHouse rfl mlX11_157 (by first | decide | omega) (by decide) (by simp [Value.category]) rfl dX11_turn_2 (SX11_needHouse  M x1) (fun M1 => ?_)
  refine g_aload_n 0 rfl rfl dX11_turn_5 ?_
  refine g_callVV (y := miX11_keepAct) (As := []) (rest := []) clX11 kd_0 rfl moX11_keepAct rfl mlX11_224 (by first | decide | omega) (by decide) (by simp [Value.category]) rfl dX11_turn_6 (SX11_keepAct  M1) (fun M3 => ?_)
  refine g_aload_n 0 rfl rfl dX11_turn_9 ?_
  refine g_getR (k := 3) (b := 38) clX11 kd_0 (by decide) rfl rfl flX11_42 dX11_turn_10 ?_
  refine g_getR (k := 0) (b := 39) clX0 kd_38 (by decide) rfl rfl flX11_96 dX11_turn_13 ?_
  refine g_iload_n 1 rfl rfl dX11_turn_16 ?_
  refine g_callVV (y := miX8_turnLot) (As := [.int x1]) (rest := []) clX8 kd_39 rfl moX8_turnLot rfl mlX11_230 (by first | decide | omega) (by decide) (by simp [Value.category]) rfl dX11_turn_17 (SX8_turnLot 39 (by decide) M3 x1) (fun M5 => ?_)
  refine g_aload_n 0 rfl rfl dX11_turn_20 ?_
  refine g_getR (k := 3) (b := 38) clX11 kd_0 (by decide) rfl rfl flX11_42 dX11_turn_21 ?_
  refine g_getR (k := 0) (b := 39) clX0 kd_38 (by decide) rfl rfl flX11_96 dX11_turn_24 ?_
  refine g_dup_ref dX11_turn_27 ?_
  refine g_getI (k := 6) clX8 kd_39 (by decide) rfl flX11_132 dX11_turn_28 ?_
  refine g_iconst (v := 1) (by decide) dX11_turn_31 ?_
  refine g_iadd dX11_turn_32 ?_
  refine g_putI (k := 6) clX8 kd_39 (by decide) rfl (by decide) rfl flX11_132 dX11_turn_33 ?_
  refine GO.wr (fun M7 => ?_)
  refine g_aload_n 0 rfl rfl dX11_turn_36 ?_
  refine g_getR (k := 2) (b := 22) clX11 kd_0 (by decide) rfl rfl flX11_35 dX11_turn_37 ?_
  refine g_aload_n 0 rfl rfl dX11_turn_40 ?_
  refine g_getR (k := 3) (b := 38) clX11 kd_0 (by decide) rfl rfl flX11_42 dX11_turn_41 ?_
  refine g_getR (k := 0) (b := 39) clX0 kd_38 (by decide) rfl rfl flX11_96 dX11_turn_44 ?_
  refine g_iconst (v := (-1)) (by decide) dX11_turn_47 ?_
  refine g_callVV (y := miX3_takeShares) (As := [.ref 39, .int (-1)]) (rest := []) clX3 kd_22 rfl moX3_takeShares rfl mlX11_99 (by first | decide | omega) (by decide) (by simp [Value.category]) rfl dX11_turn_48 (SX3_takeShares 39 (by decide) M7 (-1)) (fun M8 => ?_)
  refine g_aload_n 0 rfl rfl dX11_turn_51 ?_
  refine g_getR (k := 3) (b := 38) clX11 kd_0 (by decide) rfl rfl flX11_42 dX11_turn_52 ?_
  refine g_getR (k := 0) (b := 39) clX0 kd_38 (by decide) rfl rfl flX11_96 dX11_turn_55 ?_
  refine g_iload_n 1 rfl rfl dX11_turn_58 ?_
  refine g_callVI (y := miX8_lotOf) (As := [.int x1]) (rest := []) clX8 kd_39 rfl moX8_lotOf rfl mlX11_169 (by first | decide | omega) (by decide) (by simp [Value.category]) rfl dX11_turn_59 (SX8_lotOf 39 (by decide) M8 x1) (fun M10 v11 => ?_)
  exact g_ireturn rfl (by decide) (by decide) dX11_turn_62 rfl rfl
def fX11_refuse (M : Mem) (x1 : Int32) : RS := chk (inb x1 3) (chk (inb x1 3) (wr (si M 49 (ix x1) ((gi M 49 (ix x1)) + 1)) (fun M3 => some (M3, .inr (some (.int (-1)))))))
theorem SX11_refuse (M : Mem) (x1 : Int32) : CTO (0) miX11_refuse 0 0 [.ref 0, .int x1] M (fX11_refuse  M x1) := by
  refine CTO.of (by decide) (by simp [lg_sl, Value.category]) ?_
  show GO miX11_refuse (0) 0 0 0 0 0 [(0, .ref 0), (1, .int x1)] [] M (chk (inb x1 3) (chk (inb x1 3) (wr (si M 49 (ix x1) ((gi M 49 (ix x1)) + 1)) (fun M3 => some (M3, .inr (some (.int (-1))))))))
  refine g_aload_n 0 rfl rfl dX11_refuse_0 ?_
  refine g_getR (k := 3) (b := 38) clX11 kd_0 (by decide) rfl rfl flX11_42 dX11_refuse_1 ?_
  refine g_getR (k := 3) (b := 49) clX0 kd_38 (by decide) rfl rfl flX11_86 dX11_refuse_4 ?_
  refine g_iload_n 1 rfl rfl dX11_refuse_7 ?_
  refine g_dup2_ri dX11_refuse_8 ?_
  refine g_ald kd_49 dX11_refuse_9 (fun hi1 => ?_)
  refine g_iconst (v := 1) (by decide) dX11_refuse_10 ?_
  refine g_iadd dX11_refuse_11 ?_
  refine g_ast kd_49 dX11_refuse_12 (fun hi2 => ?_)
  refine GO.wr (fun M3 => ?_)
  refine g_iconst (v := (-1)) (by decide) dX11_refuse_13 ?_
  exact g_ireturn rfl (by decide) (by decide) dX11_refuse_14 rfl rfl
def fX8_moveInOrder_b72 (a0 : Nat) (rec21 : Mem → Int32 → Int32 → Int32 → Int32 → RS) (M : Mem) (x1 : Int32) (x2 : Int32) (x3 : Int32) (x4 : Int32) : RS := rec21 M x1 x2 x3 (x4 + 1)
theorem SX8_moveInOrder_b72 (a0 : Nat) (h0 : a0 ∈ [39, 62]) (rec21 : Mem → Int32 → Int32 → Int32 → Int32 → RS) (hrec21 : ∀ (M : Mem) (x1 : Int32) (x2 : Int32) (x3 : Int32) (x4 : Int32), GO miX8_moveInOrder (0) 0 0 0 0 21 [(0, .ref a0), (1, .int x1), (2, .int x2), (3, .int x3), (4, .int x4)] [] M (rec21 M x1 x2 x3 x4)) (M : Mem) (x1 : Int32) (x2 : Int32) (x3 : Int32) (x4 : Int32) : GO miX8_moveInOrder (0) 0 0 0 0 72 [(0, .ref a0), (1, .int x1), (2, .int x2), (3, .int x3), (4, .int x4)] [] M (fX8_moveInOrder_b72 a0 rec21 M x1 x2 x3 x4) := by
  show GO miX8_moveInOrder (0) 0 0 0 0 72 [(0, .ref a0), (1, .int x1), (2, .int x2), (3, .int x3), (4, .int x4)] [] M (rec21 M x1 x2 x3 (x4 + 1))
  refine g_iinc (v := x4 + 1) (L' := [(4, .int (x4 + 1)), (0, .ref a0), (1, .int x1), (2, .int x2), (3, .int x3)]) 4 rfl rfl (by decide) rfl dX8_moveInOrder_72 ?_
  refine g_goto (tgt := 21) rfl dX8_moveInOrder_75 ?_
  exact GO.pick [1, 2, 3, 4, 0] rfl <| hrec21 M x1 x2 x3 (x4 + 1)
def fX8_moveInOrder_b50 (a0 : Nat) (rec21 : Mem → Int32 → Int32 → Int32 → Int32 → RS) (M : Mem) (x1 : Int32) (x2 : Int32) (x3 : Int32) (x4 : Int32) : RS := chk (inb x4 8) (if (gi M (a0 + 1) (ix x4)) < x2 then fX8_moveInOrder_b72 a0 rec21 M x1 x2 x3 x4 else chk (inb x4 8) (chk (inb x4 8) (wr (si M (a0 + 1) (ix x4) ((gi M (a0 + 1) (ix x4)) + 1)) (fun M11 => fX8_moveInOrder_b72 a0 rec21 M11 x1 x2 x3 x4))))
theorem SX8_moveInOrder_b50 (a0 : Nat) (h0 : a0 ∈ [39, 62]) (rec21 : Mem → Int32 → Int32 → Int32 → Int32 → RS) (hrec21 : ∀ (M : Mem) (x1 : Int32) (x2 : Int32) (x3 : Int32) (x4 : Int32), GO miX8_moveInOrder (0) 0 0 0 0 21 [(0, .ref a0), (1, .int x1), (2, .int x2), (3, .int x3), (4, .int x4)] [] M (rec21 M x1 x2 x3 x4)) (M : Mem) (x1 : Int32) (x2 : Int32) (x3 : Int32) (x4 : Int32) : GO miX8_moveInOrder (0) 0 0 0 0 50 [(0, .ref a0), (1, .int x1), (2, .int x2), (3, .int x3), (4, .int x4)] [] M (fX8_moveInOrder_b50 a0 rec21 M x1 x2 x3 x4) := by
  show GO miX8_moveInOrder (0) 0 0 0 0 50 [(0, .ref a0), (1, .int x1), (2, .int x2), (3, .int x3), (4, .int x4)] [] M (chk (inb x4 8) (if (gi M (a0 + 1) (ix x4)) < x2 then fX8_moveInOrder_b72 a0 rec21 M x1 x2 x3 x4 else chk (inb x4 8) (chk (inb x4 8) (wr (si M (a0 + 1) (ix x4) ((gi M (a0 + 1) (ix x4)) + 1)) (fun M11 => fX8_moveInOrder_b72 a0 rec21 M11 x1 x2 x3 x4)))))
  refine g_aload_n 0 rfl rfl dX8_moveInOrder_50 ?_
  refine g_getR (k := 7) (b := (a0 + 1)) clX8 (kv_d39_62_0 _ h0) (by decide) rfl rfl flX8_18 dX8_moveInOrder_51 ?_
  refine g_iload 4 rfl dX8_moveInOrder_54 ?_
  refine g_ald (kv_d39_62_1 _ h0) dX8_moveInOrder_56 (fun hi8 => ?_)
  refine g_iload_n 2 rfl rfl dX8_moveInOrder_57 ?_
  refine g_icmp_lt (tgt := 72) rfl dX8_moveInOrder_58 (fun c => ?_) (fun c => ?_)
  · exact GO.pick [0, 1, 2, 3, 4] rfl <| SX8_moveInOrder_b72 a0 h0 rec21 hrec21 M x1 x2 x3 x4
  · refine g_aload_n 0 rfl rfl dX8_moveInOrder_61 ?_
    refine g_getR (k := 7) (b := (a0 + 1)) clX8 (kv_d39_62_0 _ h0) (by decide) rfl rfl flX8_18 dX8_moveInOrder_62 ?_
    refine g_iload 4 rfl dX8_moveInOrder_65 ?_
    refine g_dup2_ri dX8_moveInOrder_67 ?_
    refine g_ald (kv_d39_62_1 _ h0) dX8_moveInOrder_68 (fun hi9 => ?_)
    refine g_iconst (v := 1) (by decide) dX8_moveInOrder_69 ?_
    refine g_iadd dX8_moveInOrder_70 ?_
    refine g_ast (kv_d39_62_1 _ h0) dX8_moveInOrder_71 (fun hi10 => ?_)
    refine GO.wr (fun M11 => ?_)
    exact GO.pick [0, 1, 2, 3, 4] rfl <| SX8_moveInOrder_b72 a0 h0 rec21 hrec21 M11 x1 x2 x3 x4
def fX8_moveInOrder_b21 (a0 : Nat) : Nat → Mem → Int32 → Int32 → Int32 → Int32 → RS
  | 0 => fun _ _ _ _ _ => none
  | n + 1 => fun M x1 x2 x3 x4 => if x4 < 8 then chk (inb x4 8) (if x3 < (gi M (a0 + 1) (ix x4)) then chk (inb x4 8) (chk (inb x4 8) (wr (si M (a0 + 1) (ix x4) ((gi M (a0 + 1) (ix x4)) - 1)) (fun M7 => fX8_moveInOrder_b50 a0 (fX8_moveInOrder_b21 a0 n) M7 x1 x2 x3 x4))) else fX8_moveInOrder_b50 a0 (fX8_moveInOrder_b21 a0 n) M x1 x2 x3 x4) else chk (inb x1 8) (wr (si M (a0 + 1) (ix x1) x2) (fun M3 => some (M3, .inr none)))
theorem SX8_moveInOrder_b21 (a0 : Nat) (h0 : a0 ∈ [39, 62]) (n : Nat) : ∀ (M : Mem) (x1 : Int32) (x2 : Int32) (x3 : Int32) (x4 : Int32), GO miX8_moveInOrder (0) 0 0 0 0 21 [(0, .ref a0), (1, .int x1), (2, .int x2), (3, .int x3), (4, .int x4)] [] M (fX8_moveInOrder_b21 a0 n M x1 x2 x3 x4) := by
  induction n with
  | zero => intro M x1 x2 x3 x4 ; exact GO.none
  | succ n hrec21 =>
    intro M x1 x2 x3 x4 
    show GO miX8_moveInOrder (0) 0 0 0 0 21 [(0, .ref a0), (1, .int x1), (2, .int x2), (3, .int x3), (4, .int x4)] [] M (if x4 < 8 then chk (inb x4 8) (if x3 < (gi M (a0 + 1) (ix x4)) then chk (inb x4 8) (chk (inb x4 8) (wr (si M (a0 + 1) (ix x4) ((gi M (a0 + 1) (ix x4)) - 1)) (fun M7 => fX8_moveInOrder_b50 a0 (fX8_moveInOrder_b21 a0 n) M7 x1 x2 x3 x4))) else fX8_moveInOrder_b50 a0 (fX8_moveInOrder_b21 a0 n) M x1 x2 x3 x4) else chk (inb x1 8) (wr (si M (a0 + 1) (ix x1) x2) (fun M3 => some (M3, .inr none))))
    refine g_iload 4 rfl dX8_moveInOrder_21 ?_
    refine g_bipush (v := 8) (by decide) dX8_moveInOrder_23 ?_
    refine g_icmp_ge (tgt := 78) rfl dX8_moveInOrder_25 (fun c => ?_) (fun c => ?_)
    · refine g_aload_n 0 rfl rfl dX8_moveInOrder_78 ?_
      refine g_getR (k := 7) (b := (a0 + 1)) clX8 (kv_d39_62_0 _ h0) (by decide) rfl rfl flX8_18 dX8_moveInOrder_79 ?_
      refine g_iload_n 1 rfl rfl dX8_moveInOrder_82 ?_
      refine g_iload_n 2 rfl rfl dX8_moveInOrder_83 ?_
      refine g_ast (kv_d39_62_1 _ h0) dX8_moveInOrder_84 (fun hi2 => ?_)
      refine GO.wr (fun M3 => ?_)
      exact g_vreturn rfl (by decide) (by decide) dX8_moveInOrder_85
    · refine g_aload_n 0 rfl rfl dX8_moveInOrder_28 ?_
      refine g_getR (k := 7) (b := (a0 + 1)) clX8 (kv_d39_62_0 _ h0) (by decide) rfl rfl flX8_18 dX8_moveInOrder_29 ?_
      refine g_iload 4 rfl dX8_moveInOrder_32 ?_
      refine g_ald (kv_d39_62_1 _ h0) dX8_moveInOrder_34 (fun hi4 => ?_)
      refine g_iload_n 3 rfl rfl dX8_moveInOrder_35 ?_
      refine g_icmp_le (tgt := 50) rfl dX8_moveInOrder_36 (fun c => ?_) (fun c => ?_)
      · exact GO.pick [0, 1, 2, 3, 4] rfl <| SX8_moveInOrder_b50 a0 h0 (fX8_moveInOrder_b21 a0 n) hrec21 M x1 x2 x3 x4
      · refine g_aload_n 0 rfl rfl dX8_moveInOrder_39 ?_
        refine g_getR (k := 7) (b := (a0 + 1)) clX8 (kv_d39_62_0 _ h0) (by decide) rfl rfl flX8_18 dX8_moveInOrder_40 ?_
        refine g_iload 4 rfl dX8_moveInOrder_43 ?_
        refine g_dup2_ri dX8_moveInOrder_45 ?_
        refine g_ald (kv_d39_62_1 _ h0) dX8_moveInOrder_46 (fun hi5 => ?_)
        refine g_iconst (v := 1) (by decide) dX8_moveInOrder_47 ?_
        refine g_isub dX8_moveInOrder_48 ?_
        refine g_ast (kv_d39_62_1 _ h0) dX8_moveInOrder_49 (fun hi6 => ?_)
        refine GO.wr (fun M7 => ?_)
        exact GO.pick [0, 1, 2, 3, 4] rfl <| SX8_moveInOrder_b50 a0 h0 (fX8_moveInOrder_b21 a0 n) hrec21 M7 x1 x2 x3 x4
def fX8_moveInOrder (a0 : Nat) (M : Mem) (x1 : Int32) (x2 : Int32) : RS := if x1 < 0 then some (M, .inr none) else if x1 < 8 then chk (inb x1 8) (fX8_moveInOrder_b21 a0 FU M x1 x2 (gi M (a0 + 1) (ix x1)) 0) else some (M, .inr none)
theorem SX8_moveInOrder (a0 : Nat) (h0 : a0 ∈ [39, 62]) (M : Mem) (x1 : Int32) (x2 : Int32) : CTO (0) miX8_moveInOrder 0 0 [.ref a0, .int x1, .int x2] M (fX8_moveInOrder a0 M x1 x2) := by
  refine CTO.of (by decide) (by simp [lg_sl, Value.category]) ?_
  show GO miX8_moveInOrder (0) 0 0 0 0 0 [(0, .ref a0), (1, .int x1), (2, .int x2)] [] M (if x1 < 0 then some (M, .inr none) else if x1 < 8 then chk (inb x1 8) (fX8_moveInOrder_b21 a0 FU M x1 x2 (gi M (a0 + 1) (ix x1)) 0) else some (M, .inr none))
  refine g_iload_n 1 rfl rfl dX8_moveInOrder_0 ?_
  refine g_if_lt (tgt := 10) rfl dX8_moveInOrder_1 (fun c => ?_) (fun c => ?_)
  · exact g_vreturn rfl (by decide) (by decide) dX8_moveInOrder_10
  · refine g_iload_n 1 rfl rfl dX8_moveInOrder_4 ?_
    refine g_bipush (v := 8) (by decide) dX8_moveInOrder_5 ?_
    refine g_icmp_lt (tgt := 11) rfl dX8_moveInOrder_7 (fun c => ?_) (fun c => ?_)
    · refine g_aload_n 0 rfl rfl dX8_moveInOrder_11 ?_
      refine g_getR (k := 7) (b := (a0 + 1)) clX8 (kv_d39_62_0 _ h0) (by decide) rfl rfl flX8_18 dX8_moveInOrder_12 ?_
      refine g_iload_n 1 rfl rfl dX8_moveInOrder_15 ?_
      refine g_ald (kv_d39_62_1 _ h0) dX8_moveInOrder_16 (fun hi1 => ?_)
      refine g_istore_n (L' := [(3, .int (gi M (a0 + 1) (ix x1))), (0, .ref a0), (1, .int x1), (2, .int x2)]) (by decide) rfl rfl dX8_moveInOrder_17 ?_
      refine g_iconst (v := 0) (by decide) dX8_moveInOrder_18 ?_
      refine g_istore (L' := [(4, .int 0), (3, .int (gi M (a0 + 1) (ix x1))), (0, .ref a0), (1, .int x1), (2, .int x2)]) (by decide) rfl dX8_moveInOrder_19 ?_
      exact GO.pick [2, 3, 4, 1, 0] rfl <| SX8_moveInOrder_b21 a0 h0 FU M x1 x2 (gi M (a0 + 1) (ix x1)) 0
    · exact g_vreturn rfl (by decide) (by decide) dX8_moveInOrder_10
def fX11_order_b23 (M : Mem)  : RS := bI (fX11_refuse M 1) (fun M10 v11 => some (M10, .inr (some (.int v11))))
theorem SX11_order_b23 (M : Mem)  : GO miX11_order (7) 1 6 1 6 23 [(0, .ref 0)] [] M (fX11_order_b23 M ) := by
  show GO miX11_order (7) 1 6 1 6 23 [(0, .ref 0)] [] M (bI (fX11_refuse M 1) (fun M10 v11 => some (M10, .inr (some (.int v11)))))
  refine g_aload_n 0 rfl rfl dX11_order_23 ?_
  refine g_iconst (v := 1) (by decide) dX11_order_24 ?_
  refine g_callVI (y := miX11_refuse) (As := [.int 1]) (rest := []) clX11 kd_0 rfl moX11_refuse rfl mlX11_233 (by first | decide | omega) (by decide) (by simp [Value.category]) rfl dX11_order_25 (SX11_refuse  M 1) (fun M10 v11 => ?_)
  exact g_ireturn rfl (by decide) (by decide) dX11_order_28 rfl rfl
def fX11_order (M : Mem) (x1 : Int32) (x2 : Int32) : RS := bV (fX11_needHouse M x1) (fun M1 => if x2 < 0 then fX11_order_b23  M1 else if x2 < (gi M1 (isA (gb M1 0)) 9) then bV (fX11_keepAct M1) (fun M3 => chk (inb x1 8) (bV (fX8_moveInOrder 39 M3 x1 x2) (fun M6 => bV (fX3_takeShares 39 M6 (-1)) (fun M8 => some (M8, .inr (some (.int (gi M3 40 (ix x1))))))))) else fX11_order_b23  M1)
theorem SX11_order (M : Mem) (x1 : Int32) (x2 : Int32) : CTO (7) miX11_order 1 6 [.ref 0, .int x1, .int x2] M (fX11_order  M x1 x2) := by
  refine CTO.of (by decide) (by simp [lg_sl, Value.category]) ?_
  show GO miX11_order (7) 1 6 0 0 0 [(0, .ref 0), (1, .int x1), (2, .int x2)] [] M (bV (fX11_needHouse M x1) (fun M1 => if x2 < 0 then fX11_order_b23  M1 else if x2 < (gi M1 (isA (gb M1 0)) 9) then bV (fX11_keepAct M1) (fun M3 => chk (inb x1 8) (bV (fX8_moveInOrder 39 M3 x1 x2) (fun M6 => bV (fX3_takeShares 39 M6 (-1)) (fun M8 => some (M8, .inr (some (.int (gi M3 40 (ix x1))))))))) else fX11_order_b23  M1))
  refine g_aload_n 0 rfl rfl dX11_order_0 ?_
  refine g_iload_n 1 rfl rfl dX11_order_1 ?_
  refine g_callVV (y := miX11_needHouse) (As := [.int x1]) (rest := []) clX11 kd_0 rfl moX11_needHouse rfl mlX11_157 (by first | decide | omega) (by decide) (by simp [Value.category]) rfl dX11_order_2 (SX11_needHouse  M x1) (fun M1 => ?_)
  refine g_iload_n 2 rfl rfl dX11_order_5 ?_
  refine g_if_lt (tgt := 23) rfl dX11_order_6 (fun c => ?_) (fun c => ?_)
  · exact GO.pick [0] rfl <| SX11_order_b23  M1
  · refine g_iload_n 2 rfl rfl dX11_order_9 ?_
    refine g_aload_n 0 rfl rfl dX11_order_10 ?_
    refine g_getR (k := 2) (b := 22) clX11 kd_0 (by decide) rfl rfl flX11_35 dX11_order_11 ?_
    refine g_getR (k := 1) (b := (isA (gb M1 0))) clX3 kd_22 (by decide) rfl rfl flX11_89 dX11_order_14 ?_
    refine g_getI (k := 9) clX2 (kv_d3_24_0 _ (isA_dom _)) (by decide) rfl flX11_106 dX11_order_17 ?_
    refine g_icmp_lt (tgt := 29) rfl dX11_order_20 (fun c => ?_) (fun c => ?_)
    · refine g_aload_n 0 rfl rfl dX11_order_29 ?_
      refine g_callVV (y := miX11_keepAct) (As := []) (rest := []) clX11 kd_0 rfl moX11_keepAct rfl mlX11_224 (by first | decide | omega) (by decide) (by simp [Value.category]) rfl dX11_order_30 (SX11_keepAct  M1) (fun M3 => ?_)
      refine g_aload_n 0 rfl rfl dX11_order_33 ?_
      refine g_getR (k := 3) (b := 38) clX11 kd_0 (by decide) rfl rfl flX11_42 dX11_order_34 ?_
      refine g_getR (k := 0) (b := 39) clX0 kd_38 (by decide) rfl rfl flX11_96 dX11_order_37 ?_
      refine g_getR (k := 7) (b := 40) clX8 kd_39 (by decide) rfl rfl flX11_178 dX11_order_40 ?_
      refine g_iload_n 1 rfl rfl dX11_order_43 ?_
      refine g_ald kd_40 dX11_order_44 (fun hi5 => ?_)
      refine g_istore_n (L' := [(3, .int (gi M3 40 (ix x1))), (0, .ref 0), (1, .int x1), (2, .int x2)]) (by decide) rfl rfl dX11_order_45 ?_
      refine g_aload_n 1 rfl rfl dX11_order_46 ?_
      refine g_getR (k := 3) (b := 38) clX11 kd_0 (by decide) rfl rfl flX11_42 dX11_order_47 ?_
      refine g_getR (k := 0) (b := 39) clX0 kd_38 (by decide) rfl rfl flX11_96 dX11_order_50 ?_
      refine g_iload_n 2 rfl rfl dX11_order_53 ?_
      refine g_iload_n 3 rfl rfl dX11_order_54 ?_
      refine g_callVV (y := miX8_moveInOrder) (As := [.int x1, .int x2]) (rest := []) clX8 kd_39 rfl moX8_moveInOrder rfl mlX11_236 (by first | decide | omega) (by decide) (by simp [Value.category]) rfl dX11_order_55 (SX8_moveInOrder 39 (by decide) M3 x1 x2) (fun M6 => ?_)
      refine g_aload_n 1 rfl rfl dX11_order_58 ?_
      refine g_getR (k := 2) (b := 22) clX11 kd_0 (by decide) rfl rfl flX11_35 dX11_order_59 ?_
      refine g_aload_n 1 rfl rfl dX11_order_62 ?_
      refine g_getR (k := 3) (b := 38) clX11 kd_0 (by decide) rfl rfl flX11_42 dX11_order_63 ?_
      refine g_getR (k := 0) (b := 39) clX0 kd_38 (by decide) rfl rfl flX11_96 dX11_order_66 ?_
      refine g_iconst (v := (-1)) (by decide) dX11_order_69 ?_
      refine g_callVV (y := miX3_takeShares) (As := [.ref 39, .int (-1)]) (rest := []) clX3 kd_22 rfl moX3_takeShares rfl mlX11_99 (by first | decide | omega) (by decide) (by simp [Value.category]) rfl dX11_order_70 (SX3_takeShares 39 (by decide) M6 (-1)) (fun M8 => ?_)
      refine g_iload_n 0 rfl rfl dX11_order_73 ?_
      exact g_ireturn rfl (by decide) (by decide) dX11_order_74 rfl rfl
    · exact GO.pick [0] rfl <| SX11_order_b23  M1
def fX11_exchange (M : Mem) (x1 : Int32) (x2 : Int32) : RS := bV (fX11_needHouse M x1) (fun M1 => bV (fX11_needHouse M1 x2) (fun M3 => if x1 = x2 then bI (fX11_refuse M3 1) (fun M13 v14 => some (M13, .inr (some (.int 0)))) else bV (fX11_keepAct M3) (fun M5 => chk (inb x1 8) (chk (inb x2 8) (chk (inb x1 8) (wr (si M5 41 (ix x1) (gi M5 41 (ix x2))) (fun M10 => chk (inb x2 8) (wr (si M10 41 (ix x2) (gi M5 41 (ix x1))) (fun M12 => some (M12, .inr (some (.int 1))))))))))))
theorem SX11_exchange (M : Mem) (x1 : Int32) (x2 : Int32) : CTO (7) miX11_exchange 2 12 [.ref 0, .int x1, .int x2] M (fX11_exchange  M x1 x2) := by
  refine CTO.of (by decide) (by simp [lg_sl, Value.category]) ?_
  show GO miX11_exchange (7) 2 12 0 0 0 [(0, .ref 0), (1, .int x1), (2, .int x2)] [] M (bV (fX11_needHouse M x1) (fun M1 => bV (fX11_needHouse M1 x2) (fun M3 => if x1 = x2 then bI (fX11_refuse M3 1) (fun M13 v14 => some (M13, .inr (some (.int 0)))) else bV (fX11_keepAct M3) (fun M5 => chk (inb x1 8) (chk (inb x2 8) (chk (inb x1 8) (wr (si M5 41 (ix x1) (gi M5 41 (ix x2))) (fun M10 => chk (inb x2 8) (wr (si M10 41 (ix x2) (gi M5 41 (ix x1))) (fun M12 => some (M12, .inr (some (.int 1)))))))))))))
  refine g_aload_n 0 rfl rfl dX11_exchange_0 ?_
  refine g_iload_n 1 rfl rfl dX11_exchange_1 ?_
  refine g_callVV (y := miX11_needHouse) (As := [.int x1]) (rest := []) clX11 kd_0 rfl moX11_needHouse rfl mlX11_157 (by first | decide | omega) (by decide) (by simp [Value.category]) rfl dX11_exchange_2 (SX11_needHouse  M x1) (fun M1 => ?_)
  refine g_aload_n 0 rfl rfl dX11_exchange_5 ?_
  refine g_iload_n 2 rfl rfl dX11_exchange_6 ?_
  refine g_callVV (y := miX11_needHouse) (As := [.int x2]) (rest := []) clX11 kd_0 rfl moX11_needHouse rfl mlX11_157 (by first | decide | omega) (by decide) (by simp [Value.category]) rfl dX11_exchange_7 (SX11_needHouse  M1 x2) (fun M3 => ?_)
  refine g_iload_n 1 rfl rfl dX11_exchange_10 ?_
  refine g_iload_n 2 rfl rfl dX11_exchange_11 ?_
  refine g_icmp_ne (tgt := 23) rfl dX11_exchange_12 (fun c => ?_) (fun c => ?_)
  · refine g_aload_n 0 rfl rfl dX11_exchange_23 ?_
    refine g_callVV (y := miX11_keepAct) (As := []) (rest := []) clX11 kd_0 rfl moX11_keepAct rfl mlX11_224 (by first | decide | omega) (by decide) (by simp [Value.category]) rfl dX11_exchange_24 (SX11_keepAct  M3) (fun M5 => ?_)
    refine g_aload_n 0 rfl rfl dX11_exchange_27 ?_
    refine g_getR (k := 3) (b := 38) clX11 kd_0 (by decide) rfl rfl flX11_42 dX11_exchange_28 ?_
    refine g_getR (k := 0) (b := 39) clX0 kd_38 (by decide) rfl rfl flX11_96 dX11_exchange_31 ?_
    refine g_getR (k := 8) (b := 41) clX8 kd_39 (by decide) rfl rfl flX11_172 dX11_exchange_34 ?_
    refine g_iload_n 1 rfl rfl dX11_exchange_37 ?_
    refine g_ald kd_41 dX11_exchange_38 (fun hi7 => ?_)
    refine g_istore_n (L' := [(3, .int (gi M5 41 (ix x1))), (0, .ref 0), (1, .int x1), (2, .int x2)]) (by decide) rfl rfl dX11_exchange_39 ?_
    refine g_aload_n 1 rfl rfl dX11_exchange_40 ?_
    refine g_getR (k := 3) (b := 38) clX11 kd_0 (by decide) rfl rfl flX11_42 dX11_exchange_41 ?_
    refine g_getR (k := 0) (b := 39) clX0 kd_38 (by decide) rfl rfl flX11_96 dX11_exchange_44 ?_
    refine g_getR (k := 8) (b := 41) clX8 kd_39 (by decide) rfl rfl flX11_172 dX11_exchange_47 ?_
    refine g_iload_n 2 rfl rfl dX11_exchange_50 ?_
    refine g_aload_n 1 rfl rfl dX11_exchange_51 ?_
    refine g_getR (k := 3) (b := 38) clX11 kd_0 (by decide) rfl rfl flX11_42 dX11_exchange_52 ?_
    refine g_getR (k := 0) (b := 39) clX0 kd_38 (by decide) rfl rfl flX11_96 dX11_exchange_55 ?_
    refine g_getR (k := 8) (b := 41) clX8 kd_39 (by decide) rfl rfl flX11_172 dX11_exchange_58 ?_
    refine g_iload_n 3 rfl rfl dX11_exchange_61 ?_
    refine g_ald kd_41 dX11_exchange_62 (fun hi8 => ?_)
    refine g_ast kd_41 dX11_exchange_63 (fun hi9 => ?_)
    refine GO.wr (fun M10 => ?_)
    refine g_aload_n 1 rfl rfl dX11_exchange_64 ?_
    refine g_getR (k := 3) (b := 38) clX11 kd_0 (by decide) rfl rfl flX11_42 dX11_exchange_65 ?_
    refine g_getR (k := 0) (b := 39) clX0 kd_38 (by decide) rfl rfl flX11_96 dX11_exchange_68 ?_
    refine g_getR (k := 8) (b := 41) clX8 kd_39 (by decide) rfl rfl flX11_172 dX11_exchange_71 ?_
    refine g_iload_n 3 rfl rfl dX11_exchange_74 ?_
    refine g_iload_n 0 rfl rfl dX11_exchange_75 ?_
    refine g_ast kd_41 dX11_exchange_76 (fun hi11 => ?_)
    refine GO.wr (fun M12 => ?_)
    refine g_iconst (v := 1) (by decide) dX11_exchange_77 ?_
    exact g_zreturn rfl (by decide) (by decide) dX11_exchange_78 (by decide)
  · refine g_aload_n 0 rfl rfl dX11_exchange_15 ?_
    refine g_iconst (v := 1) (by decide) dX11_exchange_16 ?_
    refine g_callVI (y := miX11_refuse) (As := [.int 1]) (rest := []) clX11 kd_0 rfl moX11_refuse rfl mlX11_233 (by first | decide | omega) (by decide) (by simp [Value.category]) rfl dX11_exchange_17 (SX11_refuse  M3 1) (fun M13 v14 => ?_)
    refine g_pop_int dX11_exchange_20 ?_
    refine g_iconst (v := 0) (by decide) dX11_exchange_21 ?_
    exact g_zreturn rfl (by decide) (by decide) dX11_exchange_22 (by decide)
def fX11_market_b20 (M : Mem)  : RS := bI (fX11_refuse M 1) (fun M9 v10 => some (M9, .inr (some (.int v10))))
theorem SX11_market_b20 (M : Mem)  : GO miX11_market (6) 0 0 0 0 20 [(0, .ref 0)] [] M (fX11_market_b20 M ) := by
  show GO miX11_market (6) 0 0 0 0 20 [(0, .ref 0)] [] M (bI (fX11_refuse M 1) (fun M9 v10 => some (M9, .inr (some (.int v10)))))
  refine g_aload_n 0 rfl rfl dX11_market_20 ?_
  refine g_iconst (v := 1) (by decide) dX11_market_21 ?_
  refine g_callVI (y := miX11_refuse) (As := [.int 1]) (rest := []) clX11 kd_0 rfl moX11_refuse rfl mlX11_233 (by first | decide | omega) (by decide) (by simp [Value.category]) rfl dX11_market_22 (SX11_refuse  M 1) (fun M9 v10 => ?_)
  exact g_ireturn rfl (by decide) (by decide) dX11_market_25 rfl rfl
def fX11_market (M : Mem) (x1 : Int32) (x2 : Int32) : RS := if x1 < 0 then fX11_market_b20  M else if 20 < x1 then fX11_market_b20  M else if x2 < 0 then fX11_market_b20  M else if 20 < x2 then fX11_market_b20  M else bV (fX11_keepAct M) (fun M1 => bI (fX11_marketPlace M1) (fun M3 v4 => wr (si M3 39 2 x1) (fun M5 => wr (si M5 39 3 x2) (fun M6 => bV (fX3_takeShares 39 M6 (-1)) (fun M7 => some (M7, .inr (some (.int v4))))))))
theorem SX11_market (M : Mem) (x1 : Int32) (x2 : Int32) : CTO (6) miX11_market 0 0 [.ref 0, .int x1, .int x2] M (fX11_market  M x1 x2) := by
  refine CTO.of (by decide) (by simp [lg_sl, Value.category]) ?_
  show GO miX11_market (6) 0 0 0 0 0 [(0, .ref 0), (1, .int x1), (2, .int x2)] [] M (if x1 < 0 then fX11_market_b20  M else if 20 < x1 then fX11_market_b20  M else if x2 < 0 then fX11_market_b20  M else if 20 < x2 then fX11_market_b20  M else bV (fX11_keepAct M) (fun M1 => bI (fX11_marketPlace M1) (fun M3 v4 => wr (si M3 39 2 x1) (fun M5 => wr (si M5 39 3 x2) (fun M6 => bV (fX3_takeShares 39 M6 (-1)) (fun M7 => some (M7, .inr (some (.int v4)))))))))
  refine g_iload_n 1 rfl rfl dX11_market_0 ?_
  refine g_if_lt (tgt := 20) rfl dX11_market_1 (fun c => ?_) (fun c => ?_)
  · exact GO.pick [0] rfl <| SX11_market_b20  M
  · refine g_iload_n 1 rfl rfl dX11_market_4 ?_
    refine g_bipush (v := 20) (by decide) dX11_market_5 ?_
    refine g_icmp_gt (tgt := 20) rfl dX11_market_7 (fun c => ?_) (fun c => ?_)
    · exact GO.pick [0] rfl <| SX11_market_b20  M
    · refine g_iload_n 2 rfl rfl dX11_market_10 ?_
      refine g_if_lt (tgt := 20) rfl dX11_market_11 (fun c => ?_) (fun c => ?_)
      · exact GO.pick [0] rfl <| SX11_market_b20  M
      · refine g_iload_n 2 rfl rfl dX11_market_14 ?_
        refine g_bipush (v := 20) (by decide) dX11_market_15 ?_
        refine g_icmp_le (tgt := 26) rfl dX11_market_17 (fun c => ?_) (fun c => ?_)
        · refine g_aload_n 0 rfl rfl dX11_market_26 ?_
          refine g_callVV (y := miX11_keepAct) (As := []) (rest := []) clX11 kd_0 rfl moX11_keepAct rfl mlX11_224 (by first | decide | omega) (by decide) (by simp [Value.category]) rfl dX11_market_27 (SX11_keepAct  M) (fun M1 => ?_)
          refine g_aload_n 0 rfl rfl dX11_market_30 ?_
          refine g_callVI (y := miX11_marketPlace) (As := []) (rest := []) clX11 kd_0 rfl moX11_marketPlace rfl mlX11_112 (by first | decide | omega) (by decide) (by simp [Value.category]) rfl dX11_market_31 (SX11_marketPlace  M1) (fun M3 v4 => ?_)
          refine g_istore_n (L' := [(3, .int v4), (0, .ref 0), (1, .int x1), (2, .int x2)]) (by decide) rfl rfl dX11_market_34 ?_
          refine g_aload_n 1 rfl rfl dX11_market_35 ?_
          refine g_getR (k := 3) (b := 38) clX11 kd_0 (by decide) rfl rfl flX11_42 dX11_market_36 ?_
          refine g_getR (k := 0) (b := 39) clX0 kd_38 (by decide) rfl rfl flX11_96 dX11_market_39 ?_
          refine g_iload_n 2 rfl rfl dX11_market_42 ?_
          refine g_putI (k := 2) clX8 kd_39 (by decide) rfl (by decide) rfl flX11_221 dX11_market_43 ?_
          refine GO.wr (fun M5 => ?_)
          refine g_aload_n 1 rfl rfl dX11_market_46 ?_
          refine g_getR (k := 3) (b := 38) clX11 kd_0 (by decide) rfl rfl flX11_42 dX11_market_47 ?_
          refine g_getR (k := 0) (b := 39) clX0 kd_38 (by decide) rfl rfl flX11_96 dX11_market_50 ?_
          refine g_iload_n 3 rfl rfl dX11_market_53 ?_
          refine g_putI (k := 3) clX8 kd_39 (by decide) rfl (by decide) rfl flX11_218 dX11_market_54 ?_
          refine GO.wr (fun M6 => ?_)
          refine g_aload_n 1 rfl rfl dX11_market_57 ?_
          refine g_getR (k := 2) (b := 22) clX11 kd_0 (by decide) rfl rfl flX11_35 dX11_market_58 ?_
          refine g_aload_n 1 rfl rfl dX11_market_61 ?_
          refine g_getR (k := 3) (b := 38) clX11 kd_0 (by decide) rfl rfl flX11_42 dX11_market_62 ?_
          refine g_getR (k := 0) (b := 39) clX0 kd_38 (by decide) rfl rfl flX11_96 dX11_market_65 ?_
          refine g_iconst (v := (-1)) (by decide) dX11_market_68 ?_
          refine g_callVV (y := miX3_takeShares) (As := [.ref 39, .int (-1)]) (rest := []) clX3 kd_22 rfl moX3_takeShares rfl mlX11_99 (by first | decide | omega) (by decide) (by simp [Value.category]) rfl dX11_market_69 (SX3_takeShares 39 (by decide) M6 (-1)) (fun M7 => ?_)
          refine g_iload_n 0 rfl rfl dX11_market_72 ?_
          exact g_ireturn rfl (by decide) (by decide) dX11_market_73 rfl rfl
        · exact GO.pick [0] rfl <| SX11_market_b20  M
def fX3_cropOnShare (a1 : Nat) (M : Mem) (x2 : Int32) : RS := bI (fX2_hasHouse (isA (gb M 0)) M x2) (fun M1 v2 => if v2 = 0 then some (M1, .inr (some (.int 0))) else bI (fX8_lotOf a1 M1 x2) (fun M3 v4 => chk (inb x2 8) (bI (fX3_cropOf a1 M3 x2 v4 (gi M3 (a1 + 2) (ix x2)) (gi M3 a1 4)) (fun M6 v7 => some (M6, .inr (some (.int v7)))))))
theorem SX3_cropOnShare (a1 : Nat) (h1 : a1 ∈ [39, 62]) (M : Mem) (x2 : Int32) : CTO (4) miX3_cropOnShare 0 0 [.ref 22, .ref a1, .int x2] M (fX3_cropOnShare a1 M x2) := by
  refine CTO.of (by decide) (by simp [lg_sl, Value.category]) ?_
  show GO miX3_cropOnShare (4) 0 0 0 0 0 [(0, .ref 22), (1, .ref a1), (2, .int x2)] [] M (bI (fX2_hasHouse (isA (gb M 0)) M x2) (fun M1 v2 => if v2 = 0 then some (M1, .inr (some (.int 0))) else bI (fX8_lotOf a1 M1 x2) (fun M3 v4 => chk (inb x2 8) (bI (fX3_cropOf a1 M3 x2 v4 (gi M3 (a1 + 2) (ix x2)) (gi M3 a1 4)) (fun M6 v7 => some (M6, .inr (some (.int v7))))))))
  refine g_aload_n 0 rfl rfl dX3_cropOnShare_0 ?_
  refine g_getR (k := 1) (b := (isA (gb M 0))) clX3 kd_22 (by decide) rfl rfl flX3_18 dX3_cropOnShare_1 ?_
  refine g_iload_n 2 rfl rfl dX3_cropOnShare_4 ?_
  refine g_callVI (y := miX2_hasHouse) (As := [.int x2]) (rest := []) clX2 (kv_d3_24_0 _ (isA_dom _)) rfl moX2_hasHouse rfl mlX3_22 (by first | decide | omega) (by decide) (by simp [Value.category]) rfl dX3_cropOnShare_5 (SX2_hasHouse (isA (gb M 0)) (isA_dom _) M x2) (fun M1 v2 => ?_)
  refine g_if_ne (tgt := 13) rfl dX3_cropOnShare_8 (fun c => ?_) (fun c => ?_)
  · refine g_aload_n 0 rfl rfl dX3_cropOnShare_13 ?_
    refine g_aload_n 1 rfl rfl dX3_cropOnShare_14 ?_
    refine g_iload_n 2 rfl rfl dX3_cropOnShare_15 ?_
    refine g_aload_n 1 rfl rfl dX3_cropOnShare_16 ?_
    refine g_iload_n 2 rfl rfl dX3_cropOnShare_17 ?_
    refine g_callVI (y := miX8_lotOf) (As := [.int x2]) (rest := [.int x2, .ref a1, .ref 22]) clX8 (kv_d39_62_0 _ h1) rfl moX8_lotOf rfl mlX3_26 (by first | decide | omega) (by decide) (by simp [Value.category]) rfl dX3_cropOnShare_18 (SX8_lotOf a1 h1 M1 x2) (fun M3 v4 => ?_)
    refine g_aload_n 1 rfl rfl dX3_cropOnShare_21 ?_
    refine g_getR (k := 8) (b := (a1 + 2)) clX8 (kv_d39_62_0 _ h1) (by decide) rfl rfl flX3_65 dX3_cropOnShare_22 ?_
    refine g_iload_n 2 rfl rfl dX3_cropOnShare_25 ?_
    refine g_ald (kv_d39_62_2 _ h1) dX3_cropOnShare_26 (fun hi5 => ?_)
    refine g_aload_n 1 rfl rfl dX3_cropOnShare_27 ?_
    refine g_getI (k := 4) clX8 (kv_d39_62_0 _ h1) (by decide) rfl flX3_114 dX3_cropOnShare_28 ?_
    refine g_callVI (y := miX3_cropOf) (As := [.ref a1, .int x2, .int v4, .int (gi M3 (a1 + 2) (ix x2)), .int (gi M3 a1 4)]) (rest := []) clX3 kd_22 rfl moX3_cropOf rfl mlX3_117 (by first | decide | omega) (by decide) (by simp [Value.category]) rfl dX3_cropOnShare_31 (SX3_cropOf a1 h1 M3 x2 v4 (gi M3 (a1 + 2) (ix x2)) (gi M3 a1 4)) (fun M6 v7 => ?_)
    exact g_ireturn rfl (by decide) (by decide) dX3_cropOnShare_34 rfl rfl
  · refine g_iconst (v := 0) (by decide) dX3_cropOnShare_11 ?_
    exact g_ireturn rfl (by decide) (by decide) dX3_cropOnShare_12 rfl rfl
def fX8_isGone (a0 : Nat) (M : Mem) (x1 : Int32) : RS := if (((gi M a0 1) >>> (x1 &&& 31)) &&& 1) = 0 then some (M, .inr (some (.int 0))) else some (M, .inr (some (.int 1)))
theorem SX8_isGone (a0 : Nat) (h0 : a0 ∈ [39, 62]) (M : Mem) (x1 : Int32) : CTO (0) miX8_isGone 0 0 [.ref a0, .int x1] M (fX8_isGone a0 M x1) := by
  refine CTO.of (by decide) (by simp [lg_sl, Value.category]) ?_
  show GO miX8_isGone (0) 0 0 0 0 0 [(0, .ref a0), (1, .int x1)] [] M (if (((gi M a0 1) >>> (x1 &&& 31)) &&& 1) = 0 then some (M, .inr (some (.int 0))) else some (M, .inr (some (.int 1))))
  refine g_aload_n 0 rfl rfl dX8_isGone_0 ?_
  refine g_getI (k := 1) clX8 (kv_d39_62_0 _ h0) (by decide) rfl flX8_47 dX8_isGone_1 ?_
  refine g_iload_n 1 rfl rfl dX8_isGone_4 ?_
  refine g_ishr dX8_isGone_5 ?_
  refine g_iconst (v := 1) (by decide) dX8_isGone_6 ?_
  refine g_iand dX8_isGone_7 ?_
  refine g_if_eq (tgt := 15) rfl dX8_isGone_8 (fun c => ?_) (fun c => ?_)
  · refine g_iconst (v := 0) (by decide) dX8_isGone_15 ?_
    exact g_zreturn rfl (by decide) (by decide) dX8_isGone_16 (by decide)
  · refine g_iconst (v := 1) (by decide) dX8_isGone_11 ?_
    refine g_goto (tgt := 16) rfl dX8_isGone_12 ?_
    exact g_zreturn rfl (by decide) (by decide) dX8_isGone_16 (by decide)
def fX8_storeAndEat (a0 : Nat) (M : Mem) (x1 : Int32) (x2 : Int32) (x3 : Int32) : RS := if x1 < 0 then some (M, .inr none) else if x1 < 8 then wr (si M a0 5 ((gi M a0 5) + (x2 / 10))) (fun M1 => chk (inb x1 8) (if (if (((gi M1 (a0 + 3) (ix x1)) + x2) - (x2 / 10)) < 999 then (((gi M1 (a0 + 3) (ix x1)) + x2) - (x2 / 10)) else 999) < x3 then chk (inb x1 8) (wr (si M1 (a0 + 3) (ix x1) 0) (fun M6 => wr (si M6 a0 1 ((gi M6 a0 1) ||| ((1 : Int32) <<< (x1 &&& 31)))) (fun M7 => some (M7, .inr none)))) else chk (inb x1 8) (wr (si M1 (a0 + 3) (ix x1) ((if (((gi M1 (a0 + 3) (ix x1)) + x2) - (x2 / 10)) < 999 then (((gi M1 (a0 + 3) (ix x1)) + x2) - (x2 / 10)) else 999) - x3)) (fun M4 => some (M4, .inr none))))) else some (M, .inr none)
theorem SX8_storeAndEat (a0 : Nat) (h0 : a0 ∈ [39, 62]) (M : Mem) (x1 : Int32) (x2 : Int32) (x3 : Int32) : CTO (1) miX8_storeAndEat 0 0 [.ref a0, .int x1, .int x2, .int x3] M (fX8_storeAndEat a0 M x1 x2 x3) := by
  refine CTO.of (by decide) (by simp [lg_sl, Value.category]) ?_
  show GO miX8_storeAndEat (1) 0 0 0 0 0 [(0, .ref a0), (1, .int x1), (2, .int x2), (3, .int x3)] [] M (if x1 < 0 then some (M, .inr none) else if x1 < 8 then wr (si M a0 5 ((gi M a0 5) + (x2 / 10))) (fun M1 => chk (inb x1 8) (if (if (((gi M1 (a0 + 3) (ix x1)) + x2) - (x2 / 10)) < 999 then (((gi M1 (a0 + 3) (ix x1)) + x2) - (x2 / 10)) else 999) < x3 then chk (inb x1 8) (wr (si M1 (a0 + 3) (ix x1) 0) (fun M6 => wr (si M6 a0 1 ((gi M6 a0 1) ||| ((1 : Int32) <<< (x1 &&& 31)))) (fun M7 => some (M7, .inr none)))) else chk (inb x1 8) (wr (si M1 (a0 + 3) (ix x1) ((if (((gi M1 (a0 + 3) (ix x1)) + x2) - (x2 / 10)) < 999 then (((gi M1 (a0 + 3) (ix x1)) + x2) - (x2 / 10)) else 999) - x3)) (fun M4 => some (M4, .inr none))))) else some (M, .inr none))
  refine g_iload_n 1 rfl rfl dX8_storeAndEat_0 ?_
  refine g_if_lt (tgt := 10) rfl dX8_storeAndEat_1 (fun c => ?_) (fun c => ?_)
  · exact g_vreturn rfl (by decide) (by decide) dX8_storeAndEat_10
  · refine g_iload_n 1 rfl rfl dX8_storeAndEat_4 ?_
    refine g_bipush (v := 8) (by decide) dX8_storeAndEat_5 ?_
    refine g_icmp_lt (tgt := 11) rfl dX8_storeAndEat_7 (fun c => ?_) (fun c => ?_)
    · refine g_iload_n 2 rfl rfl dX8_storeAndEat_11 ?_
      refine g_bipush (v := 10) (by decide) dX8_storeAndEat_12 ?_
      refine g_idiv (by decide) dX8_storeAndEat_14 ?_
      refine g_istore (L' := [(4, .int (x2 / 10)), (0, .ref a0), (1, .int x1), (2, .int x2), (3, .int x3)]) (by decide) rfl dX8_storeAndEat_15 ?_
      refine g_aload_n 1 rfl rfl dX8_storeAndEat_17 ?_
      refine g_dup_ref dX8_storeAndEat_18 ?_
      refine g_getI (k := 5) clX8 (kv_d39_62_0 _ h0) (by decide) rfl flX8_35 dX8_storeAndEat_19 ?_
      refine g_iload 0 rfl dX8_storeAndEat_22 ?_
      refine g_iadd dX8_storeAndEat_24 ?_
      refine g_putI (k := 5) clX8 (kv_d39_62_0 _ h0) (by decide) rfl (by decide) rfl flX8_35 dX8_storeAndEat_25 ?_
      refine GO.wr (fun M1 => ?_)
      refine g_sipush (v := 999) (by decide) dX8_storeAndEat_28 ?_
      refine g_aload_n 1 rfl rfl dX8_storeAndEat_31 ?_
      refine g_getR (k := 9) (b := (a0 + 3)) clX8 (kv_d39_62_0 _ h0) (by decide) rfl rfl flX8_25 dX8_storeAndEat_32 ?_
      refine g_iload_n 2 rfl rfl dX8_storeAndEat_35 ?_
      refine g_ald (kv_d39_62_3 _ h0) dX8_storeAndEat_36 (fun hi2 => ?_)
      refine g_iload_n 3 rfl rfl dX8_storeAndEat_37 ?_
      refine g_iadd dX8_storeAndEat_38 ?_
      refine g_iload 0 rfl dX8_storeAndEat_39 ?_
      refine g_isub dX8_storeAndEat_41 ?_
      refine g_mmin mlX8_50 ms_min mt_Math mc_min (by first | decide | omega) (by decide) (by simp [Value.category]) dX8_storeAndEat_42 ?_
      refine g_istore (L' := [(5, .int (if (((gi M1 (a0 + 3) (ix x1)) + x2) - (x2 / 10)) < 999 then (((gi M1 (a0 + 3) (ix x1)) + x2) - (x2 / 10)) else 999)), (4, .int (x2 / 10)), (0, .ref a0), (1, .int x1), (2, .int x2), (3, .int x3)]) (by decide) rfl dX8_storeAndEat_45 ?_
      refine g_iload 0 rfl dX8_storeAndEat_47 ?_
      refine g_iload_n 5 rfl rfl dX8_storeAndEat_49 ?_
      refine g_icmp_ge (tgt := 75) rfl dX8_storeAndEat_50 (fun c => ?_) (fun c => ?_)
      · refine g_aload_n 2 rfl rfl dX8_storeAndEat_75 ?_
        refine g_getR (k := 9) (b := (a0 + 3)) clX8 (kv_d39_62_0 _ h0) (by decide) rfl rfl flX8_25 dX8_storeAndEat_76 ?_
        refine g_iload_n 3 rfl rfl dX8_storeAndEat_79 ?_
        refine g_iload 0 rfl dX8_storeAndEat_80 ?_
        refine g_iload_n 5 rfl rfl dX8_storeAndEat_82 ?_
        refine g_isub dX8_storeAndEat_83 ?_
        refine g_ast (kv_d39_62_3 _ h0) dX8_storeAndEat_84 (fun hi3 => ?_)
        refine GO.wr (fun M4 => ?_)
        exact g_vreturn rfl (by decide) (by decide) dX8_storeAndEat_85
      · refine g_aload_n 2 rfl rfl dX8_storeAndEat_53 ?_
        refine g_getR (k := 9) (b := (a0 + 3)) clX8 (kv_d39_62_0 _ h0) (by decide) rfl rfl flX8_25 dX8_storeAndEat_54 ?_
        refine g_iload_n 3 rfl rfl dX8_storeAndEat_57 ?_
        refine g_iconst (v := 0) (by decide) dX8_storeAndEat_58 ?_
        refine g_ast (kv_d39_62_3 _ h0) dX8_storeAndEat_59 (fun hi5 => ?_)
        refine GO.wr (fun M6 => ?_)
        refine g_aload_n 2 rfl rfl dX8_storeAndEat_60 ?_
        refine g_dup_ref dX8_storeAndEat_61 ?_
        refine g_getI (k := 1) clX8 (kv_d39_62_0 _ h0) (by decide) rfl flX8_47 dX8_storeAndEat_62 ?_
        refine g_iconst (v := 1) (by decide) dX8_storeAndEat_65 ?_
        refine g_iload_n 3 rfl rfl dX8_storeAndEat_66 ?_
        refine g_ishl dX8_storeAndEat_67 ?_
        refine g_ior dX8_storeAndEat_68 ?_
        refine g_putI (k := 1) clX8 (kv_d39_62_0 _ h0) (by decide) rfl (by decide) rfl flX8_47 dX8_storeAndEat_69 ?_
        refine GO.wr (fun M7 => ?_)
        refine g_goto (tgt := 85) rfl dX8_storeAndEat_72 ?_
        exact g_vreturn rfl (by decide) (by decide) dX8_storeAndEat_85
    · exact g_vreturn rfl (by decide) (by decide) dX8_storeAndEat_10
def fX3_passYears_b51 (a1 : Nat) (rec2 : Mem → Int32 → Int32 → RS) (rec10 : Mem → Int32 → Int32 → Int32 → RS) (M : Mem) (x2 : Int32) (x3 : Int32) (x4 : Int32) : RS := rec10 M x2 x3 (x4 + 1)
theorem SX3_passYears_b51 (a1 : Nat) (h1 : a1 ∈ [39, 62]) (rec2 : Mem → Int32 → Int32 → RS) (hrec2 : ∀ (M : Mem) (x2 : Int32) (x3 : Int32), GO miX3_passYears (5) 0 0 0 0 2 [(0, .ref 22), (1, .ref a1), (2, .int x2), (3, .int x3)] [] M (rec2 M x2 x3)) (rec10 : Mem → Int32 → Int32 → Int32 → RS) (hrec10 : ∀ (M : Mem) (x2 : Int32) (x3 : Int32) (x4 : Int32), GO miX3_passYears (5) 0 0 0 0 10 [(0, .ref 22), (1, .ref a1), (2, .int x2), (3, .int x3), (4, .int x4)] [] M (rec10 M x2 x3 x4)) (M : Mem) (x2 : Int32) (x3 : Int32) (x4 : Int32) : GO miX3_passYears (5) 0 0 0 0 51 [(0, .ref 22), (1, .ref a1), (2, .int x2), (3, .int x3), (4, .int x4)] [] M (fX3_passYears_b51 a1 rec2 rec10 M x2 x3 x4) := by
  show GO miX3_passYears (5) 0 0 0 0 51 [(0, .ref 22), (1, .ref a1), (2, .int x2), (3, .int x3), (4, .int x4)] [] M (rec10 M x2 x3 (x4 + 1))
  refine g_iinc (v := x4 + 1) (L' := [(4, .int (x4 + 1)), (0, .ref 22), (1, .ref a1), (2, .int x2), (3, .int x3)]) 4 rfl rfl (by decide) rfl dX3_passYears_51 ?_
  refine g_goto (tgt := 10) rfl dX3_passYears_54 ?_
  exact GO.pick [1, 2, 3, 4, 0] rfl <| hrec10 M x2 x3 (x4 + 1)
def fX3_passYears_b10 (a1 : Nat) (rec2 : Mem → Int32 → Int32 → RS) : Nat → Mem → Int32 → Int32 → Int32 → RS
  | 0 => fun _ _ _ _ => none
  | n + 1 => fun M x2 x3 x4 => if x4 < (gi M (isA (gb M 0)) 9) then bI (fX8_isGone a1 M x4) (fun M2 v3 => if v3 = 0 then bI (fX3_cropOnShare a1 M2 x4) (fun M4 v5 => bV (fX8_storeAndEat a1 M4 x4 v5 (gi M4 (isA (gb M4 0)) 14)) (fun M6 => fX3_passYears_b51 a1 rec2 (fX3_passYears_b10 a1 rec2 n) M6 x2 x3 x4)) else fX3_passYears_b51 a1 rec2 (fX3_passYears_b10 a1 rec2 n) M2 x2 x3 x4) else wr (si M a1 4 ((gi M a1 4) + 1)) (fun M1 => rec2 M1 x2 (x3 + 1))
theorem SX3_passYears_b10 (a1 : Nat) (h1 : a1 ∈ [39, 62]) (rec2 : Mem → Int32 → Int32 → RS) (hrec2 : ∀ (M : Mem) (x2 : Int32) (x3 : Int32), GO miX3_passYears (5) 0 0 0 0 2 [(0, .ref 22), (1, .ref a1), (2, .int x2), (3, .int x3)] [] M (rec2 M x2 x3)) (n : Nat) : ∀ (M : Mem) (x2 : Int32) (x3 : Int32) (x4 : Int32), GO miX3_passYears (5) 0 0 0 0 10 [(0, .ref 22), (1, .ref a1), (2, .int x2), (3, .int x3), (4, .int x4)] [] M (fX3_passYears_b10 a1 rec2 n M x2 x3 x4) := by
  induction n with
  | zero => intro M x2 x3 x4 ; exact GO.none
  | succ n hrec10 =>
    intro M x2 x3 x4 
    show GO miX3_passYears (5) 0 0 0 0 10 [(0, .ref 22), (1, .ref a1), (2, .int x2), (3, .int x3), (4, .int x4)] [] M (if x4 < (gi M (isA (gb M 0)) 9) then bI (fX8_isGone a1 M x4) (fun M2 v3 => if v3 = 0 then bI (fX3_cropOnShare a1 M2 x4) (fun M4 v5 => bV (fX8_storeAndEat a1 M4 x4 v5 (gi M4 (isA (gb M4 0)) 14)) (fun M6 => fX3_passYears_b51 a1 rec2 (fX3_passYears_b10 a1 rec2 n) M6 x2 x3 x4)) else fX3_passYears_b51 a1 rec2 (fX3_passYears_b10 a1 rec2 n) M2 x2 x3 x4) else wr (si M a1 4 ((gi M a1 4) + 1)) (fun M1 => rec2 M1 x2 (x3 + 1)))
    refine g_iload 4 rfl dX3_passYears_10 ?_
    refine g_aload_n 0 rfl rfl dX3_passYears_12 ?_
    refine g_getR (k := 1) (b := (isA (gb M 0))) clX3 kd_22 (by decide) rfl rfl flX3_18 dX3_passYears_13 ?_
    refine g_getI (k := 9) clX2 (kv_d3_24_0 _ (isA_dom _)) (by decide) rfl flX3_38 dX3_passYears_16 ?_
    refine g_icmp_ge (tgt := 57) rfl dX3_passYears_19 (fun c => ?_) (fun c => ?_)
    · refine g_aload_n 1 rfl rfl dX3_passYears_57 ?_
      refine g_dup_ref dX3_passYears_58 ?_
      refine g_getI (k := 4) clX8 (kv_d39_62_0 _ h1) (by decide) rfl flX3_114 dX3_passYears_59 ?_
      refine g_iconst (v := 1) (by decide) dX3_passYears_62 ?_
      refine g_iadd dX3_passYears_63 ?_
      refine g_putI (k := 4) clX8 (kv_d39_62_0 _ h1) (by decide) rfl (by decide) rfl flX3_114 dX3_passYears_64 ?_
      refine GO.wr (fun M1 => ?_)
      refine g_iinc (v := x3 + 1) (L' := [(3, .int (x3 + 1)), (0, .ref 22), (1, .ref a1), (2, .int x2), (4, .int x4)]) 3 rfl rfl (by decide) rfl dX3_passYears_67 ?_
      refine g_goto (tgt := 2) rfl dX3_passYears_70 ?_
      exact GO.pick [1, 2, 3, 0] rfl <| hrec2 M1 x2 (x3 + 1)
    · refine g_aload_n 1 rfl rfl dX3_passYears_22 ?_
      refine g_iload 4 rfl dX3_passYears_23 ?_
      refine g_callVI (y := miX8_isGone) (As := [.int x4]) (rest := []) clX8 (kv_d39_62_0 _ h1) rfl moX8_isGone rfl mlX3_146 (by first | decide | omega) (by decide) (by simp [Value.category]) rfl dX3_passYears_25 (SX8_isGone a1 h1 M x4) (fun M2 v3 => ?_)
      refine g_if_ne (tgt := 51) rfl dX3_passYears_28 (fun c => ?_) (fun c => ?_)
      · exact GO.pick [0, 1, 2, 3, 4] rfl <| SX3_passYears_b51 a1 h1 rec2 hrec2 (fX3_passYears_b10 a1 rec2 n) hrec10 M2 x2 x3 x4
      · refine g_aload_n 1 rfl rfl dX3_passYears_31 ?_
        refine g_iload 4 rfl dX3_passYears_32 ?_
        refine g_aload_n 0 rfl rfl dX3_passYears_34 ?_
        refine g_aload_n 1 rfl rfl dX3_passYears_35 ?_
        refine g_iload 4 rfl dX3_passYears_36 ?_
        refine g_callVI (y := miX3_cropOnShare) (As := [.ref a1, .int x4]) (rest := [.int x4, .ref a1]) clX3 kd_22 rfl moX3_cropOnShare rfl mlX3_149 (by first | decide | omega) (by decide) (by simp [Value.category]) rfl dX3_passYears_38 (SX3_cropOnShare a1 h1 M2 x4) (fun M4 v5 => ?_)
        refine g_aload_n 0 rfl rfl dX3_passYears_41 ?_
        refine g_getR (k := 1) (b := (isA (gb M4 0))) clX3 kd_22 (by decide) rfl rfl flX3_18 dX3_passYears_42 ?_
        refine g_getI (k := 14) clX2 (kv_d3_24_0 _ (isA_dom _)) (by decide) rfl flX3_152 dX3_passYears_45 ?_
        refine g_callVV (y := miX8_storeAndEat) (As := [.int x4, .int v5, .int (gi M4 (isA (gb M4 0)) 14)]) (rest := []) clX8 (kv_d39_62_0 _ h1) rfl moX8_storeAndEat rfl mlX3_155 (by first | decide | omega) (by decide) (by simp [Value.category]) rfl dX3_passYears_48 (SX8_storeAndEat a1 h1 M4 x4 v5 (gi M4 (isA (gb M4 0)) 14)) (fun M6 => ?_)
        exact GO.pick [0, 1, 2, 3, 4] rfl <| SX3_passYears_b51 a1 h1 rec2 hrec2 (fX3_passYears_b10 a1 rec2 n) hrec10 M6 x2 x3 x4
def fX3_passYears_b2 (a1 : Nat) : Nat → Mem → Int32 → Int32 → RS
  | 0 => fun _ _ _ => none
  | n + 1 => fun M x2 x3 => if x3 < x2 then fX3_passYears_b10 a1 (fX3_passYears_b2 a1 n) FU M x2 x3 0 else some (M, .inr none)
theorem SX3_passYears_b2 (a1 : Nat) (h1 : a1 ∈ [39, 62]) (n : Nat) : ∀ (M : Mem) (x2 : Int32) (x3 : Int32), GO miX3_passYears (5) 0 0 0 0 2 [(0, .ref 22), (1, .ref a1), (2, .int x2), (3, .int x3)] [] M (fX3_passYears_b2 a1 n M x2 x3) := by
  induction n with
  | zero => intro M x2 x3 ; exact GO.none
  | succ n hrec2 =>
    intro M x2 x3 
    show GO miX3_passYears (5) 0 0 0 0 2 [(0, .ref 22), (1, .ref a1), (2, .int x2), (3, .int x3)] [] M (if x3 < x2 then fX3_passYears_b10 a1 (fX3_passYears_b2 a1 n) FU M x2 x3 0 else some (M, .inr none))
    refine g_iload_n 3 rfl rfl dX3_passYears_2 ?_
    refine g_iload_n 2 rfl rfl dX3_passYears_3 ?_
    refine g_icmp_ge (tgt := 73) rfl dX3_passYears_4 (fun c => ?_) (fun c => ?_)
    · exact g_vreturn rfl (by decide) (by decide) dX3_passYears_73
    · refine g_iconst (v := 0) (by decide) dX3_passYears_7 ?_
      refine g_istore (L' := [(4, .int 0), (0, .ref 22), (1, .ref a1), (2, .int x2), (3, .int x3)]) (by decide) rfl dX3_passYears_8 ?_
      exact GO.pick [1, 2, 3, 4, 0] rfl <| SX3_passYears_b10 a1 h1 (fX3_passYears_b2 a1 n) hrec2 FU M x2 x3 0
def fX3_passYears (a1 : Nat) (M : Mem) (x2 : Int32) : RS := fX3_passYears_b2 a1 FU M x2 0
theorem SX3_passYears (a1 : Nat) (h1 : a1 ∈ [39, 62]) (M : Mem) (x2 : Int32) : CTO (5) miX3_passYears 0 0 [.ref 22, .ref a1, .int x2] M (fX3_passYears a1 M x2) := by
  refine CTO.of (by decide) (by simp [lg_sl, Value.category]) ?_
  show GO miX3_passYears (5) 0 0 0 0 0 [(0, .ref 22), (1, .ref a1), (2, .int x2)] [] M (fX3_passYears_b2 a1 FU M x2 0)
  refine g_iconst (v := 0) (by decide) dX3_passYears_0 ?_
  refine g_istore_n (L' := [(3, .int 0), (0, .ref 22), (1, .ref a1), (2, .int x2)]) (by decide) rfl rfl dX3_passYears_1 ?_
  exact GO.pick [1, 2, 3, 0] rfl <| SX3_passYears_b2 a1 h1 FU M x2 0
def fX11_years_b29 (M : Mem)  : RS := bI (fX11_refuse M 1) (fun M5 v6 => some (M5, .inr (some (.int v6))))
theorem SX11_years_b29 (M : Mem)  : GO miX11_years (6) 0 0 0 0 29 [(0, .ref 0)] [] M (fX11_years_b29 M ) := by
  show GO miX11_years (6) 0 0 0 0 29 [(0, .ref 0)] [] M (bI (fX11_refuse M 1) (fun M5 v6 => some (M5, .inr (some (.int v6)))))
  refine g_aload_n 0 rfl rfl dX11_years_29 ?_
  refine g_iconst (v := 1) (by decide) dX11_years_30 ?_
  refine g_callVI (y := miX11_refuse) (As := [.int 1]) (rest := []) clX11 kd_0 rfl moX11_refuse rfl mlX11_233 (by first | decide | omega) (by decide) (by simp [Value.category]) rfl dX11_years_31 (SX11_refuse  M 1) (fun M5 v6 => ?_)
  exact g_ireturn rfl (by decide) (by decide) dX11_years_34 rfl rfl
def fX11_years (M : Mem) (x1 : Int32) : RS := if x1 < 1 then fX11_years_b29  M else if 30 < x1 then fX11_years_b29  M else if 999 < ((gi M 39 4) + x1) then fX11_years_b29  M else bV (fX11_keepAct M) (fun M1 => bV (fX3_passYears 39 M1 x1) (fun M3 => some (M3, .inr (some (.int (gi M3 39 4))))))
theorem SX11_years (M : Mem) (x1 : Int32) : CTO (6) miX11_years 0 0 [.ref 0, .int x1] M (fX11_years  M x1) := by
  refine CTO.of (by decide) (by simp [lg_sl, Value.category]) ?_
  show GO miX11_years (6) 0 0 0 0 0 [(0, .ref 0), (1, .int x1)] [] M (if x1 < 1 then fX11_years_b29  M else if 30 < x1 then fX11_years_b29  M else if 999 < ((gi M 39 4) + x1) then fX11_years_b29  M else bV (fX11_keepAct M) (fun M1 => bV (fX3_passYears 39 M1 x1) (fun M3 => some (M3, .inr (some (.int (gi M3 39 4)))))))
  refine g_iload_n 1 rfl rfl dX11_years_0 ?_
  refine g_iconst (v := 1) (by decide) dX11_years_1 ?_
  refine g_icmp_lt (tgt := 29) rfl dX11_years_2 (fun c => ?_) (fun c => ?_)
  · exact GO.pick [0] rfl <| SX11_years_b29  M
  · refine g_iload_n 1 rfl rfl dX11_years_5 ?_
    refine g_bipush (v := 30) (by decide) dX11_years_6 ?_
    refine g_icmp_gt (tgt := 29) rfl dX11_years_8 (fun c => ?_) (fun c => ?_)
    · exact GO.pick [0] rfl <| SX11_years_b29  M
    · refine g_aload_n 0 rfl rfl dX11_years_11 ?_
      refine g_getR (k := 3) (b := 38) clX11 kd_0 (by decide) rfl rfl flX11_42 dX11_years_12 ?_
      refine g_getR (k := 0) (b := 39) clX0 kd_38 (by decide) rfl rfl flX11_96 dX11_years_15 ?_
      refine g_getI (k := 4) clX8 kd_39 (by decide) rfl flX11_119 dX11_years_18 ?_
      refine g_iload_n 1 rfl rfl dX11_years_21 ?_
      refine g_iadd dX11_years_22 ?_
      refine g_sipush (v := 999) (by decide) dX11_years_23 ?_
      refine g_icmp_le (tgt := 35) rfl dX11_years_26 (fun c => ?_) (fun c => ?_)
      · refine g_aload_n 0 rfl rfl dX11_years_35 ?_
        refine g_callVV (y := miX11_keepAct) (As := []) (rest := []) clX11 kd_0 rfl moX11_keepAct rfl mlX11_224 (by first | decide | omega) (by decide) (by simp [Value.category]) rfl dX11_years_36 (SX11_keepAct  M) (fun M1 => ?_)
        refine g_aload_n 0 rfl rfl dX11_years_39 ?_
        refine g_getR (k := 2) (b := 22) clX11 kd_0 (by decide) rfl rfl flX11_35 dX11_years_40 ?_
        refine g_aload_n 0 rfl rfl dX11_years_43 ?_
        refine g_getR (k := 3) (b := 38) clX11 kd_0 (by decide) rfl rfl flX11_42 dX11_years_44 ?_
        refine g_getR (k := 0) (b := 39) clX0 kd_38 (by decide) rfl rfl flX11_96 dX11_years_47 ?_
        refine g_iload_n 1 rfl rfl dX11_years_50 ?_
        refine g_callVV (y := miX3_passYears) (As := [.ref 39, .int x1]) (rest := []) clX3 kd_22 rfl moX3_passYears rfl mlX11_240 (by first | decide | omega) (by decide) (by simp [Value.category]) rfl dX11_years_51 (SX3_passYears 39 (by decide) M1 x1) (fun M3 => ?_)
        refine g_aload_n 0 rfl rfl dX11_years_54 ?_
        refine g_getR (k := 3) (b := 38) clX11 kd_0 (by decide) rfl rfl flX11_42 dX11_years_55 ?_
        refine g_getR (k := 0) (b := 39) clX0 kd_38 (by decide) rfl rfl flX11_96 dX11_years_58 ?_
        refine g_getI (k := 4) clX8 kd_39 (by decide) rfl flX11_119 dX11_years_61 ?_
        exact g_ireturn rfl (by decide) (by decide) dX11_years_64 rfl rfl
      · exact GO.pick [0] rfl <| SX11_years_b29  M
def fX8_readFrom_b78 : Nat → Mem → Int32 → Int32 → RS
  | 0 => fun _ _ _ => none
  | n + 1 => fun M x2 x3 => if x3 < 8 then chk (inb ((x2 + 7) + x3) 1240) (chk (inb x3 8) (wr (si M 40 (ix x3) (gi M 44 (ix ((x2 + 7) + x3)))) (fun M17 => chk (inb (((x2 + 7) + 8) + x3) 1240) (chk (inb x3 8) (wr (si M17 41 (ix x3) (gi M17 44 (ix (((x2 + 7) + 8) + x3)))) (fun M20 => chk (inb (((x2 + 7) + 16) + x3) 1240) (chk (inb x3 8) (wr (si M20 42 (ix x3) (gi M20 44 (ix (((x2 + 7) + 16) + x3)))) (fun M23 => (fX8_readFrom_b78 n) M23 x2 (x3 + 1)))))))))) else some (M, .inr none)
theorem SX8_readFrom_b78 (n : Nat) : ∀ (M : Mem) (x2 : Int32) (x3 : Int32), GO miX8_readFrom (0) 0 0 0 0 78 [(0, .ref 39), (1, .ref 44), (2, .int x2), (3, .int x3)] [] M (fX8_readFrom_b78 n M x2 x3) := by
  induction n with
  | zero => intro M x2 x3 ; exact GO.none
  | succ n hrec78 =>
    intro M x2 x3 
    show GO miX8_readFrom (0) 0 0 0 0 78 [(0, .ref 39), (1, .ref 44), (2, .int x2), (3, .int x3)] [] M (if x3 < 8 then chk (inb ((x2 + 7) + x3) 1240) (chk (inb x3 8) (wr (si M 40 (ix x3) (gi M 44 (ix ((x2 + 7) + x3)))) (fun M17 => chk (inb (((x2 + 7) + 8) + x3) 1240) (chk (inb x3 8) (wr (si M17 41 (ix x3) (gi M17 44 (ix (((x2 + 7) + 8) + x3)))) (fun M20 => chk (inb (((x2 + 7) + 16) + x3) 1240) (chk (inb x3 8) (wr (si M20 42 (ix x3) (gi M20 44 (ix (((x2 + 7) + 16) + x3)))) (fun M23 => (fX8_readFrom_b78 n) M23 x2 (x3 + 1)))))))))) else some (M, .inr none))
    refine g_iload_n 3 rfl rfl dX8_readFrom_78 ?_
    refine g_bipush (v := 8) (by decide) dX8_readFrom_79 ?_
    refine g_icmp_ge (tgt := 138) rfl dX8_readFrom_81 (fun c => ?_) (fun c => ?_)
    · exact g_vreturn rfl (by decide) (by decide) dX8_readFrom_138
    · refine g_aload_n 0 rfl rfl dX8_readFrom_84 ?_
      refine g_getR (k := 7) (b := 40) clX8 kd_39 (by decide) rfl rfl flX8_18 dX8_readFrom_85 ?_
      refine g_iload_n 3 rfl rfl dX8_readFrom_88 ?_
      refine g_aload_n 1 rfl rfl dX8_readFrom_89 ?_
      refine g_iload_n 2 rfl rfl dX8_readFrom_90 ?_
      refine g_bipush (v := 7) (by decide) dX8_readFrom_91 ?_
      refine g_iadd dX8_readFrom_93 ?_
      refine g_iload_n 3 rfl rfl dX8_readFrom_94 ?_
      refine g_iadd dX8_readFrom_95 ?_
      refine g_ald kd_44 dX8_readFrom_96 (fun hi15 => ?_)
      refine g_ast kd_40 dX8_readFrom_97 (fun hi16 => ?_)
      refine GO.wr (fun M17 => ?_)
      refine g_aload_n 0 rfl rfl dX8_readFrom_98 ?_
      refine g_getR (k := 8) (b := 41) clX8 kd_39 (by decide) rfl rfl flX8_22 dX8_readFrom_99 ?_
      refine g_iload_n 3 rfl rfl dX8_readFrom_102 ?_
      refine g_aload_n 1 rfl rfl dX8_readFrom_103 ?_
      refine g_iload_n 2 rfl rfl dX8_readFrom_104 ?_
      refine g_bipush (v := 7) (by decide) dX8_readFrom_105 ?_
      refine g_iadd dX8_readFrom_107 ?_
      refine g_bipush (v := 8) (by decide) dX8_readFrom_108 ?_
      refine g_iadd dX8_readFrom_110 ?_
      refine g_iload_n 3 rfl rfl dX8_readFrom_111 ?_
      refine g_iadd dX8_readFrom_112 ?_
      refine g_ald kd_44 dX8_readFrom_113 (fun hi18 => ?_)
      refine g_ast kd_41 dX8_readFrom_114 (fun hi19 => ?_)
      refine GO.wr (fun M20 => ?_)
      refine g_aload_n 0 rfl rfl dX8_readFrom_115 ?_
      refine g_getR (k := 9) (b := 42) clX8 kd_39 (by decide) rfl rfl flX8_25 dX8_readFrom_116 ?_
      refine g_iload_n 3 rfl rfl dX8_readFrom_119 ?_
      refine g_aload_n 1 rfl rfl dX8_readFrom_120 ?_
      refine g_iload_n 2 rfl rfl dX8_readFrom_121 ?_
      refine g_bipush (v := 7) (by decide) dX8_readFrom_122 ?_
      refine g_iadd dX8_readFrom_124 ?_
      refine g_bipush (v := 16) (by decide) dX8_readFrom_125 ?_
      refine g_iadd dX8_readFrom_127 ?_
      refine g_iload_n 3 rfl rfl dX8_readFrom_128 ?_
      refine g_iadd dX8_readFrom_129 ?_
      refine g_ald kd_44 dX8_readFrom_130 (fun hi21 => ?_)
      refine g_ast kd_42 dX8_readFrom_131 (fun hi22 => ?_)
      refine GO.wr (fun M23 => ?_)
      refine g_iinc (v := x3 + 1) (L' := [(3, .int (x3 + 1)), (0, .ref 39), (1, .ref 44), (2, .int x2)]) 3 rfl rfl (by decide) rfl dX8_readFrom_132 ?_
      refine g_goto (tgt := 78) rfl dX8_readFrom_135 ?_
      exact GO.pick [1, 2, 3, 0] rfl <| hrec78 M23 x2 (x3 + 1)
def fX8_readFrom (M : Mem) (x2 : Int32) : RS := if x2 < 0 then some (M, .inr none) else if (1240 - 31) < x2 then some (M, .inr none) else chk (inb x2 1240) (wr (si M 39 0 (gi M 44 (ix x2))) (fun M2 => chk (inb (x2 + 1) 1240) (wr (si M2 39 1 (gi M2 44 (ix (x2 + 1)))) (fun M4 => chk (inb (x2 + 2) 1240) (wr (si M4 39 2 (gi M4 44 (ix (x2 + 2)))) (fun M6 => chk (inb (x2 + 3) 1240) (wr (si M6 39 3 (gi M6 44 (ix (x2 + 3)))) (fun M8 => chk (inb (x2 + 4) 1240) (wr (si M8 39 4 (gi M8 44 (ix (x2 + 4)))) (fun M10 => chk (inb (x2 + 5) 1240) (wr (si M10 39 5 (gi M10 44 (ix (x2 + 5)))) (fun M12 => chk (inb (x2 + 6) 1240) (wr (si M12 39 6 (gi M12 44 (ix (x2 + 6)))) (fun M14 => fX8_readFrom_b78  FU M14 x2 0))))))))))))))
theorem SX8_readFrom (M : Mem) (x2 : Int32) : CTO (0) miX8_readFrom 0 0 [.ref 39, .ref 44, .int x2] M (fX8_readFrom  M x2) := by
  refine CTO.of (by decide) (by simp [lg_sl, Value.category]) ?_
  show GO miX8_readFrom (0) 0 0 0 0 0 [(0, .ref 39), (1, .ref 44), (2, .int x2)] [] M (if x2 < 0 then some (M, .inr none) else if (1240 - 31) < x2 then some (M, .inr none) else chk (inb x2 1240) (wr (si M 39 0 (gi M 44 (ix x2))) (fun M2 => chk (inb (x2 + 1) 1240) (wr (si M2 39 1 (gi M2 44 (ix (x2 + 1)))) (fun M4 => chk (inb (x2 + 2) 1240) (wr (si M4 39 2 (gi M4 44 (ix (x2 + 2)))) (fun M6 => chk (inb (x2 + 3) 1240) (wr (si M6 39 3 (gi M6 44 (ix (x2 + 3)))) (fun M8 => chk (inb (x2 + 4) 1240) (wr (si M8 39 4 (gi M8 44 (ix (x2 + 4)))) (fun M10 => chk (inb (x2 + 5) 1240) (wr (si M10 39 5 (gi M10 44 (ix (x2 + 5)))) (fun M12 => chk (inb (x2 + 6) 1240) (wr (si M12 39 6 (gi M12 44 (ix (x2 + 6)))) (fun M14 => fX8_readFrom_b78  FU M14 x2 0)))))))))))))))
  refine g_iload_n 2 rfl rfl dX8_readFrom_0 ?_
  refine g_if_lt (tgt := 13) rfl dX8_readFrom_1 (fun c => ?_) (fun c => ?_)
  · exact g_vreturn rfl (by decide) (by decide) dX8_readFrom_13
  · refine g_iload_n 2 rfl rfl dX8_readFrom_4 ?_
    refine g_aload_n 1 rfl rfl dX8_readFrom_5 ?_
    refine g_alen (v := 1240) kd_44 (by decide) (by decide) dX8_readFrom_6 ?_
    refine g_bipush (v := 31) (by decide) dX8_readFrom_7 ?_
    refine g_isub dX8_readFrom_9 ?_
    refine g_icmp_le (tgt := 14) rfl dX8_readFrom_10 (fun c => ?_) (fun c => ?_)
    · refine g_aload_n 0 rfl rfl dX8_readFrom_14 ?_
      refine g_aload_n 1 rfl rfl dX8_readFrom_15 ?_
      refine g_iload_n 2 rfl rfl dX8_readFrom_16 ?_
      refine g_ald kd_44 dX8_readFrom_17 (fun hi1 => ?_)
      refine g_putI (k := 0) clX8 kd_39 (by decide) rfl (by decide) rfl flX8_28 dX8_readFrom_18 ?_
      refine GO.wr (fun M2 => ?_)
      refine g_aload_n 0 rfl rfl dX8_readFrom_21 ?_
      refine g_aload_n 1 rfl rfl dX8_readFrom_22 ?_
      refine g_iload_n 2 rfl rfl dX8_readFrom_23 ?_
      refine g_iconst (v := 1) (by decide) dX8_readFrom_24 ?_
      refine g_iadd dX8_readFrom_25 ?_
      refine g_ald kd_44 dX8_readFrom_26 (fun hi3 => ?_)
      refine g_putI (k := 1) clX8 kd_39 (by decide) rfl (by decide) rfl flX8_47 dX8_readFrom_27 ?_
      refine GO.wr (fun M4 => ?_)
      refine g_aload_n 0 rfl rfl dX8_readFrom_30 ?_
      refine g_aload_n 1 rfl rfl dX8_readFrom_31 ?_
      refine g_iload_n 2 rfl rfl dX8_readFrom_32 ?_
      refine g_iconst (v := 2) (by decide) dX8_readFrom_33 ?_
      refine g_iadd dX8_readFrom_34 ?_
      refine g_ald kd_44 dX8_readFrom_35 (fun hi5 => ?_)
      refine g_putI (k := 2) clX8 kd_39 (by decide) rfl (by decide) rfl flX8_9 dX8_readFrom_36 ?_
      refine GO.wr (fun M6 => ?_)
      refine g_aload_n 0 rfl rfl dX8_readFrom_39 ?_
      refine g_aload_n 1 rfl rfl dX8_readFrom_40 ?_
      refine g_iload_n 2 rfl rfl dX8_readFrom_41 ?_
      refine g_iconst (v := 3) (by decide) dX8_readFrom_42 ?_
      refine g_iadd dX8_readFrom_43 ?_
      refine g_ald kd_44 dX8_readFrom_44 (fun hi7 => ?_)
      refine g_putI (k := 3) clX8 kd_39 (by decide) rfl (by decide) rfl flX8_15 dX8_readFrom_45 ?_
      refine GO.wr (fun M8 => ?_)
      refine g_aload_n 0 rfl rfl dX8_readFrom_48 ?_
      refine g_aload_n 1 rfl rfl dX8_readFrom_49 ?_
      refine g_iload_n 2 rfl rfl dX8_readFrom_50 ?_
      refine g_iconst (v := 4) (by decide) dX8_readFrom_51 ?_
      refine g_iadd dX8_readFrom_52 ?_
      refine g_ald kd_44 dX8_readFrom_53 (fun hi9 => ?_)
      refine g_putI (k := 4) clX8 kd_39 (by decide) rfl (by decide) rfl flX8_44 dX8_readFrom_54 ?_
      refine GO.wr (fun M10 => ?_)
      refine g_aload_n 0 rfl rfl dX8_readFrom_57 ?_
      refine g_aload_n 1 rfl rfl dX8_readFrom_58 ?_
      refine g_iload_n 2 rfl rfl dX8_readFrom_59 ?_
      refine g_iconst (v := 5) (by decide) dX8_readFrom_60 ?_
      refine g_iadd dX8_readFrom_61 ?_
      refine g_ald kd_44 dX8_readFrom_62 (fun hi11 => ?_)
      refine g_putI (k := 5) clX8 kd_39 (by decide) rfl (by decide) rfl flX8_35 dX8_readFrom_63 ?_
      refine GO.wr (fun M12 => ?_)
      refine g_aload_n 0 rfl rfl dX8_readFrom_66 ?_
      refine g_aload_n 1 rfl rfl dX8_readFrom_67 ?_
      refine g_iload_n 2 rfl rfl dX8_readFrom_68 ?_
      refine g_bipush (v := 6) (by decide) dX8_readFrom_69 ?_
      refine g_iadd dX8_readFrom_71 ?_
      refine g_ald kd_44 dX8_readFrom_72 (fun hi13 => ?_)
      refine g_putI (k := 6) clX8 kd_39 (by decide) rfl (by decide) rfl flX8_38 dX8_readFrom_73 ?_
      refine GO.wr (fun M14 => ?_)
      refine g_iconst (v := 0) (by decide) dX8_readFrom_76 ?_
      refine g_istore_n (L' := [(3, .int 0), (0, .ref 39), (1, .ref 44), (2, .int x2)]) (by decide) rfl rfl dX8_readFrom_77 ?_
      exact GO.pick [1, 2, 3, 0] rfl <| SX8_readFrom_b78  FU M14 x2 0
    · exact g_vreturn rfl (by decide) (by decide) dX8_readFrom_13
def fX1_takeLast (M : Mem)  : RS := if 0 < (gi M 43 2) then wr (si M 43 2 ((gi M 43 2) - 1)) (fun M1 => bV (fX8_readFrom M1 ((((gi M1 43 1) + (gi M1 43 2)) - ((gi M1 43 1) + (gi M1 43 2)) / 40 * 40) * 31)) (fun M2 => some (M2, .inr none))) else some (M, .inr none)
theorem SX1_takeLast (M : Mem)  : CTO (1) miX1_takeLast 0 0 [.ref 43, .ref 39] M (fX1_takeLast  M ) := by
  refine CTO.of (by decide) (by simp [lg_sl, Value.category]) ?_
  show GO miX1_takeLast (1) 0 0 0 0 0 [(0, .ref 43), (1, .ref 39)] [] M (if 0 < (gi M 43 2) then wr (si M 43 2 ((gi M 43 2) - 1)) (fun M1 => bV (fX8_readFrom M1 ((((gi M1 43 1) + (gi M1 43 2)) - ((gi M1 43 1) + (gi M1 43 2)) / 40 * 40) * 31)) (fun M2 => some (M2, .inr none))) else some (M, .inr none))
  refine g_aload_n 0 rfl rfl dX1_takeLast_0 ?_
  refine g_getI (k := 2) clX1 kd_43 (by decide) rfl flX1_21 dX1_takeLast_1 ?_
  refine g_if_le (tgt := 40) rfl dX1_takeLast_4 (fun c => ?_) (fun c => ?_)
  · exact g_vreturn rfl (by decide) (by decide) dX1_takeLast_40
  · refine g_aload_n 0 rfl rfl dX1_takeLast_7 ?_
    refine g_dup_ref dX1_takeLast_8 ?_
    refine g_getI (k := 2) clX1 kd_43 (by decide) rfl flX1_21 dX1_takeLast_9 ?_
    refine g_iconst (v := 1) (by decide) dX1_takeLast_12 ?_
    refine g_isub dX1_takeLast_13 ?_
    refine g_putI (k := 2) clX1 kd_43 (by decide) rfl (by decide) rfl flX1_21 dX1_takeLast_14 ?_
    refine GO.wr (fun M1 => ?_)
    refine g_aload_n 1 rfl rfl dX1_takeLast_17 ?_
    refine g_aload_n 0 rfl rfl dX1_takeLast_18 ?_
    refine g_getR (k := 0) (b := 44) clX1 kd_43 (by decide) rfl rfl flX1_11 dX1_takeLast_19 ?_
    refine g_aload_n 0 rfl rfl dX1_takeLast_22 ?_
    refine g_getI (k := 1) clX1 kd_43 (by decide) rfl flX1_17 dX1_takeLast_23 ?_
    refine g_aload_n 0 rfl rfl dX1_takeLast_26 ?_
    refine g_getI (k := 2) clX1 kd_43 (by decide) rfl flX1_21 dX1_takeLast_27 ?_
    refine g_iadd dX1_takeLast_30 ?_
    refine g_bipush (v := 40) (by decide) dX1_takeLast_31 ?_
    refine g_irem (by decide) dX1_takeLast_33 ?_
    refine g_bipush (v := 31) (by decide) dX1_takeLast_34 ?_
    refine g_imul dX1_takeLast_36 ?_
    refine g_callVV (y := miX8_readFrom) (As := [.ref 44, .int ((((gi M1 43 1) + (gi M1 43 2)) - ((gi M1 43 1) + (gi M1 43 2)) / 40 * 40) * 31)]) (rest := []) clX8 kd_39 rfl moX8_readFrom rfl mlX1_28 (by first | decide | omega) (by decide) (by simp [Value.category]) rfl dX1_takeLast_37 (SX8_readFrom  M1 ((((gi M1 43 1) + (gi M1 43 2)) - ((gi M1 43 1) + (gi M1 43 2)) / 40 * 40) * 31)) (fun M2 => ?_)
    exact g_vreturn rfl (by decide) (by decide) dX1_takeLast_40
def fX11_undo (M : Mem)  : RS := if (gi M 43 2) = 0 then some (M, .inr (some (.int (-1)))) else bV (fX1_takeLast M) (fun M1 => some (M1, .inr (some (.int (gi M1 43 2)))))
theorem SX11_undo (M : Mem)  : CTO (2) miX11_undo 0 0 [.ref 0] M (fX11_undo  M ) := by
  refine CTO.of (by decide) (by simp [lg_sl, Value.category]) ?_
  show GO miX11_undo (2) 0 0 0 0 0 [(0, .ref 0)] [] M (if (gi M 43 2) = 0 then some (M, .inr (some (.int (-1)))) else bV (fX1_takeLast M) (fun M1 => some (M1, .inr (some (.int (gi M1 43 2))))))
  refine g_aload_n 0 rfl rfl dX11_undo_0 ?_
  refine g_getR (k := 3) (b := 38) clX11 kd_0 (by decide) rfl rfl flX11_42 dX11_undo_1 ?_
  refine g_getR (k := 1) (b := 43) clX0 kd_38 (by decide) rfl rfl flX11_138 dX11_undo_4 ?_
  refine g_getI (k := 2) clX1 kd_43 (by decide) rfl flX11_142 dX11_undo_7 ?_
  refine g_if_ne (tgt := 15) rfl dX11_undo_10 (fun c => ?_) (fun c => ?_)
  · refine g_aload_n 0 rfl rfl dX11_undo_15 ?_
    refine g_getR (k := 3) (b := 38) clX11 kd_0 (by decide) rfl rfl flX11_42 dX11_undo_16 ?_
    refine g_getR (k := 1) (b := 43) clX0 kd_38 (by decide) rfl rfl flX11_138 dX11_undo_19 ?_
    refine g_aload_n 0 rfl rfl dX11_undo_22 ?_
    refine g_getR (k := 3) (b := 38) clX11 kd_0 (by decide) rfl rfl flX11_42 dX11_undo_23 ?_
    refine g_getR (k := 0) (b := 39) clX0 kd_38 (by decide) rfl rfl flX11_96 dX11_undo_26 ?_
    refine g_callVV (y := miX1_takeLast) (As := [.ref 39]) (rest := []) clX1 kd_43 rfl moX1_takeLast rfl mlX11_243 (by first | decide | omega) (by decide) (by simp [Value.category]) rfl dX11_undo_29 (SX1_takeLast  M) (fun M1 => ?_)
    refine g_aload_n 0 rfl rfl dX11_undo_32 ?_
    refine g_getR (k := 3) (b := 38) clX11 kd_0 (by decide) rfl rfl flX11_42 dX11_undo_33 ?_
    refine g_getR (k := 1) (b := 43) clX0 kd_38 (by decide) rfl rfl flX11_138 dX11_undo_36 ?_
    refine g_getI (k := 2) clX1 kd_43 (by decide) rfl flX11_142 dX11_undo_39 ?_
    exact g_ireturn rfl (by decide) (by decide) dX11_undo_42 rfl rfl
  · refine g_iconst (v := (-1)) (by decide) dX11_undo_13 ?_
    exact g_ireturn rfl (by decide) (by decide) dX11_undo_14 rfl rfl
def fX11_comesBack_b55 (rec7 : Mem → Int32 → Int32 → Int32 → Int32 → RS) (rec19 : Mem → Int32 → Int32 → Int32 → Int32 → Int32 → Int32 → RS) (M : Mem) (x1 : Int32) (x2 : Int32) (x3 : Int32) (x4 : Int32) (x5 : Int32) (x6 : Int32) : RS := rec19 M x1 x2 x3 x4 x5 (x6 + 1)
theorem SX11_comesBack_b55 (rec7 : Mem → Int32 → Int32 → Int32 → Int32 → RS) (hrec7 : ∀ (M : Mem) (x1 : Int32) (x2 : Int32) (x3 : Int32) (x4 : Int32), GO miX11_comesBack (0) 0 0 0 0 7 [(0, .ref 0), (1, .int x1), (2, .int x2), (3, .int x3), (4, .int x4)] [] M (rec7 M x1 x2 x3 x4)) (rec19 : Mem → Int32 → Int32 → Int32 → Int32 → Int32 → Int32 → RS) (hrec19 : ∀ (M : Mem) (x1 : Int32) (x2 : Int32) (x3 : Int32) (x4 : Int32) (x5 : Int32) (x6 : Int32), GO miX11_comesBack (0) 0 0 0 0 19 [(0, .ref 0), (1, .int x1), (2, .int x2), (3, .int x3), (4, .int x4), (5, .int x5), (6, .int x6)] [] M (rec19 M x1 x2 x3 x4 x5 x6)) (M : Mem) (x1 : Int32) (x2 : Int32) (x3 : Int32) (x4 : Int32) (x5 : Int32) (x6 : Int32) : GO miX11_comesBack (0) 0 0 0 0 55 [(0, .ref 0), (1, .int x1), (2, .int x2), (3, .int x3), (4, .int x4), (5, .int x5), (6, .int x6)] [] M (fX11_comesBack_b55 rec7 rec19 M x1 x2 x3 x4 x5 x6) := by
  show GO miX11_comesBack (0) 0 0 0 0 55 [(0, .ref 0), (1, .int x1), (2, .int x2), (3, .int x3), (4, .int x4), (5, .int x5), (6, .int x6)] [] M (rec19 M x1 x2 x3 x4 x5 (x6 + 1))
  refine g_iinc (v := x6 + 1) (L' := [(6, .int (x6 + 1)), (0, .ref 0), (1, .int x1), (2, .int x2), (3, .int x3), (4, .int x4), (5, .int x5)]) 6 rfl rfl (by decide) rfl dX11_comesBack_55 ?_
  refine g_goto (tgt := 19) rfl dX11_comesBack_58 ?_
  exact GO.pick [1, 2, 3, 4, 5, 6, 0] rfl <| hrec19 M x1 x2 x3 x4 x5 (x6 + 1)
def fX11_comesBack_b19 (rec7 : Mem → Int32 → Int32 → Int32 → Int32 → RS) : Nat → Mem → Int32 → Int32 → Int32 → Int32 → Int32 → Int32 → RS
  | 0 => fun _ _ _ _ _ _ _ => none
  | n + 1 => fun M x1 x2 x3 x4 x5 x6 => if x6 < (gi M (isA (gb M 0)) 9) then if ((x3 >>> (x6 &&& 31)) &&& 1) = 0 then fX11_comesBack_b55 rec7 (fX11_comesBack_b19 rec7 n) M x1 x2 x3 x4 x5 x6 else chk (inb x6 8) (fX11_comesBack_b55 rec7 (fX11_comesBack_b19 rec7 n) M x1 x2 x3 x4 (x5 ||| (gi M 86 (ix x6))) x6) else rec7 M x1 x2 x5 (x4 + 1)
theorem SX11_comesBack_b19 (rec7 : Mem → Int32 → Int32 → Int32 → Int32 → RS) (hrec7 : ∀ (M : Mem) (x1 : Int32) (x2 : Int32) (x3 : Int32) (x4 : Int32), GO miX11_comesBack (0) 0 0 0 0 7 [(0, .ref 0), (1, .int x1), (2, .int x2), (3, .int x3), (4, .int x4)] [] M (rec7 M x1 x2 x3 x4)) (n : Nat) : ∀ (M : Mem) (x1 : Int32) (x2 : Int32) (x3 : Int32) (x4 : Int32) (x5 : Int32) (x6 : Int32), GO miX11_comesBack (0) 0 0 0 0 19 [(0, .ref 0), (1, .int x1), (2, .int x2), (3, .int x3), (4, .int x4), (5, .int x5), (6, .int x6)] [] M (fX11_comesBack_b19 rec7 n M x1 x2 x3 x4 x5 x6) := by
  induction n with
  | zero => intro M x1 x2 x3 x4 x5 x6 ; exact GO.none
  | succ n hrec19 =>
    intro M x1 x2 x3 x4 x5 x6 
    show GO miX11_comesBack (0) 0 0 0 0 19 [(0, .ref 0), (1, .int x1), (2, .int x2), (3, .int x3), (4, .int x4), (5, .int x5), (6, .int x6)] [] M (if x6 < (gi M (isA (gb M 0)) 9) then if ((x3 >>> (x6 &&& 31)) &&& 1) = 0 then fX11_comesBack_b55 rec7 (fX11_comesBack_b19 rec7 n) M x1 x2 x3 x4 x5 x6 else chk (inb x6 8) (fX11_comesBack_b55 rec7 (fX11_comesBack_b19 rec7 n) M x1 x2 x3 x4 (x5 ||| (gi M 86 (ix x6))) x6) else rec7 M x1 x2 x5 (x4 + 1))
    refine g_iload 6 rfl dX11_comesBack_19 ?_
    refine g_aload_n 0 rfl rfl dX11_comesBack_21 ?_
    refine g_getR (k := 2) (b := 22) clX11 kd_0 (by decide) rfl rfl flX11_35 dX11_comesBack_22 ?_
    refine g_getR (k := 1) (b := (isA (gb M 0))) clX3 kd_22 (by decide) rfl rfl flX11_89 dX11_comesBack_25 ?_
    refine g_getI (k := 9) clX2 (kv_d3_24_0 _ (isA_dom _)) (by decide) rfl flX11_106 dX11_comesBack_28 ?_
    refine g_icmp_ge (tgt := 61) rfl dX11_comesBack_31 (fun c => ?_) (fun c => ?_)
    · refine g_iload 5 rfl dX11_comesBack_61 ?_
      refine g_istore_n (L' := [(3, .int x5), (0, .ref 0), (1, .int x1), (2, .int x2), (4, .int x4), (5, .int x5), (6, .int x6)]) (by decide) rfl rfl dX11_comesBack_63 ?_
      refine g_iinc (v := x4 + 1) (L' := [(4, .int (x4 + 1)), (3, .int x5), (0, .ref 0), (1, .int x1), (2, .int x2), (5, .int x5), (6, .int x6)]) 4 rfl rfl (by decide) rfl dX11_comesBack_64 ?_
      refine g_goto (tgt := 7) rfl dX11_comesBack_67 ?_
      exact GO.pick [2, 3, 4, 1, 0] rfl <| hrec7 M x1 x2 x5 (x4 + 1)
    · refine g_iload_n 3 rfl rfl dX11_comesBack_34 ?_
      refine g_iload 6 rfl dX11_comesBack_35 ?_
      refine g_ishr dX11_comesBack_37 ?_
      refine g_iconst (v := 1) (by decide) dX11_comesBack_38 ?_
      refine g_iand dX11_comesBack_39 ?_
      refine g_if_eq (tgt := 55) rfl dX11_comesBack_40 (fun c => ?_) (fun c => ?_)
      · exact GO.pick [0, 1, 2, 3, 4, 5, 6] rfl <| SX11_comesBack_b55  rec7 hrec7 (fX11_comesBack_b19 rec7 n) hrec19 M x1 x2 x3 x4 x5 x6
      · refine g_iload 5 rfl dX11_comesBack_43 ?_
        refine g_aload_n 0 rfl rfl dX11_comesBack_45 ?_
        refine g_getR (k := 7) (b := 86) clX11 kd_0 (by decide) rfl rfl flX11_63 dX11_comesBack_46 ?_
        refine g_iload 6 rfl dX11_comesBack_49 ?_
        refine g_ald kd_86 dX11_comesBack_51 (fun hi1 => ?_)
        refine g_ior dX11_comesBack_52 ?_
        refine g_istore (L' := [(5, .int (x5 ||| (gi M 86 (ix x6)))), (0, .ref 0), (1, .int x1), (2, .int x2), (3, .int x3), (4, .int x4), (6, .int x6)]) (by decide) rfl dX11_comesBack_53 ?_
        exact GO.pick [1, 2, 3, 4, 5, 0, 6] rfl <| SX11_comesBack_b55  rec7 hrec7 (fX11_comesBack_b19 rec7 n) hrec19 M x1 x2 x3 x4 (x5 ||| (gi M 86 (ix x6))) x6
def fX11_comesBack_b7 : Nat → Mem → Int32 → Int32 → Int32 → Int32 → RS
  | 0 => fun _ _ _ _ _ => none
  | n + 1 => fun M x1 x2 x3 x4 => if x4 < x2 then fX11_comesBack_b19 (fX11_comesBack_b7 n) FU M x1 x2 x3 x4 0 0 else if ((x3 >>> (x1 &&& 31)) &&& 1) = 0 then some (M, .inr (some (.int 0))) else some (M, .inr (some (.int 1)))
theorem SX11_comesBack_b7 (n : Nat) : ∀ (M : Mem) (x1 : Int32) (x2 : Int32) (x3 : Int32) (x4 : Int32), GO miX11_comesBack (0) 0 0 0 0 7 [(0, .ref 0), (1, .int x1), (2, .int x2), (3, .int x3), (4, .int x4)] [] M (fX11_comesBack_b7 n M x1 x2 x3 x4) := by
  induction n with
  | zero => intro M x1 x2 x3 x4 ; exact GO.none
  | succ n hrec7 =>
    intro M x1 x2 x3 x4 
    show GO miX11_comesBack (0) 0 0 0 0 7 [(0, .ref 0), (1, .int x1), (2, .int x2), (3, .int x3), (4, .int x4)] [] M (if x4 < x2 then fX11_comesBack_b19 (fX11_comesBack_b7 n) FU M x1 x2 x3 x4 0 0 else if ((x3 >>> (x1 &&& 31)) &&& 1) = 0 then some (M, .inr (some (.int 0))) else some (M, .inr (some (.int 1))))
    refine g_iload 4 rfl dX11_comesBack_7 ?_
    refine g_iload_n 2 rfl rfl dX11_comesBack_9 ?_
    refine g_icmp_ge (tgt := 70) rfl dX11_comesBack_10 (fun c => ?_) (fun c => ?_)
    · refine g_iload_n 3 rfl rfl dX11_comesBack_70 ?_
      refine g_iload_n 1 rfl rfl dX11_comesBack_71 ?_
      refine g_ishr dX11_comesBack_72 ?_
      refine g_iconst (v := 1) (by decide) dX11_comesBack_73 ?_
      refine g_iand dX11_comesBack_74 ?_
      refine g_if_eq (tgt := 82) rfl dX11_comesBack_75 (fun c => ?_) (fun c => ?_)
      · refine g_iconst (v := 0) (by decide) dX11_comesBack_82 ?_
        exact g_zreturn rfl (by decide) (by decide) dX11_comesBack_83 (by decide)
      · refine g_iconst (v := 1) (by decide) dX11_comesBack_78 ?_
        refine g_goto (tgt := 83) rfl dX11_comesBack_79 ?_
        exact g_zreturn rfl (by decide) (by decide) dX11_comesBack_83 (by decide)
    · refine g_iconst (v := 0) (by decide) dX11_comesBack_13 ?_
      refine g_istore (L' := [(5, .int 0), (0, .ref 0), (1, .int x1), (2, .int x2), (3, .int x3), (4, .int x4)]) (by decide) rfl dX11_comesBack_14 ?_
      refine g_iconst (v := 0) (by decide) dX11_comesBack_16 ?_
      refine g_istore (L' := [(6, .int 0), (5, .int 0), (0, .ref 0), (1, .int x1), (2, .int x2), (3, .int x3), (4, .int x4)]) (by decide) rfl dX11_comesBack_17 ?_
      exact GO.pick [2, 3, 4, 5, 6, 1, 0] rfl <| SX11_comesBack_b19  (fX11_comesBack_b7 n) hrec7 FU M x1 x2 x3 x4 0 0
def fX11_comesBack (M : Mem) (x1 : Int32) (x2 : Int32) : RS := fX11_comesBack_b7  FU M x1 x2 ((1 : Int32) <<< (x1 &&& 31)) 0
theorem SX11_comesBack (M : Mem) (x1 : Int32) (x2 : Int32) : CTO (0) miX11_comesBack 0 0 [.ref 0, .int x1, .int x2] M (fX11_comesBack  M x1 x2) := by
  refine CTO.of (by decide) (by simp [lg_sl, Value.category]) ?_
  show GO miX11_comesBack (0) 0 0 0 0 0 [(0, .ref 0), (1, .int x1), (2, .int x2)] [] M (fX11_comesBack_b7  FU M x1 x2 ((1 : Int32) <<< (x1 &&& 31)) 0)
  refine g_iconst (v := 1) (by decide) dX11_comesBack_0 ?_
  refine g_iload_n 1 rfl rfl dX11_comesBack_1 ?_
  refine g_ishl dX11_comesBack_2 ?_
  refine g_istore_n (L' := [(3, .int ((1 : Int32) <<< (x1 &&& 31))), (0, .ref 0), (1, .int x1), (2, .int x2)]) (by decide) rfl rfl dX11_comesBack_3 ?_
  refine g_iconst (v := 0) (by decide) dX11_comesBack_4 ?_
  refine g_istore (L' := [(4, .int 0), (3, .int ((1 : Int32) <<< (x1 &&& 31))), (0, .ref 0), (1, .int x1), (2, .int x2)]) (by decide) rfl dX11_comesBack_5 ?_
  exact GO.pick [2, 3, 4, 1, 0] rfl <| SX11_comesBack_b7  FU M x1 x2 ((1 : Int32) <<< (x1 &&& 31)) 0
def fX11_findEnvy_b2 : Nat → Mem → Int32 → RS
  | 0 => fun _ _ => none
  | n + 1 => fun M x1 => if x1 < (gi M (isA (gb M 0)) 9) then bI (fX3_enviedBy M x1) (fun M1 v2 => chk (inb x1 8) (wr (si M1 86 (ix x1) v2) (fun M4 => (fX11_findEnvy_b2 n) M4 (x1 + 1)))) else some (M, .inr none)
theorem SX11_findEnvy_b2 (n : Nat) : ∀ (M : Mem) (x1 : Int32), GO miX11_findEnvy (6) 0 0 0 0 2 [(0, .ref 0), (1, .int x1)] [] M (fX11_findEnvy_b2 n M x1) := by
  induction n with
  | zero => intro M x1 ; exact GO.none
  | succ n hrec2 =>
    intro M x1 
    show GO miX11_findEnvy (6) 0 0 0 0 2 [(0, .ref 0), (1, .int x1)] [] M (if x1 < (gi M (isA (gb M 0)) 9) then bI (fX3_enviedBy M x1) (fun M1 v2 => chk (inb x1 8) (wr (si M1 86 (ix x1) v2) (fun M4 => (fX11_findEnvy_b2 n) M4 (x1 + 1)))) else some (M, .inr none))
    refine g_iload_n 1 rfl rfl dX11_findEnvy_2 ?_
    refine g_aload_n 0 rfl rfl dX11_findEnvy_3 ?_
    refine g_getR (k := 2) (b := 22) clX11 kd_0 (by decide) rfl rfl flX11_35 dX11_findEnvy_4 ?_
    refine g_getR (k := 1) (b := (isA (gb M 0))) clX3 kd_22 (by decide) rfl rfl flX11_89 dX11_findEnvy_7 ?_
    refine g_getI (k := 9) clX2 (kv_d3_24_0 _ (isA_dom _)) (by decide) rfl flX11_106 dX11_findEnvy_10 ?_
    refine g_icmp_ge (tgt := 43) rfl dX11_findEnvy_13 (fun c => ?_) (fun c => ?_)
    · exact g_vreturn rfl (by decide) (by decide) dX11_findEnvy_43
    · refine g_aload_n 0 rfl rfl dX11_findEnvy_16 ?_
      refine g_getR (k := 7) (b := 86) clX11 kd_0 (by decide) rfl rfl flX11_63 dX11_findEnvy_17 ?_
      refine g_iload_n 1 rfl rfl dX11_findEnvy_20 ?_
      refine g_aload_n 0 rfl rfl dX11_findEnvy_21 ?_
      refine g_getR (k := 2) (b := 22) clX11 kd_0 (by decide) rfl rfl flX11_35 dX11_findEnvy_22 ?_
      refine g_aload_n 0 rfl rfl dX11_findEnvy_25 ?_
      refine g_getR (k := 3) (b := 38) clX11 kd_0 (by decide) rfl rfl flX11_42 dX11_findEnvy_26 ?_
      refine g_getR (k := 0) (b := 39) clX0 kd_38 (by decide) rfl rfl flX11_96 dX11_findEnvy_29 ?_
      refine g_iload_n 1 rfl rfl dX11_findEnvy_32 ?_
      refine g_callVI (y := miX3_enviedBy) (As := [.ref 39, .int x1]) (rest := [.int x1, .ref 86]) clX3 kd_22 rfl moX3_enviedBy rfl mlX11_180 (by first | decide | omega) (by decide) (by simp [Value.category]) rfl dX11_findEnvy_33 (SX3_enviedBy  M x1) (fun M1 v2 => ?_)
      refine g_ast kd_86 dX11_findEnvy_36 (fun hi3 => ?_)
      refine GO.wr (fun M4 => ?_)
      refine g_iinc (v := x1 + 1) (L' := [(1, .int (x1 + 1)), (0, .ref 0)]) 1 rfl rfl (by decide) rfl dX11_findEnvy_37 ?_
      refine g_goto (tgt := 2) rfl dX11_findEnvy_40 ?_
      exact GO.pick [1, 0] rfl <| hrec2 M4 (x1 + 1)
def fX11_findEnvy (M : Mem)  : RS := fX11_findEnvy_b2  FU M 0
theorem SX11_findEnvy (M : Mem)  : CTO (6) miX11_findEnvy 0 0 [.ref 0] M (fX11_findEnvy  M ) := by
  refine CTO.of (by decide) (by simp [lg_sl, Value.category]) ?_
  show GO miX11_findEnvy (6) 0 0 0 0 0 [(0, .ref 0)] [] M (fX11_findEnvy_b2  FU M 0)
  refine g_iconst (v := 0) (by decide) dX11_findEnvy_0 ?_
  refine g_istore_n (L' := [(1, .int 0), (0, .ref 0)]) (by decide) rfl rfl dX11_findEnvy_1 ?_
  exact GO.pick [1, 0] rfl <| SX11_findEnvy_b2  FU M 0
def fX11_ring_b24 (rec17 : Mem → Int32 → Int32 → RS) : Nat → Mem → Int32 → Int32 → Int32 → RS
  | 0 => fun _ _ _ _ => none
  | n + 1 => fun M x1 x2 x3 => if x3 < x1 then bI (fX11_comesBack M x3 x2) (fun M3 v4 => if v4 = 0 then (fX11_ring_b24 rec17 n) M3 x1 x2 (x3 + 1) else some (M3, .inr (some (.int x2)))) else rec17 M x1 (x2 + 1)
theorem SX11_ring_b24 (rec17 : Mem → Int32 → Int32 → RS) (hrec17 : ∀ (M : Mem) (x1 : Int32) (x2 : Int32), GO miX11_ring (7) 0 0 0 0 17 [(0, .ref 0), (1, .int x1), (2, .int x2)] [] M (rec17 M x1 x2)) (n : Nat) : ∀ (M : Mem) (x1 : Int32) (x2 : Int32) (x3 : Int32), GO miX11_ring (7) 0 0 0 0 24 [(0, .ref 0), (1, .int x1), (2, .int x2), (3, .int x3)] [] M (fX11_ring_b24 rec17 n M x1 x2 x3) := by
  induction n with
  | zero => intro M x1 x2 x3 ; exact GO.none
  | succ n hrec24 =>
    intro M x1 x2 x3 
    show GO miX11_ring (7) 0 0 0 0 24 [(0, .ref 0), (1, .int x1), (2, .int x2), (3, .int x3)] [] M (if x3 < x1 then bI (fX11_comesBack M x3 x2) (fun M3 v4 => if v4 = 0 then (fX11_ring_b24 rec17 n) M3 x1 x2 (x3 + 1) else some (M3, .inr (some (.int x2)))) else rec17 M x1 (x2 + 1))
    refine g_iload_n 3 rfl rfl dX11_ring_24 ?_
    refine g_iload_n 1 rfl rfl dX11_ring_25 ?_
    refine g_icmp_ge (tgt := 46) rfl dX11_ring_26 (fun c => ?_) (fun c => ?_)
    · refine g_iinc (v := x2 + 1) (L' := [(2, .int (x2 + 1)), (0, .ref 0), (1, .int x1), (3, .int x3)]) 2 rfl rfl (by decide) rfl dX11_ring_46 ?_
      refine g_goto (tgt := 17) rfl dX11_ring_49 ?_
      exact GO.pick [1, 2, 0] rfl <| hrec17 M x1 (x2 + 1)
    · refine g_aload_n 0 rfl rfl dX11_ring_29 ?_
      refine g_iload_n 3 rfl rfl dX11_ring_30 ?_
      refine g_iload_n 2 rfl rfl dX11_ring_31 ?_
      refine g_callVI (y := miX11_comesBack) (As := [.int x3, .int x2]) (rest := []) clX11 kd_0 rfl moX11_comesBack rfl mlX11_253 (by first | decide | omega) (by decide) (by simp [Value.category]) rfl dX11_ring_32 (SX11_comesBack  M x3 x2) (fun M3 v4 => ?_)
      refine g_if_eq (tgt := 40) rfl dX11_ring_35 (fun c => ?_) (fun c => ?_)
      · refine g_iinc (v := x3 + 1) (L' := [(3, .int (x3 + 1)), (0, .ref 0), (1, .int x1), (2, .int x2)]) 3 rfl rfl (by decide) rfl dX11_ring_40 ?_
        refine g_goto (tgt := 24) rfl dX11_ring_43 ?_
        exact GO.pick [1, 2, 3, 0] rfl <| hrec24 M3 x1 x2 (x3 + 1)
      · refine g_iload_n 2 rfl rfl dX11_ring_38 ?_
        exact g_ireturn rfl (by decide) (by decide) dX11_ring_39 rfl rfl
def fX11_ring_b17 : Nat → Mem → Int32 → Int32 → RS
  | 0 => fun _ _ _ => none
  | n + 1 => fun M x1 x2 => if x1 < x2 then some (M, .inr (some (.int (-1)))) else fX11_ring_b24 (fX11_ring_b17 n) FU M x1 x2 0
theorem SX11_ring_b17 (n : Nat) : ∀ (M : Mem) (x1 : Int32) (x2 : Int32), GO miX11_ring (7) 0 0 0 0 17 [(0, .ref 0), (1, .int x1), (2, .int x2)] [] M (fX11_ring_b17 n M x1 x2) := by
  induction n with
  | zero => intro M x1 x2 ; exact GO.none
  | succ n hrec17 =>
    intro M x1 x2 
    show GO miX11_ring (7) 0 0 0 0 17 [(0, .ref 0), (1, .int x1), (2, .int x2)] [] M (if x1 < x2 then some (M, .inr (some (.int (-1)))) else fX11_ring_b24 (fX11_ring_b17 n) FU M x1 x2 0)
    refine g_iload_n 2 rfl rfl dX11_ring_17 ?_
    refine g_iload_n 1 rfl rfl dX11_ring_18 ?_
    refine g_icmp_gt (tgt := 52) rfl dX11_ring_19 (fun c => ?_) (fun c => ?_)
    · refine g_iconst (v := (-1)) (by decide) dX11_ring_52 ?_
      exact g_ireturn rfl (by decide) (by decide) dX11_ring_53 rfl rfl
    · refine g_iconst (v := 0) (by decide) dX11_ring_22 ?_
      refine g_istore_n (L' := [(3, .int 0), (0, .ref 0), (1, .int x1), (2, .int x2)]) (by decide) rfl rfl dX11_ring_23 ?_
      exact GO.pick [1, 2, 3, 0] rfl <| SX11_ring_b24  (fX11_ring_b17 n) hrec17 FU M x1 x2 0
def fX11_ring (M : Mem)  : RS := bV (fX11_findEnvy M) (fun M1 => fX11_ring_b17  FU M1 (gi M1 (isA (gb M1 0)) 9) 2)
theorem SX11_ring (M : Mem)  : CTO (7) miX11_ring 0 0 [.ref 0] M (fX11_ring  M ) := by
  refine CTO.of (by decide) (by simp [lg_sl, Value.category]) ?_
  show GO miX11_ring (7) 0 0 0 0 0 [(0, .ref 0)] [] M (bV (fX11_findEnvy M) (fun M1 => fX11_ring_b17  FU M1 (gi M1 (isA (gb M1 0)) 9) 2))
  refine g_aload_n 0 rfl rfl dX11_ring_0 ?_
  refine g_callVV (y := miX11_findEnvy) (As := []) (rest := []) clX11 kd_0 rfl moX11_findEnvy rfl mlX11_250 (by first | decide | omega) (by decide) (by simp [Value.category]) rfl dX11_ring_1 (SX11_findEnvy  M) (fun M1 => ?_)
  refine g_aload_n 0 rfl rfl dX11_ring_4 ?_
  refine g_getR (k := 2) (b := 22) clX11 kd_0 (by decide) rfl rfl flX11_35 dX11_ring_5 ?_
  refine g_getR (k := 1) (b := (isA (gb M1 0))) clX3 kd_22 (by decide) rfl rfl flX11_89 dX11_ring_8 ?_
  refine g_getI (k := 9) clX2 (kv_d3_24_0 _ (isA_dom _)) (by decide) rfl flX11_106 dX11_ring_11 ?_
  refine g_istore_n (L' := [(1, .int (gi M1 (isA (gb M1 0)) 9)), (0, .ref 0)]) (by decide) rfl rfl dX11_ring_14 ?_
  refine g_iconst (v := 2) (by decide) dX11_ring_15 ?_
  refine g_istore_n (L' := [(2, .int 2), (1, .int (gi M1 (isA (gb M1 0)) 9)), (0, .ref 0)]) (by decide) rfl rfl dX11_ring_16 ?_
  exact GO.pick [2, 1, 0] rfl <| SX11_ring_b17  FU M1 (gi M1 (isA (gb M1 0)) 9) 2
def fX11_howManyEnvy_b4 : Nat → Mem → Int32 → Int32 → Int32 → RS
  | 0 => fun _ _ _ _ => none
  | n + 1 => fun M x1 x2 x3 => if x3 < (gi M (isA (gb M 0)) 9) then chk (inb x3 8) ((fX11_howManyEnvy_b4 n) M x1 (x2 + (((gi M 86 (ix x3)) >>> (x1 &&& 31)) &&& 1)) (x3 + 1)) else some (M, .inr (some (.int x2)))
theorem SX11_howManyEnvy_b4 (n : Nat) : ∀ (M : Mem) (x1 : Int32) (x2 : Int32) (x3 : Int32), GO miX11_howManyEnvy (0) 0 0 0 0 4 [(0, .ref 0), (1, .int x1), (2, .int x2), (3, .int x3)] [] M (fX11_howManyEnvy_b4 n M x1 x2 x3) := by
  induction n with
  | zero => intro M x1 x2 x3 ; exact GO.none
  | succ n hrec4 =>
    intro M x1 x2 x3 
    show GO miX11_howManyEnvy (0) 0 0 0 0 4 [(0, .ref 0), (1, .int x1), (2, .int x2), (3, .int x3)] [] M (if x3 < (gi M (isA (gb M 0)) 9) then chk (inb x3 8) ((fX11_howManyEnvy_b4 n) M x1 (x2 + (((gi M 86 (ix x3)) >>> (x1 &&& 31)) &&& 1)) (x3 + 1)) else some (M, .inr (some (.int x2))))
    refine g_iload_n 3 rfl rfl dX11_howManyEnvy_4 ?_
    refine g_aload_n 0 rfl rfl dX11_howManyEnvy_5 ?_
    refine g_getR (k := 2) (b := 22) clX11 kd_0 (by decide) rfl rfl flX11_35 dX11_howManyEnvy_6 ?_
    refine g_getR (k := 1) (b := (isA (gb M 0))) clX3 kd_22 (by decide) rfl rfl flX11_89 dX11_howManyEnvy_9 ?_
    refine g_getI (k := 9) clX2 (kv_d3_24_0 _ (isA_dom _)) (by decide) rfl flX11_106 dX11_howManyEnvy_12 ?_
    refine g_icmp_ge (tgt := 37) rfl dX11_howManyEnvy_15 (fun c => ?_) (fun c => ?_)
    · refine g_iload_n 2 rfl rfl dX11_howManyEnvy_37 ?_
      exact g_ireturn rfl (by decide) (by decide) dX11_howManyEnvy_38 rfl rfl
    · refine g_iload_n 2 rfl rfl dX11_howManyEnvy_18 ?_
      refine g_aload_n 0 rfl rfl dX11_howManyEnvy_19 ?_
      refine g_getR (k := 7) (b := 86) clX11 kd_0 (by decide) rfl rfl flX11_63 dX11_howManyEnvy_20 ?_
      refine g_iload_n 3 rfl rfl dX11_howManyEnvy_23 ?_
      refine g_ald kd_86 dX11_howManyEnvy_24 (fun hi1 => ?_)
      refine g_iload_n 1 rfl rfl dX11_howManyEnvy_25 ?_
      refine g_ishr dX11_howManyEnvy_26 ?_
      refine g_iconst (v := 1) (by decide) dX11_howManyEnvy_27 ?_
      refine g_iand dX11_howManyEnvy_28 ?_
      refine g_iadd dX11_howManyEnvy_29 ?_
      refine g_istore_n (L' := [(2, .int (x2 + (((gi M 86 (ix x3)) >>> (x1 &&& 31)) &&& 1))), (0, .ref 0), (1, .int x1), (3, .int x3)]) (by decide) rfl rfl dX11_howManyEnvy_30 ?_
      refine g_iinc (v := x3 + 1) (L' := [(3, .int (x3 + 1)), (2, .int (x2 + (((gi M 86 (ix x3)) >>> (x1 &&& 31)) &&& 1))), (0, .ref 0), (1, .int x1)]) 3 rfl rfl (by decide) rfl dX11_howManyEnvy_31 ?_
      refine g_goto (tgt := 4) rfl dX11_howManyEnvy_34 ?_
      exact GO.pick [2, 3, 1, 0] rfl <| hrec4 M x1 (x2 + (((gi M 86 (ix x3)) >>> (x1 &&& 31)) &&& 1)) (x3 + 1)
def fX11_howManyEnvy (M : Mem) (x1 : Int32) : RS := fX11_howManyEnvy_b4  FU M x1 0 0
theorem SX11_howManyEnvy (M : Mem) (x1 : Int32) : CTO (0) miX11_howManyEnvy 0 0 [.ref 0, .int x1] M (fX11_howManyEnvy  M x1) := by
  refine CTO.of (by decide) (by simp [lg_sl, Value.category]) ?_
  show GO miX11_howManyEnvy (0) 0 0 0 0 0 [(0, .ref 0), (1, .int x1)] [] M (fX11_howManyEnvy_b4  FU M x1 0 0)
  refine g_iconst (v := 0) (by decide) dX11_howManyEnvy_0 ?_
  refine g_istore_n (L' := [(2, .int 0), (0, .ref 0), (1, .int x1)]) (by decide) rfl rfl dX11_howManyEnvy_1 ?_
  refine g_iconst (v := 0) (by decide) dX11_howManyEnvy_2 ?_
  refine g_istore_n (L' := [(3, .int 0), (2, .int 0), (0, .ref 0), (1, .int x1)]) (by decide) rfl rfl dX11_howManyEnvy_3 ?_
  exact GO.pick [2, 3, 1, 0] rfl <| SX11_howManyEnvy_b4  FU M x1 0 0

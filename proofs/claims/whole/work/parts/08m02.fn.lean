def fX12_fault (M : Mem)  : RS := wr (si M 87 3 0) (fun M1 => some (M1, .inr (some (.int (gi M1 87 25)))))
theorem SX12_fault (M : Mem)  : CTO (0) miX12_fault 0 0 [.ref 87] M (fX12_fault  M ) := by
  refine CTO.of (by decide) (by simp [lg_sl, Value.category]) ?_
  show GO miX12_fault (0) 0 0 0 0 0 [(0, .ref 87)] [] M (wr (si M 87 3 0) (fun M1 => some (M1, .inr (some (.int (gi M1 87 25))))))
  refine g_aload_n 0 rfl rfl dX12_fault_0 ?_
  refine g_iconst (v := 0) (by decide) dX12_fault_1 ?_
  refine g_putI (k := 3) clX12 kd_87 (by decide) rfl (by decide) rfl flX12_140 dX12_fault_2 ?_
  refine GO.wr (fun M1 => ?_)
  refine g_aload_n 0 rfl rfl dX12_fault_5 ?_
  refine g_getI (k := 25) clX12 kd_87 (by decide) rfl flX12_69 dX12_fault_6 ?_
  exact g_ireturn rfl (by decide) (by decide) dX12_fault_9 rfl rfl
def fX12_pack_b64 (a1 : Nat) : Nat → Mem → Int32 → Int32 → RS
  | 0 => fun _ _ _ => none
  | n + 1 => fun M x2 x3 => if x3 < 8 then chk (inb x3 8) (chk (inb ((x2 + 7) + x3) ((kd a1).2)) (wr (si M a1 (ix ((x2 + 7) + x3)) (gi M 102 (ix x3))) (fun M17 => chk (inb x3 8) (chk (inb (((x2 + 7) + 8) + x3) ((kd a1).2)) (wr (si M17 a1 (ix (((x2 + 7) + 8) + x3)) (gi M17 103 (ix x3))) (fun M20 => chk (inb x3 8) (chk (inb (((x2 + 7) + 16) + x3) ((kd a1).2)) (wr (si M20 a1 (ix (((x2 + 7) + 16) + x3)) (gi M20 104 (ix x3))) (fun M23 => (fX12_pack_b64 a1 n) M23 x2 (x3 + 1)))))))))) else some (M, .inr none)
theorem SX12_pack_b64 (a1 : Nat) (h1 : a1 ∈ [105, 111, 115]) (n : Nat) : ∀ (M : Mem) (x2 : Int32) (x3 : Int32), GO miX12_pack (0) 0 0 0 0 64 [(0, .ref 87), (1, .ref a1), (2, .int x2), (3, .int x3)] [] M (fX12_pack_b64 a1 n M x2 x3) := by
  induction n with
  | zero => intro M x2 x3 ; exact GO.none
  | succ n hrec64 =>
    intro M x2 x3 
    show GO miX12_pack (0) 0 0 0 0 64 [(0, .ref 87), (1, .ref a1), (2, .int x2), (3, .int x3)] [] M (if x3 < 8 then chk (inb x3 8) (chk (inb ((x2 + 7) + x3) ((kd a1).2)) (wr (si M a1 (ix ((x2 + 7) + x3)) (gi M 102 (ix x3))) (fun M17 => chk (inb x3 8) (chk (inb (((x2 + 7) + 8) + x3) ((kd a1).2)) (wr (si M17 a1 (ix (((x2 + 7) + 8) + x3)) (gi M17 103 (ix x3))) (fun M20 => chk (inb x3 8) (chk (inb (((x2 + 7) + 16) + x3) ((kd a1).2)) (wr (si M20 a1 (ix (((x2 + 7) + 16) + x3)) (gi M20 104 (ix x3))) (fun M23 => (fX12_pack_b64 a1 n) M23 x2 (x3 + 1)))))))))) else some (M, .inr none))
    refine g_iload_n 3 rfl rfl dX12_pack_64 ?_
    refine g_bipush (v := 8) (by decide) dX12_pack_65 ?_
    refine g_icmp_ge (tgt := 124) rfl dX12_pack_67 (fun c => ?_) (fun c => ?_)
    · exact g_vreturn rfl (by decide) (by decide) dX12_pack_124
    · refine g_aload_n 1 rfl rfl dX12_pack_70 ?_
      refine g_iload_n 2 rfl rfl dX12_pack_71 ?_
      refine g_bipush (v := 7) (by decide) dX12_pack_72 ?_
      refine g_iadd dX12_pack_74 ?_
      refine g_iload_n 3 rfl rfl dX12_pack_75 ?_
      refine g_iadd dX12_pack_76 ?_
      refine g_aload_n 0 rfl rfl dX12_pack_77 ?_
      refine g_getR (k := 27) (b := 102) clX12 kd_87 (by decide) rfl rfl flX12_73 dX12_pack_78 ?_
      refine g_iload_n 3 rfl rfl dX12_pack_81 ?_
      refine g_ald kd_102 dX12_pack_82 (fun hi15 => ?_)
      refine g_ast (kv_d105_111_115_0 _ h1) dX12_pack_83 (fun hi16 => ?_)
      refine GO.wr (fun M17 => ?_)
      refine g_aload_n 1 rfl rfl dX12_pack_84 ?_
      refine g_iload_n 2 rfl rfl dX12_pack_85 ?_
      refine g_bipush (v := 7) (by decide) dX12_pack_86 ?_
      refine g_iadd dX12_pack_88 ?_
      refine g_bipush (v := 8) (by decide) dX12_pack_89 ?_
      refine g_iadd dX12_pack_91 ?_
      refine g_iload_n 3 rfl rfl dX12_pack_92 ?_
      refine g_iadd dX12_pack_93 ?_
      refine g_aload_n 0 rfl rfl dX12_pack_94 ?_
      refine g_getR (k := 28) (b := 103) clX12 kd_87 (by decide) rfl rfl flX12_76 dX12_pack_95 ?_
      refine g_iload_n 3 rfl rfl dX12_pack_98 ?_
      refine g_ald kd_103 dX12_pack_99 (fun hi18 => ?_)
      refine g_ast (kv_d105_111_115_0 _ h1) dX12_pack_100 (fun hi19 => ?_)
      refine GO.wr (fun M20 => ?_)
      refine g_aload_n 1 rfl rfl dX12_pack_101 ?_
      refine g_iload_n 2 rfl rfl dX12_pack_102 ?_
      refine g_bipush (v := 7) (by decide) dX12_pack_103 ?_
      refine g_iadd dX12_pack_105 ?_
      refine g_bipush (v := 16) (by decide) dX12_pack_106 ?_
      refine g_iadd dX12_pack_108 ?_
      refine g_iload_n 3 rfl rfl dX12_pack_109 ?_
      refine g_iadd dX12_pack_110 ?_
      refine g_aload_n 0 rfl rfl dX12_pack_111 ?_
      refine g_getR (k := 29) (b := 104) clX12 kd_87 (by decide) rfl rfl flX12_79 dX12_pack_112 ?_
      refine g_iload_n 3 rfl rfl dX12_pack_115 ?_
      refine g_ald kd_104 dX12_pack_116 (fun hi21 => ?_)
      refine g_ast (kv_d105_111_115_0 _ h1) dX12_pack_117 (fun hi22 => ?_)
      refine GO.wr (fun M23 => ?_)
      refine g_iinc (v := x3 + 1) (L' := [(3, .int (x3 + 1)), (0, .ref 87), (1, .ref a1), (2, .int x2)]) 3 rfl rfl (by decide) rfl dX12_pack_118 ?_
      refine g_goto (tgt := 64) rfl dX12_pack_121 ?_
      exact GO.pick [1, 2, 3, 0] rfl <| hrec64 M23 x2 (x3 + 1)
def fX12_pack (a1 : Nat) (M : Mem) (x2 : Int32) : RS := chk (inb x2 ((kd a1).2)) (wr (si M a1 (ix x2) (gi M 87 31)) (fun M2 => chk (inb (x2 + 1) ((kd a1).2)) (wr (si M2 a1 (ix (x2 + 1)) (gi M2 87 32)) (fun M4 => chk (inb (x2 + 2) ((kd a1).2)) (wr (si M4 a1 (ix (x2 + 2)) (gi M4 87 33)) (fun M6 => chk (inb (x2 + 3) ((kd a1).2)) (wr (si M6 a1 (ix (x2 + 3)) (gi M6 87 34)) (fun M8 => chk (inb (x2 + 4) ((kd a1).2)) (wr (si M8 a1 (ix (x2 + 4)) (gi M8 87 35)) (fun M10 => chk (inb (x2 + 5) ((kd a1).2)) (wr (si M10 a1 (ix (x2 + 5)) (gi M10 87 36)) (fun M12 => chk (inb (x2 + 6) ((kd a1).2)) (wr (si M12 a1 (ix (x2 + 6)) (gi M12 87 37)) (fun M14 => fX12_pack_b64 a1 FU M14 x2 0))))))))))))))
theorem SX12_pack (a1 : Nat) (h1 : a1 ∈ [105, 111, 115]) (M : Mem) (x2 : Int32) : CTO (0) miX12_pack 0 0 [.ref 87, .ref a1, .int x2] M (fX12_pack a1 M x2) := by
  refine CTO.of (by decide) (by simp [lg_sl, Value.category]) ?_
  show GO miX12_pack (0) 0 0 0 0 0 [(0, .ref 87), (1, .ref a1), (2, .int x2)] [] M (chk (inb x2 ((kd a1).2)) (wr (si M a1 (ix x2) (gi M 87 31)) (fun M2 => chk (inb (x2 + 1) ((kd a1).2)) (wr (si M2 a1 (ix (x2 + 1)) (gi M2 87 32)) (fun M4 => chk (inb (x2 + 2) ((kd a1).2)) (wr (si M4 a1 (ix (x2 + 2)) (gi M4 87 33)) (fun M6 => chk (inb (x2 + 3) ((kd a1).2)) (wr (si M6 a1 (ix (x2 + 3)) (gi M6 87 34)) (fun M8 => chk (inb (x2 + 4) ((kd a1).2)) (wr (si M8 a1 (ix (x2 + 4)) (gi M8 87 35)) (fun M10 => chk (inb (x2 + 5) ((kd a1).2)) (wr (si M10 a1 (ix (x2 + 5)) (gi M10 87 36)) (fun M12 => chk (inb (x2 + 6) ((kd a1).2)) (wr (si M12 a1 (ix (x2 + 6)) (gi M12 87 37)) (fun M14 => fX12_pack_b64 a1 FU M14 x2 0)))))))))))))))
  refine g_aload_n 1 rfl rfl dX12_pack_0 ?_
  refine g_iload_n 2 rfl rfl dX12_pack_1 ?_
  refine g_aload_n 0 rfl rfl dX12_pack_2 ?_
  refine g_getI (k := 31) clX12 kd_87 (by decide) rfl flX12_303 dX12_pack_3 ?_
  refine g_ast (kv_d105_111_115_0 _ h1) dX12_pack_6 (fun hi1 => ?_)
  refine GO.wr (fun M2 => ?_)
  refine g_aload_n 1 rfl rfl dX12_pack_7 ?_
  refine g_iload_n 2 rfl rfl dX12_pack_8 ?_
  refine g_iconst (v := 1) (by decide) dX12_pack_9 ?_
  refine g_iadd dX12_pack_10 ?_
  refine g_aload_n 0 rfl rfl dX12_pack_11 ?_
  refine g_getI (k := 32) clX12 kd_87 (by decide) rfl flX12_305 dX12_pack_12 ?_
  refine g_ast (kv_d105_111_115_0 _ h1) dX12_pack_15 (fun hi3 => ?_)
  refine GO.wr (fun M4 => ?_)
  refine g_aload_n 1 rfl rfl dX12_pack_16 ?_
  refine g_iload_n 2 rfl rfl dX12_pack_17 ?_
  refine g_iconst (v := 2) (by decide) dX12_pack_18 ?_
  refine g_iadd dX12_pack_19 ?_
  refine g_aload_n 0 rfl rfl dX12_pack_20 ?_
  refine g_getI (k := 33) clX12 kd_87 (by decide) rfl flX12_308 dX12_pack_21 ?_
  refine g_ast (kv_d105_111_115_0 _ h1) dX12_pack_24 (fun hi5 => ?_)
  refine GO.wr (fun M6 => ?_)
  refine g_aload_n 1 rfl rfl dX12_pack_25 ?_
  refine g_iload_n 2 rfl rfl dX12_pack_26 ?_
  refine g_iconst (v := 3) (by decide) dX12_pack_27 ?_
  refine g_iadd dX12_pack_28 ?_
  refine g_aload_n 0 rfl rfl dX12_pack_29 ?_
  refine g_getI (k := 34) clX12 kd_87 (by decide) rfl flX12_311 dX12_pack_30 ?_
  refine g_ast (kv_d105_111_115_0 _ h1) dX12_pack_33 (fun hi7 => ?_)
  refine GO.wr (fun M8 => ?_)
  refine g_aload_n 1 rfl rfl dX12_pack_34 ?_
  refine g_iload_n 2 rfl rfl dX12_pack_35 ?_
  refine g_iconst (v := 4) (by decide) dX12_pack_36 ?_
  refine g_iadd dX12_pack_37 ?_
  refine g_aload_n 0 rfl rfl dX12_pack_38 ?_
  refine g_getI (k := 35) clX12 kd_87 (by decide) rfl flX12_314 dX12_pack_39 ?_
  refine g_ast (kv_d105_111_115_0 _ h1) dX12_pack_42 (fun hi9 => ?_)
  refine GO.wr (fun M10 => ?_)
  refine g_aload_n 1 rfl rfl dX12_pack_43 ?_
  refine g_iload_n 2 rfl rfl dX12_pack_44 ?_
  refine g_iconst (v := 5) (by decide) dX12_pack_45 ?_
  refine g_iadd dX12_pack_46 ?_
  refine g_aload_n 0 rfl rfl dX12_pack_47 ?_
  refine g_getI (k := 36) clX12 kd_87 (by decide) rfl flX12_134 dX12_pack_48 ?_
  refine g_ast (kv_d105_111_115_0 _ h1) dX12_pack_51 (fun hi11 => ?_)
  refine GO.wr (fun M12 => ?_)
  refine g_aload_n 1 rfl rfl dX12_pack_52 ?_
  refine g_iload_n 2 rfl rfl dX12_pack_53 ?_
  refine g_bipush (v := 6) (by decide) dX12_pack_54 ?_
  refine g_iadd dX12_pack_56 ?_
  refine g_aload_n 0 rfl rfl dX12_pack_57 ?_
  refine g_getI (k := 37) clX12 kd_87 (by decide) rfl flX12_137 dX12_pack_58 ?_
  refine g_ast (kv_d105_111_115_0 _ h1) dX12_pack_61 (fun hi13 => ?_)
  refine GO.wr (fun M14 => ?_)
  refine g_iconst (v := 0) (by decide) dX12_pack_62 ?_
  refine g_istore_n (L' := [(3, .int 0), (0, .ref 87), (1, .ref a1), (2, .int x2)]) (by decide) rfl rfl dX12_pack_63 ?_
  exact GO.pick [1, 2, 3, 0] rfl <| SX12_pack_b64 a1 h1 FU M14 x2 0
def fX12_unpack_b64 (a1 : Nat) : Nat → Mem → Int32 → Int32 → RS
  | 0 => fun _ _ _ => none
  | n + 1 => fun M x2 x3 => if x3 < 8 then chk (inb ((x2 + 7) + x3) ((kd a1).2)) (chk (inb x3 8) (wr (si M 102 (ix x3) (gi M a1 (ix ((x2 + 7) + x3)))) (fun M17 => chk (inb (((x2 + 7) + 8) + x3) ((kd a1).2)) (chk (inb x3 8) (wr (si M17 103 (ix x3) (gi M17 a1 (ix (((x2 + 7) + 8) + x3)))) (fun M20 => chk (inb (((x2 + 7) + 16) + x3) ((kd a1).2)) (chk (inb x3 8) (wr (si M20 104 (ix x3) (gi M20 a1 (ix (((x2 + 7) + 16) + x3)))) (fun M23 => (fX12_unpack_b64 a1 n) M23 x2 (x3 + 1)))))))))) else some (M, .inr none)
theorem SX12_unpack_b64 (a1 : Nat) (h1 : a1 ∈ [105, 111, 115]) (n : Nat) : ∀ (M : Mem) (x2 : Int32) (x3 : Int32), GO miX12_unpack (0) 0 0 0 0 64 [(0, .ref 87), (1, .ref a1), (2, .int x2), (3, .int x3)] [] M (fX12_unpack_b64 a1 n M x2 x3) := by
  induction n with
  | zero => intro M x2 x3 ; exact GO.none
  | succ n hrec64 =>
    intro M x2 x3 
    show GO miX12_unpack (0) 0 0 0 0 64 [(0, .ref 87), (1, .ref a1), (2, .int x2), (3, .int x3)] [] M (if x3 < 8 then chk (inb ((x2 + 7) + x3) ((kd a1).2)) (chk (inb x3 8) (wr (si M 102 (ix x3) (gi M a1 (ix ((x2 + 7) + x3)))) (fun M17 => chk (inb (((x2 + 7) + 8) + x3) ((kd a1).2)) (chk (inb x3 8) (wr (si M17 103 (ix x3) (gi M17 a1 (ix (((x2 + 7) + 8) + x3)))) (fun M20 => chk (inb (((x2 + 7) + 16) + x3) ((kd a1).2)) (chk (inb x3 8) (wr (si M20 104 (ix x3) (gi M20 a1 (ix (((x2 + 7) + 16) + x3)))) (fun M23 => (fX12_unpack_b64 a1 n) M23 x2 (x3 + 1)))))))))) else some (M, .inr none))
    refine g_iload_n 3 rfl rfl dX12_unpack_64 ?_
    refine g_bipush (v := 8) (by decide) dX12_unpack_65 ?_
    refine g_icmp_ge (tgt := 124) rfl dX12_unpack_67 (fun c => ?_) (fun c => ?_)
    · exact g_vreturn rfl (by decide) (by decide) dX12_unpack_124
    · refine g_aload_n 0 rfl rfl dX12_unpack_70 ?_
      refine g_getR (k := 27) (b := 102) clX12 kd_87 (by decide) rfl rfl flX12_73 dX12_unpack_71 ?_
      refine g_iload_n 3 rfl rfl dX12_unpack_74 ?_
      refine g_aload_n 1 rfl rfl dX12_unpack_75 ?_
      refine g_iload_n 2 rfl rfl dX12_unpack_76 ?_
      refine g_bipush (v := 7) (by decide) dX12_unpack_77 ?_
      refine g_iadd dX12_unpack_79 ?_
      refine g_iload_n 3 rfl rfl dX12_unpack_80 ?_
      refine g_iadd dX12_unpack_81 ?_
      refine g_ald (kv_d105_111_115_0 _ h1) dX12_unpack_82 (fun hi15 => ?_)
      refine g_ast kd_102 dX12_unpack_83 (fun hi16 => ?_)
      refine GO.wr (fun M17 => ?_)
      refine g_aload_n 0 rfl rfl dX12_unpack_84 ?_
      refine g_getR (k := 28) (b := 103) clX12 kd_87 (by decide) rfl rfl flX12_76 dX12_unpack_85 ?_
      refine g_iload_n 3 rfl rfl dX12_unpack_88 ?_
      refine g_aload_n 1 rfl rfl dX12_unpack_89 ?_
      refine g_iload_n 2 rfl rfl dX12_unpack_90 ?_
      refine g_bipush (v := 7) (by decide) dX12_unpack_91 ?_
      refine g_iadd dX12_unpack_93 ?_
      refine g_bipush (v := 8) (by decide) dX12_unpack_94 ?_
      refine g_iadd dX12_unpack_96 ?_
      refine g_iload_n 3 rfl rfl dX12_unpack_97 ?_
      refine g_iadd dX12_unpack_98 ?_
      refine g_ald (kv_d105_111_115_0 _ h1) dX12_unpack_99 (fun hi18 => ?_)
      refine g_ast kd_103 dX12_unpack_100 (fun hi19 => ?_)
      refine GO.wr (fun M20 => ?_)
      refine g_aload_n 0 rfl rfl dX12_unpack_101 ?_
      refine g_getR (k := 29) (b := 104) clX12 kd_87 (by decide) rfl rfl flX12_79 dX12_unpack_102 ?_
      refine g_iload_n 3 rfl rfl dX12_unpack_105 ?_
      refine g_aload_n 1 rfl rfl dX12_unpack_106 ?_
      refine g_iload_n 2 rfl rfl dX12_unpack_107 ?_
      refine g_bipush (v := 7) (by decide) dX12_unpack_108 ?_
      refine g_iadd dX12_unpack_110 ?_
      refine g_bipush (v := 16) (by decide) dX12_unpack_111 ?_
      refine g_iadd dX12_unpack_113 ?_
      refine g_iload_n 3 rfl rfl dX12_unpack_114 ?_
      refine g_iadd dX12_unpack_115 ?_
      refine g_ald (kv_d105_111_115_0 _ h1) dX12_unpack_116 (fun hi21 => ?_)
      refine g_ast kd_104 dX12_unpack_117 (fun hi22 => ?_)
      refine GO.wr (fun M23 => ?_)
      refine g_iinc (v := x3 + 1) (L' := [(3, .int (x3 + 1)), (0, .ref 87), (1, .ref a1), (2, .int x2)]) 3 rfl rfl (by decide) rfl dX12_unpack_118 ?_
      refine g_goto (tgt := 64) rfl dX12_unpack_121 ?_
      exact GO.pick [1, 2, 3, 0] rfl <| hrec64 M23 x2 (x3 + 1)
def fX12_unpack (a1 : Nat) (M : Mem) (x2 : Int32) : RS := chk (inb x2 ((kd a1).2)) (wr (si M 87 31 (gi M a1 (ix x2))) (fun M2 => chk (inb (x2 + 1) ((kd a1).2)) (wr (si M2 87 32 (gi M2 a1 (ix (x2 + 1)))) (fun M4 => chk (inb (x2 + 2) ((kd a1).2)) (wr (si M4 87 33 (gi M4 a1 (ix (x2 + 2)))) (fun M6 => chk (inb (x2 + 3) ((kd a1).2)) (wr (si M6 87 34 (gi M6 a1 (ix (x2 + 3)))) (fun M8 => chk (inb (x2 + 4) ((kd a1).2)) (wr (si M8 87 35 (gi M8 a1 (ix (x2 + 4)))) (fun M10 => chk (inb (x2 + 5) ((kd a1).2)) (wr (si M10 87 36 (gi M10 a1 (ix (x2 + 5)))) (fun M12 => chk (inb (x2 + 6) ((kd a1).2)) (wr (si M12 87 37 (gi M12 a1 (ix (x2 + 6)))) (fun M14 => fX12_unpack_b64 a1 FU M14 x2 0))))))))))))))
theorem SX12_unpack (a1 : Nat) (h1 : a1 ∈ [105, 111, 115]) (M : Mem) (x2 : Int32) : CTO (0) miX12_unpack 0 0 [.ref 87, .ref a1, .int x2] M (fX12_unpack a1 M x2) := by
  refine CTO.of (by decide) (by simp [lg_sl, Value.category]) ?_
  show GO miX12_unpack (0) 0 0 0 0 0 [(0, .ref 87), (1, .ref a1), (2, .int x2)] [] M (chk (inb x2 ((kd a1).2)) (wr (si M 87 31 (gi M a1 (ix x2))) (fun M2 => chk (inb (x2 + 1) ((kd a1).2)) (wr (si M2 87 32 (gi M2 a1 (ix (x2 + 1)))) (fun M4 => chk (inb (x2 + 2) ((kd a1).2)) (wr (si M4 87 33 (gi M4 a1 (ix (x2 + 2)))) (fun M6 => chk (inb (x2 + 3) ((kd a1).2)) (wr (si M6 87 34 (gi M6 a1 (ix (x2 + 3)))) (fun M8 => chk (inb (x2 + 4) ((kd a1).2)) (wr (si M8 87 35 (gi M8 a1 (ix (x2 + 4)))) (fun M10 => chk (inb (x2 + 5) ((kd a1).2)) (wr (si M10 87 36 (gi M10 a1 (ix (x2 + 5)))) (fun M12 => chk (inb (x2 + 6) ((kd a1).2)) (wr (si M12 87 37 (gi M12 a1 (ix (x2 + 6)))) (fun M14 => fX12_unpack_b64 a1 FU M14 x2 0)))))))))))))))
  refine g_aload_n 0 rfl rfl dX12_unpack_0 ?_
  refine g_aload_n 1 rfl rfl dX12_unpack_1 ?_
  refine g_iload_n 2 rfl rfl dX12_unpack_2 ?_
  refine g_ald (kv_d105_111_115_0 _ h1) dX12_unpack_3 (fun hi1 => ?_)
  refine g_putI (k := 31) clX12 kd_87 (by decide) rfl (by decide) rfl flX12_303 dX12_unpack_4 ?_
  refine GO.wr (fun M2 => ?_)
  refine g_aload_n 0 rfl rfl dX12_unpack_7 ?_
  refine g_aload_n 1 rfl rfl dX12_unpack_8 ?_
  refine g_iload_n 2 rfl rfl dX12_unpack_9 ?_
  refine g_iconst (v := 1) (by decide) dX12_unpack_10 ?_
  refine g_iadd dX12_unpack_11 ?_
  refine g_ald (kv_d105_111_115_0 _ h1) dX12_unpack_12 (fun hi3 => ?_)
  refine g_putI (k := 32) clX12 kd_87 (by decide) rfl (by decide) rfl flX12_305 dX12_unpack_13 ?_
  refine GO.wr (fun M4 => ?_)
  refine g_aload_n 0 rfl rfl dX12_unpack_16 ?_
  refine g_aload_n 1 rfl rfl dX12_unpack_17 ?_
  refine g_iload_n 2 rfl rfl dX12_unpack_18 ?_
  refine g_iconst (v := 2) (by decide) dX12_unpack_19 ?_
  refine g_iadd dX12_unpack_20 ?_
  refine g_ald (kv_d105_111_115_0 _ h1) dX12_unpack_21 (fun hi5 => ?_)
  refine g_putI (k := 33) clX12 kd_87 (by decide) rfl (by decide) rfl flX12_308 dX12_unpack_22 ?_
  refine GO.wr (fun M6 => ?_)
  refine g_aload_n 0 rfl rfl dX12_unpack_25 ?_
  refine g_aload_n 1 rfl rfl dX12_unpack_26 ?_
  refine g_iload_n 2 rfl rfl dX12_unpack_27 ?_
  refine g_iconst (v := 3) (by decide) dX12_unpack_28 ?_
  refine g_iadd dX12_unpack_29 ?_
  refine g_ald (kv_d105_111_115_0 _ h1) dX12_unpack_30 (fun hi7 => ?_)
  refine g_putI (k := 34) clX12 kd_87 (by decide) rfl (by decide) rfl flX12_311 dX12_unpack_31 ?_
  refine GO.wr (fun M8 => ?_)
  refine g_aload_n 0 rfl rfl dX12_unpack_34 ?_
  refine g_aload_n 1 rfl rfl dX12_unpack_35 ?_
  refine g_iload_n 2 rfl rfl dX12_unpack_36 ?_
  refine g_iconst (v := 4) (by decide) dX12_unpack_37 ?_
  refine g_iadd dX12_unpack_38 ?_
  refine g_ald (kv_d105_111_115_0 _ h1) dX12_unpack_39 (fun hi9 => ?_)
  refine g_putI (k := 35) clX12 kd_87 (by decide) rfl (by decide) rfl flX12_314 dX12_unpack_40 ?_
  refine GO.wr (fun M10 => ?_)
  refine g_aload_n 0 rfl rfl dX12_unpack_43 ?_
  refine g_aload_n 1 rfl rfl dX12_unpack_44 ?_
  refine g_iload_n 2 rfl rfl dX12_unpack_45 ?_
  refine g_iconst (v := 5) (by decide) dX12_unpack_46 ?_
  refine g_iadd dX12_unpack_47 ?_
  refine g_ald (kv_d105_111_115_0 _ h1) dX12_unpack_48 (fun hi11 => ?_)
  refine g_putI (k := 36) clX12 kd_87 (by decide) rfl (by decide) rfl flX12_134 dX12_unpack_49 ?_
  refine GO.wr (fun M12 => ?_)
  refine g_aload_n 0 rfl rfl dX12_unpack_52 ?_
  refine g_aload_n 1 rfl rfl dX12_unpack_53 ?_
  refine g_iload_n 2 rfl rfl dX12_unpack_54 ?_
  refine g_bipush (v := 6) (by decide) dX12_unpack_55 ?_
  refine g_iadd dX12_unpack_57 ?_
  refine g_ald (kv_d105_111_115_0 _ h1) dX12_unpack_58 (fun hi13 => ?_)
  refine g_putI (k := 37) clX12 kd_87 (by decide) rfl (by decide) rfl flX12_137 dX12_unpack_59 ?_
  refine GO.wr (fun M14 => ?_)
  refine g_iconst (v := 0) (by decide) dX12_unpack_62 ?_
  refine g_istore_n (L' := [(3, .int 0), (0, .ref 87), (1, .ref a1), (2, .int x2)]) (by decide) rfl rfl dX12_unpack_63 ?_
  exact GO.pick [1, 2, 3, 0] rfl <| SX12_unpack_b64 a1 h1 FU M14 x2 0
def fX12_rainOf (M : Mem) (x1 : Int32) : RS := if (gi M 90 2) = 0 then some (M, .inr (some (.int 3))) else chk (!decide ((gi M 90 2) = 0)) (chk (inb (x1 - x1 / (gi M 90 2) * (gi M 90 2)) 20) (some (M, .inr (some (.int (gi M 97 (ix (x1 - x1 / (gi M 90 2) * (gi M 90 2)))))))))
theorem SX12_rainOf (M : Mem) (x1 : Int32) : CTO (0) miX12_rainOf 0 0 [.ref 87, .int x1] M (fX12_rainOf  M x1) := by
  refine CTO.of (by decide) (by simp [lg_sl, Value.category]) ?_
  show GO miX12_rainOf (0) 0 0 0 0 0 [(0, .ref 87), (1, .int x1)] [] M (if (gi M 90 2) = 0 then some (M, .inr (some (.int 3))) else chk (!decide ((gi M 90 2) = 0)) (chk (inb (x1 - x1 / (gi M 90 2) * (gi M 90 2)) 20) (some (M, .inr (some (.int (gi M 97 (ix (x1 - x1 / (gi M 90 2) * (gi M 90 2))))))))))
  refine g_aload_n 0 rfl rfl dX12_rainOf_0 ?_
  refine g_getR (k := 4) (b := 90) clX12 kd_87 (by decide) rfl rfl flX12_35 dX12_rainOf_1 ?_
  refine g_iconst (v := 2) (by decide) dX12_rainOf_4 ?_
  refine g_aldL (j := 2) kd_90 (by decide) (by decide) dX12_rainOf_5 ?_
  refine g_if_ne (tgt := 13) rfl dX12_rainOf_6 (fun c => ?_) (fun c => ?_)
  · refine g_aload_n 0 rfl rfl dX12_rainOf_13 ?_
    refine g_getR (k := 11) (b := 97) clX12 kd_87 (by decide) rfl rfl flX12_55 dX12_rainOf_14 ?_
    refine g_iload_n 1 rfl rfl dX12_rainOf_17 ?_
    refine g_aload_n 0 rfl rfl dX12_rainOf_18 ?_
    refine g_getR (k := 4) (b := 90) clX12 kd_87 (by decide) rfl rfl flX12_35 dX12_rainOf_19 ?_
    refine g_iconst (v := 2) (by decide) dX12_rainOf_22 ?_
    refine g_aldL (j := 2) kd_90 (by decide) (by decide) dX12_rainOf_23 ?_
    refine GO.chk fun hy => ?_
    refine g_irem (by simpa using hy) dX12_rainOf_24 ?_
    refine g_ald kd_97 dX12_rainOf_25 (fun hi1 => ?_)
    exact g_ireturn rfl (by decide) (by decide) dX12_rainOf_26 rfl rfl
  · refine g_iconst (v := 3) (by decide) dX12_rainOf_9 ?_
    refine g_goto (tgt := 26) rfl dX12_rainOf_10 ?_
    exact g_ireturn rfl (by decide) (by decide) dX12_rainOf_26 rfl rfl
def fX12_harvestOf_b66 (M : Mem) (x4 : Int32) : RS := some (M, .inr (some (.int (if 0 < (if x4 < 99 then x4 else 99) then (if x4 < 99 then x4 else 99) else 0))))
theorem SX12_harvestOf_b66 (M : Mem) (x4 : Int32) : GO miX12_harvestOf (3) 0 0 0 0 66 [(4, .int x4)] [] M (fX12_harvestOf_b66 M x4) := by
  show GO miX12_harvestOf (3) 0 0 0 0 66 [(4, .int x4)] [] M (some (M, .inr (some (.int (if 0 < (if x4 < 99 then x4 else 99) then (if x4 < 99 then x4 else 99) else 0)))))
  refine g_iconst (v := 0) (by decide) dX12_harvestOf_66 ?_
  refine g_bipush (v := 99) (by decide) dX12_harvestOf_67 ?_
  refine g_iload 0 rfl dX12_harvestOf_69 ?_
  refine g_mmin mlX12_177 ms_min mt_Math mc_min (by first | decide | omega) (by decide) (by simp [Value.category]) dX12_harvestOf_71 ?_
  refine g_mmax mlX12_356 ms_max mt_Math mc_max (by first | decide | omega) (by decide) (by simp [Value.category]) dX12_harvestOf_74 ?_
  exact g_ireturn rfl (by decide) (by decide) dX12_harvestOf_77 rfl rfl
def fX12_harvestOf (M : Mem) (x1 : Int32) (x2 : Int32) (x3 : Int32) : RS := chk (inb x2 18) (bI (fX12_rainOf M x3) (fun M2 v3 => if 0 < (gi M2 90 7) then bV (fX12_askOf M2 x1 x2) (fun M4 => bI (fX12_rainOf M4 x3) (fun M6 v7 => wr (si M6 106 5 v7) (fun M8 => wr (si M8 106 6 x3) (fun M9 => bI (fX12_valueNow 99 M9 (gi M9 90 7)) (fun M10 v11 => fX12_harvestOf_b66  M10 v11))))) else fX12_harvestOf_b66  M2 ((gi M 96 (ix x2)) + v3)))
theorem SX12_harvestOf (M : Mem) (x1 : Int32) (x2 : Int32) (x3 : Int32) : CTO (3) miX12_harvestOf 0 0 [.ref 87, .int x1, .int x2, .int x3] M (fX12_harvestOf  M x1 x2 x3) := by
  refine CTO.of (by decide) (by simp [lg_sl, Value.category]) ?_
  show GO miX12_harvestOf (3) 0 0 0 0 0 [(0, .ref 87), (1, .int x1), (2, .int x2), (3, .int x3)] [] M (chk (inb x2 18) (bI (fX12_rainOf M x3) (fun M2 v3 => if 0 < (gi M2 90 7) then bV (fX12_askOf M2 x1 x2) (fun M4 => bI (fX12_rainOf M4 x3) (fun M6 v7 => wr (si M6 106 5 v7) (fun M8 => wr (si M8 106 6 x3) (fun M9 => bI (fX12_valueNow 99 M9 (gi M9 90 7)) (fun M10 v11 => fX12_harvestOf_b66  M10 v11))))) else fX12_harvestOf_b66  M2 ((gi M 96 (ix x2)) + v3))))
  refine g_aload_n 0 rfl rfl dX12_harvestOf_0 ?_
  refine g_getR (k := 10) (b := 96) clX12 kd_87 (by decide) rfl rfl flX12_52 dX12_harvestOf_1 ?_
  refine g_iload_n 2 rfl rfl dX12_harvestOf_4 ?_
  refine g_ald kd_96 dX12_harvestOf_5 (fun hi1 => ?_)
  refine g_aload_n 0 rfl rfl dX12_harvestOf_6 ?_
  refine g_iload_n 3 rfl rfl dX12_harvestOf_7 ?_
  refine g_callVI (y := miX12_rainOf) (As := [.int x3]) (rest := [.int (gi M 96 (ix x2))]) clX12 kd_87 rfl moX12_rainOf rfl mlX12_353 (by first | decide | omega) (by decide) (by simp [Value.category]) rfl dX12_harvestOf_8 (SX12_rainOf  M x3) (fun M2 v3 => ?_)
  refine g_iadd dX12_harvestOf_11 ?_
  refine g_istore (L' := [(4, .int ((gi M 96 (ix x2)) + v3)), (0, .ref 87), (1, .int x1), (2, .int x2), (3, .int x3)]) (by decide) rfl dX12_harvestOf_12 ?_
  refine g_aload_n 1 rfl rfl dX12_harvestOf_14 ?_
  refine g_getR (k := 4) (b := 90) clX12 kd_87 (by decide) rfl rfl flX12_35 dX12_harvestOf_15 ?_
  refine g_bipush (v := 7) (by decide) dX12_harvestOf_18 ?_
  refine g_aldL (j := 7) kd_90 (by decide) (by decide) dX12_harvestOf_20 ?_
  refine g_if_le (tgt := 66) rfl dX12_harvestOf_21 (fun c => ?_) (fun c => ?_)
  · exact GO.pick [0] rfl <| SX12_harvestOf_b66  M2 ((gi M 96 (ix x2)) + v3)
  · refine g_aload_n 1 rfl rfl dX12_harvestOf_24 ?_
    refine g_iload_n 2 rfl rfl dX12_harvestOf_25 ?_
    refine g_iload_n 3 rfl rfl dX12_harvestOf_26 ?_
    refine g_callVV (y := miX12_askOf) (As := [.int x1, .int x2]) (rest := []) clX12 kd_87 rfl moX12_askOf rfl mlX12_345 (by first | decide | omega) (by decide) (by simp [Value.category]) rfl dX12_harvestOf_27 (SX12_askOf  M2 x1 x2) (fun M4 => ?_)
    refine g_aload_n 1 rfl rfl dX12_harvestOf_30 ?_
    refine g_getR (k := 40) (b := 106) clX12 kd_87 (by decide) rfl rfl flX12_85 dX12_harvestOf_31 ?_
    refine g_iconst (v := 5) (by decide) dX12_harvestOf_34 ?_
    refine g_aload_n 1 rfl rfl dX12_harvestOf_35 ?_
    refine g_iload_n 4 rfl rfl dX12_harvestOf_36 ?_
    refine g_callVI (y := miX12_rainOf) (As := [.int x3]) (rest := [.int 5, .ref 106]) clX12 kd_87 rfl moX12_rainOf rfl mlX12_353 (by first | decide | omega) (by decide) (by simp [Value.category]) rfl dX12_harvestOf_37 (SX12_rainOf  M4 x3) (fun M6 v7 => ?_)
    refine g_astL (j := 5) kd_106 (by decide) (by decide) dX12_harvestOf_40 ?_
    refine GO.wr (fun M8 => ?_)
    refine g_aload_n 1 rfl rfl dX12_harvestOf_41 ?_
    refine g_getR (k := 40) (b := 106) clX12 kd_87 (by decide) rfl rfl flX12_85 dX12_harvestOf_42 ?_
    refine g_bipush (v := 6) (by decide) dX12_harvestOf_45 ?_
    refine g_iload_n 4 rfl rfl dX12_harvestOf_47 ?_
    refine g_astL (j := 6) kd_106 (by decide) (by decide) dX12_harvestOf_48 ?_
    refine GO.wr (fun M9 => ?_)
    refine g_aload_n 1 rfl rfl dX12_harvestOf_49 ?_
    refine g_aload_n 1 rfl rfl dX12_harvestOf_50 ?_
    refine g_getR (k := 13) (b := 99) clX12 kd_87 (by decide) rfl rfl flX12_60 dX12_harvestOf_51 ?_
    refine g_aload_n 1 rfl rfl dX12_harvestOf_54 ?_
    refine g_getR (k := 4) (b := 90) clX12 kd_87 (by decide) rfl rfl flX12_35 dX12_harvestOf_55 ?_
    refine g_bipush (v := 7) (by decide) dX12_harvestOf_58 ?_
    refine g_aldL (j := 7) kd_90 (by decide) (by decide) dX12_harvestOf_60 ?_
    refine g_callVI (y := miX12_valueNow) (As := [.ref 99, .int (gi M9 90 7)]) (rest := []) clX12 kd_87 rfl moX12_valueNow rfl mlX12_349 (by first | decide | omega) (by decide) (by simp [Value.category]) rfl dX12_harvestOf_61 (SX12_valueNow 99 (by decide) M9 (gi M9 90 7)) (fun M10 v11 => ?_)
    refine g_istore (L' := [(4, .int v11), (0, .ref 87), (1, .int x1), (2, .int x2), (3, .int x3)]) (by decide) rfl dX12_harvestOf_64 ?_
    exact GO.pick [0] rfl <| SX12_harvestOf_b66  M10 v11
def fX12_aYear_b144 (rec2 : Mem → Int32 → RS) (M : Mem) (x1 : Int32) : RS := rec2 M (x1 + 1)
theorem SX12_aYear_b144 (rec2 : Mem → Int32 → RS) (hrec2 : ∀ (M : Mem) (x1 : Int32), GO miX12_aYear (4) 0 0 0 0 2 [(0, .ref 87), (1, .int x1)] [] M (rec2 M x1)) (M : Mem) (x1 : Int32) : GO miX12_aYear (4) 0 0 0 0 144 [(0, .ref 87), (1, .int x1)] [] M (fX12_aYear_b144 rec2 M x1) := by
  show GO miX12_aYear (4) 0 0 0 0 144 [(0, .ref 87), (1, .int x1)] [] M (rec2 M (x1 + 1))
  refine g_iinc (v := x1 + 1) (L' := [(1, .int (x1 + 1)), (0, .ref 87)]) 1 rfl rfl (by decide) rfl dX12_aYear_144 ?_
  refine g_goto (tgt := 2) rfl dX12_aYear_147 ?_
  exact GO.pick [1, 0] rfl <| hrec2 M (x1 + 1)
def fX12_aYear_b121 (rec2 : Mem → Int32 → RS) (M : Mem) (x1 : Int32) : RS := chk (inb x1 8) (chk (inb x1 8) (wr (si M 102 (ix x1) (if 0 < ((gi M 102 (ix x1)) - (gi M 90 3)) then ((gi M 102 (ix x1)) - (gi M 90 3)) else 0)) (fun M16 => fX12_aYear_b144 rec2 M16 x1)))
theorem SX12_aYear_b121 (rec2 : Mem → Int32 → RS) (hrec2 : ∀ (M : Mem) (x1 : Int32), GO miX12_aYear (4) 0 0 0 0 2 [(0, .ref 87), (1, .int x1)] [] M (rec2 M x1)) (M : Mem) (x1 : Int32) : GO miX12_aYear (4) 0 0 0 0 121 [(0, .ref 87), (1, .int x1)] [] M (fX12_aYear_b121 rec2 M x1) := by
  show GO miX12_aYear (4) 0 0 0 0 121 [(0, .ref 87), (1, .int x1)] [] M (chk (inb x1 8) (chk (inb x1 8) (wr (si M 102 (ix x1) (if 0 < ((gi M 102 (ix x1)) - (gi M 90 3)) then ((gi M 102 (ix x1)) - (gi M 90 3)) else 0)) (fun M16 => fX12_aYear_b144 rec2 M16 x1))))
  refine g_aload_n 0 rfl rfl dX12_aYear_121 ?_
  refine g_getR (k := 27) (b := 102) clX12 kd_87 (by decide) rfl rfl flX12_73 dX12_aYear_122 ?_
  refine g_iload_n 1 rfl rfl dX12_aYear_125 ?_
  refine g_iconst (v := 0) (by decide) dX12_aYear_126 ?_
  refine g_aload_n 0 rfl rfl dX12_aYear_127 ?_
  refine g_getR (k := 27) (b := 102) clX12 kd_87 (by decide) rfl rfl flX12_73 dX12_aYear_128 ?_
  refine g_iload_n 1 rfl rfl dX12_aYear_131 ?_
  refine g_ald kd_102 dX12_aYear_132 (fun hi14 => ?_)
  refine g_aload_n 0 rfl rfl dX12_aYear_133 ?_
  refine g_getR (k := 4) (b := 90) clX12 kd_87 (by decide) rfl rfl flX12_35 dX12_aYear_134 ?_
  refine g_iconst (v := 3) (by decide) dX12_aYear_137 ?_
  refine g_aldL (j := 3) kd_90 (by decide) (by decide) dX12_aYear_138 ?_
  refine g_isub dX12_aYear_139 ?_
  refine g_mmax mlX12_356 ms_max mt_Math mc_max (by first | decide | omega) (by decide) (by simp [Value.category]) dX12_aYear_140 ?_
  refine g_ast kd_102 dX12_aYear_143 (fun hi15 => ?_)
  refine GO.wr (fun M16 => ?_)
  exact GO.pick [0, 1] rfl <| SX12_aYear_b144  rec2 hrec2 M16 x1
def fX12_aYear_b55 (rec2 : Mem → Int32 → RS) (M : Mem) (x1 : Int32) (s0 : Int32) : RS := wr (si M 87 33 ((gi M 87 33) + (s0 / 10))) (fun M8 => chk (inb x1 8) (chk (inb x1 8) (wr (si M8 102 (ix x1) (if (((gi M8 102 (ix x1)) + s0) - (s0 / 10)) < 999 then (((gi M8 102 (ix x1)) + s0) - (s0 / 10)) else 999)) (fun M11 => chk (inb x1 8) (if (gi M11 102 (ix x1)) < (gi M11 90 3) then wr (si M11 87 32 ((gi M11 87 32) ||| ((1 : Int32) <<< (x1 &&& 31)))) (fun M13 => fX12_aYear_b121 rec2 M13 x1) else fX12_aYear_b121 rec2 M11 x1)))))
theorem SX12_aYear_b55 (rec2 : Mem → Int32 → RS) (hrec2 : ∀ (M : Mem) (x1 : Int32), GO miX12_aYear (4) 0 0 0 0 2 [(0, .ref 87), (1, .int x1)] [] M (rec2 M x1)) (M : Mem) (x1 : Int32) (s0 : Int32) : GO miX12_aYear (4) 0 0 0 0 55 [(0, .ref 87), (1, .int x1)] [.int s0] M (fX12_aYear_b55 rec2 M x1 s0) := by
  show GO miX12_aYear (4) 0 0 0 0 55 [(0, .ref 87), (1, .int x1)] [.int s0] M (wr (si M 87 33 ((gi M 87 33) + (s0 / 10))) (fun M8 => chk (inb x1 8) (chk (inb x1 8) (wr (si M8 102 (ix x1) (if (((gi M8 102 (ix x1)) + s0) - (s0 / 10)) < 999 then (((gi M8 102 (ix x1)) + s0) - (s0 / 10)) else 999)) (fun M11 => chk (inb x1 8) (if (gi M11 102 (ix x1)) < (gi M11 90 3) then wr (si M11 87 32 ((gi M11 87 32) ||| ((1 : Int32) <<< (x1 &&& 31)))) (fun M13 => fX12_aYear_b121 rec2 M13 x1) else fX12_aYear_b121 rec2 M11 x1))))))
  refine g_istore_n (L' := [(2, .int s0), (0, .ref 87), (1, .int x1)]) (by decide) rfl rfl dX12_aYear_55 ?_
  refine g_aload_n 1 rfl rfl dX12_aYear_56 ?_
  refine g_dup_ref dX12_aYear_57 ?_
  refine g_getI (k := 33) clX12 kd_87 (by decide) rfl flX12_308 dX12_aYear_58 ?_
  refine g_iload_n 0 rfl rfl dX12_aYear_61 ?_
  refine g_bipush (v := 10) (by decide) dX12_aYear_62 ?_
  refine g_idiv (by decide) dX12_aYear_64 ?_
  refine g_iadd dX12_aYear_65 ?_
  refine g_putI (k := 33) clX12 kd_87 (by decide) rfl (by decide) rfl flX12_308 dX12_aYear_66 ?_
  refine GO.wr (fun M8 => ?_)
  refine g_aload_n 1 rfl rfl dX12_aYear_69 ?_
  refine g_getR (k := 27) (b := 102) clX12 kd_87 (by decide) rfl rfl flX12_73 dX12_aYear_70 ?_
  refine g_iload_n 2 rfl rfl dX12_aYear_73 ?_
  refine g_sipush (v := 999) (by decide) dX12_aYear_74 ?_
  refine g_aload_n 1 rfl rfl dX12_aYear_77 ?_
  refine g_getR (k := 27) (b := 102) clX12 kd_87 (by decide) rfl rfl flX12_73 dX12_aYear_78 ?_
  refine g_iload_n 2 rfl rfl dX12_aYear_81 ?_
  refine g_ald kd_102 dX12_aYear_82 (fun hi9 => ?_)
  refine g_iload_n 0 rfl rfl dX12_aYear_83 ?_
  refine g_iadd dX12_aYear_84 ?_
  refine g_iload_n 0 rfl rfl dX12_aYear_85 ?_
  refine g_bipush (v := 10) (by decide) dX12_aYear_86 ?_
  refine g_idiv (by decide) dX12_aYear_88 ?_
  refine g_isub dX12_aYear_89 ?_
  refine g_mmin mlX12_177 ms_min mt_Math mc_min (by first | decide | omega) (by decide) (by simp [Value.category]) dX12_aYear_90 ?_
  refine g_ast kd_102 dX12_aYear_93 (fun hi10 => ?_)
  refine GO.wr (fun M11 => ?_)
  refine g_aload_n 1 rfl rfl dX12_aYear_94 ?_
  refine g_getR (k := 27) (b := 102) clX12 kd_87 (by decide) rfl rfl flX12_73 dX12_aYear_95 ?_
  refine g_iload_n 2 rfl rfl dX12_aYear_98 ?_
  refine g_ald kd_102 dX12_aYear_99 (fun hi12 => ?_)
  refine g_aload_n 1 rfl rfl dX12_aYear_100 ?_
  refine g_getR (k := 4) (b := 90) clX12 kd_87 (by decide) rfl rfl flX12_35 dX12_aYear_101 ?_
  refine g_iconst (v := 3) (by decide) dX12_aYear_104 ?_
  refine g_aldL (j := 3) kd_90 (by decide) (by decide) dX12_aYear_105 ?_
  refine g_icmp_ge (tgt := 121) rfl dX12_aYear_106 (fun c => ?_) (fun c => ?_)
  · exact GO.pick [1, 2] rfl <| SX12_aYear_b121  rec2 hrec2 M11 x1
  · refine g_aload_n 1 rfl rfl dX12_aYear_109 ?_
    refine g_dup_ref dX12_aYear_110 ?_
    refine g_getI (k := 32) clX12 kd_87 (by decide) rfl flX12_305 dX12_aYear_111 ?_
    refine g_iconst (v := 1) (by decide) dX12_aYear_114 ?_
    refine g_iload_n 2 rfl rfl dX12_aYear_115 ?_
    refine g_ishl dX12_aYear_116 ?_
    refine g_ior dX12_aYear_117 ?_
    refine g_putI (k := 32) clX12 kd_87 (by decide) rfl (by decide) rfl flX12_305 dX12_aYear_118 ?_
    refine GO.wr (fun M13 => ?_)
    exact GO.pick [1, 2] rfl <| SX12_aYear_b121  rec2 hrec2 M13 x1
def fX12_aYear_b2 : Nat → Mem → Int32 → RS
  | 0 => fun _ _ => none
  | n + 1 => fun M x1 => if x1 < (gi M 90 0) then bI (fX12_isOf M (gi M 87 32) x1) (fun M2 v3 => if v3 = 0 then chk (inb x1 8) (if (gi M2 103 (ix x1)) = (-1) then fX12_aYear_b55 (fX12_aYear_b2 n) M2 x1 0 else chk (inb x1 8) (bI (fX12_harvestOf M2 x1 (gi M2 103 (ix x1)) (gi M2 87 31)) (fun M6 v7 => fX12_aYear_b55 (fX12_aYear_b2 n) M6 x1 v7))) else fX12_aYear_b144 (fX12_aYear_b2 n) M2 x1) else wr (si M 87 31 ((gi M 87 31) + 1)) (fun M1 => some (M1, .inr none))
theorem SX12_aYear_b2 (n : Nat) : ∀ (M : Mem) (x1 : Int32), GO miX12_aYear (4) 0 0 0 0 2 [(0, .ref 87), (1, .int x1)] [] M (fX12_aYear_b2 n M x1) := by
  induction n with
  | zero => intro M x1 ; exact GO.none
  | succ n hrec2 =>
    intro M x1 
    show GO miX12_aYear (4) 0 0 0 0 2 [(0, .ref 87), (1, .int x1)] [] M (if x1 < (gi M 90 0) then bI (fX12_isOf M (gi M 87 32) x1) (fun M2 v3 => if v3 = 0 then chk (inb x1 8) (if (gi M2 103 (ix x1)) = (-1) then fX12_aYear_b55 (fX12_aYear_b2 n) M2 x1 0 else chk (inb x1 8) (bI (fX12_harvestOf M2 x1 (gi M2 103 (ix x1)) (gi M2 87 31)) (fun M6 v7 => fX12_aYear_b55 (fX12_aYear_b2 n) M6 x1 v7))) else fX12_aYear_b144 (fX12_aYear_b2 n) M2 x1) else wr (si M 87 31 ((gi M 87 31) + 1)) (fun M1 => some (M1, .inr none)))
    refine g_iload_n 1 rfl rfl dX12_aYear_2 ?_
    refine g_aload_n 0 rfl rfl dX12_aYear_3 ?_
    refine g_getR (k := 4) (b := 90) clX12 kd_87 (by decide) rfl rfl flX12_35 dX12_aYear_4 ?_
    refine g_iconst (v := 0) (by decide) dX12_aYear_7 ?_
    refine g_aldL (j := 0) kd_90 (by decide) (by decide) dX12_aYear_8 ?_
    refine g_icmp_ge (tgt := 150) rfl dX12_aYear_9 (fun c => ?_) (fun c => ?_)
    · refine g_aload_n 0 rfl rfl dX12_aYear_150 ?_
      refine g_dup_ref dX12_aYear_151 ?_
      refine g_getI (k := 31) clX12 kd_87 (by decide) rfl flX12_303 dX12_aYear_152 ?_
      refine g_iconst (v := 1) (by decide) dX12_aYear_155 ?_
      refine g_iadd dX12_aYear_156 ?_
      refine g_putI (k := 31) clX12 kd_87 (by decide) rfl (by decide) rfl flX12_303 dX12_aYear_157 ?_
      refine GO.wr (fun M1 => ?_)
      exact g_vreturn rfl (by decide) (by decide) dX12_aYear_160
    · refine g_aload_n 0 rfl rfl dX12_aYear_12 ?_
      refine g_getI (k := 32) clX12 kd_87 (by decide) rfl flX12_305 dX12_aYear_13 ?_
      refine g_iload_n 1 rfl rfl dX12_aYear_16 ?_
      refine g_callSI (y := miX12_isOf) (As := [.int (gi M 87 32), .int x1]) (rest := []) moX12_isOf rfl mlX12_333 (by first | decide | omega) (by decide) (by simp [Value.category]) rfl dX12_aYear_17 (SX12_isOf  M (gi M 87 32) x1) (fun M2 v3 => ?_)
      refine g_if_eq (tgt := 26) rfl dX12_aYear_20 (fun c => ?_) (fun c => ?_)
      · refine g_aload_n 0 rfl rfl dX12_aYear_26 ?_
        refine g_getR (k := 28) (b := 103) clX12 kd_87 (by decide) rfl rfl flX12_76 dX12_aYear_27 ?_
        refine g_iload_n 1 rfl rfl dX12_aYear_30 ?_
        refine g_ald kd_103 dX12_aYear_31 (fun hi4 => ?_)
        refine g_iconst (v := (-1)) (by decide) dX12_aYear_32 ?_
        refine g_icmp_ne (tgt := 40) rfl dX12_aYear_33 (fun c => ?_) (fun c => ?_)
        · refine g_aload_n 0 rfl rfl dX12_aYear_40 ?_
          refine g_iload_n 1 rfl rfl dX12_aYear_41 ?_
          refine g_aload_n 0 rfl rfl dX12_aYear_42 ?_
          refine g_getR (k := 28) (b := 103) clX12 kd_87 (by decide) rfl rfl flX12_76 dX12_aYear_43 ?_
          refine g_iload_n 1 rfl rfl dX12_aYear_46 ?_
          refine g_ald kd_103 dX12_aYear_47 (fun hi5 => ?_)
          refine g_aload_n 0 rfl rfl dX12_aYear_48 ?_
          refine g_getI (k := 31) clX12 kd_87 (by decide) rfl flX12_303 dX12_aYear_49 ?_
          refine g_callVI (y := miX12_harvestOf) (As := [.int x1, .int (gi M2 103 (ix x1)), .int (gi M2 87 31)]) (rest := []) clX12 kd_87 rfl moX12_harvestOf rfl mlX12_365 (by first | decide | omega) (by decide) (by simp [Value.category]) rfl dX12_aYear_52 (SX12_harvestOf  M2 x1 (gi M2 103 (ix x1)) (gi M2 87 31)) (fun M6 v7 => ?_)
          exact GO.pick [0, 1] rfl <| SX12_aYear_b55  (fX12_aYear_b2 n) hrec2 M6 x1 v7
        · refine g_iconst (v := 0) (by decide) dX12_aYear_36 ?_
          refine g_goto (tgt := 55) rfl dX12_aYear_37 ?_
          exact GO.pick [0, 1] rfl <| SX12_aYear_b55  (fX12_aYear_b2 n) hrec2 M2 x1 0
      · refine g_goto (tgt := 144) rfl dX12_aYear_23 ?_
        exact GO.pick [0, 1] rfl <| SX12_aYear_b144  (fX12_aYear_b2 n) hrec2 M2 x1
def fX12_aYear (M : Mem)  : RS := fX12_aYear_b2  FU M 0
theorem SX12_aYear (M : Mem)  : CTO (4) miX12_aYear 0 0 [.ref 87] M (fX12_aYear  M ) := by
  refine CTO.of (by decide) (by simp [lg_sl, Value.category]) ?_
  show GO miX12_aYear (4) 0 0 0 0 0 [(0, .ref 87)] [] M (fX12_aYear_b2  FU M 0)
  refine g_iconst (v := 0) (by decide) dX12_aYear_0 ?_
  refine g_istore_n (L' := [(1, .int 0), (0, .ref 87)]) (by decide) rfl rfl dX12_aYear_1 ?_
  exact GO.pick [1, 0] rfl <| SX12_aYear_b2  FU M 0
def fX12_goOn_b2 : Nat → Mem → Int32 → Int32 → RS
  | 0 => fun _ _ _ => none
  | n + 1 => fun M x1 x2 => if x2 < x1 then bV (fX12_aYear M) (fun M1 => (fX12_goOn_b2 n) M1 x1 (x2 + 1)) else some (M, .inr none)
theorem SX12_goOn_b2 (n : Nat) : ∀ (M : Mem) (x1 : Int32) (x2 : Int32), GO miX12_goOn (5) 0 0 0 0 2 [(0, .ref 87), (1, .int x1), (2, .int x2)] [] M (fX12_goOn_b2 n M x1 x2) := by
  induction n with
  | zero => intro M x1 x2 ; exact GO.none
  | succ n hrec2 =>
    intro M x1 x2 
    show GO miX12_goOn (5) 0 0 0 0 2 [(0, .ref 87), (1, .int x1), (2, .int x2)] [] M (if x2 < x1 then bV (fX12_aYear M) (fun M1 => (fX12_goOn_b2 n) M1 x1 (x2 + 1)) else some (M, .inr none))
    refine g_iload_n 2 rfl rfl dX12_goOn_2 ?_
    refine g_iload_n 1 rfl rfl dX12_goOn_3 ?_
    refine g_icmp_ge (tgt := 17) rfl dX12_goOn_4 (fun c => ?_) (fun c => ?_)
    · exact g_vreturn rfl (by decide) (by decide) dX12_goOn_17
    · refine g_aload_n 0 rfl rfl dX12_goOn_7 ?_
      refine g_callVV (y := miX12_aYear) (As := []) (rest := []) clX12 kd_87 rfl moX12_aYear rfl mlX12_368 (by first | decide | omega) (by decide) (by simp [Value.category]) rfl dX12_goOn_8 (SX12_aYear  M) (fun M1 => ?_)
      refine g_iinc (v := x2 + 1) (L' := [(2, .int (x2 + 1)), (0, .ref 87), (1, .int x1)]) 2 rfl rfl (by decide) rfl dX12_goOn_11 ?_
      refine g_goto (tgt := 2) rfl dX12_goOn_14 ?_
      exact GO.pick [1, 2, 0] rfl <| hrec2 M1 x1 (x2 + 1)
def fX12_goOn (M : Mem) (x1 : Int32) : RS := fX12_goOn_b2  FU M x1 0
theorem SX12_goOn (M : Mem) (x1 : Int32) : CTO (5) miX12_goOn 0 0 [.ref 87, .int x1] M (fX12_goOn  M x1) := by
  refine CTO.of (by decide) (by simp [lg_sl, Value.category]) ?_
  show GO miX12_goOn (5) 0 0 0 0 0 [(0, .ref 87), (1, .int x1)] [] M (fX12_goOn_b2  FU M x1 0)
  refine g_iconst (v := 0) (by decide) dX12_goOn_0 ?_
  refine g_istore_n (L' := [(2, .int 0), (0, .ref 87), (1, .int x1)]) (by decide) rfl rfl dX12_goOn_1 ?_
  exact GO.pick [1, 2, 0] rfl <| SX12_goOn_b2  FU M x1 0
def fX12_count (M : Mem) (x1 : Int32) : RS := wr (si M 87 3 0) (fun M1 => if x1 = 0 then chk (inb x1 16) (some (M1, .inr (some (.int (gi M1 90 (ix x1)))))) else if x1 = 1 then chk (inb x1 16) (some (M1, .inr (some (.int (gi M1 90 (ix x1)))))) else if x1 = 2 then some (M1, .inr (some (.int ((100 * (gi M1 87 37)) + (gi M1 87 36))))) else if x1 = 3 then some (M1, .inr (some (.int (gi M1 90 3)))) else if x1 = 4 then some (M1, .inr (some (.int (gi M1 87 31)))) else if x1 = 5 then bI (fX12_rainOf M1 (gi M1 87 31)) (fun M4 v5 => some (M4, .inr (some (.int v5)))) else if x1 = 6 then some (M1, .inr (some (.int (gi M1 87 32)))) else if x1 = 7 then some (M1, .inr (some (.int (gi M1 87 33)))) else if x1 = 8 then some (M1, .inr (some (.int (gi M1 87 34)))) else if x1 = 9 then some (M1, .inr (some (.int (gi M1 87 35)))) else if x1 = 10 then some (M1, .inr (some (.int (gi M1 87 38)))) else if x1 = 11 then some (M1, .inr (some (.int (gi M1 87 39)))) else if x1 = 12 then some (M1, .inr (some (.int (gi M1 87 16)))) else if x1 = 13 then chk (inb (x1 - 13) 3) (some (M1, .inr (some (.int (gi M1 100 (ix (x1 - 13))))))) else if x1 = 14 then chk (inb (x1 - 13) 3) (some (M1, .inr (some (.int (gi M1 100 (ix (x1 - 13))))))) else if x1 = 15 then chk (inb (x1 - 13) 3) (some (M1, .inr (some (.int (gi M1 100 (ix (x1 - 13))))))) else bI (fX12_fail M1 1) (fun M9 v10 => some (M9, .inr (some (.int v10)))))
theorem SX12_count (M : Mem) (x1 : Int32) : CTO (1) miX12_count 0 0 [.ref 87, .int x1] M (fX12_count  M x1) := by
  refine CTO.of (by decide) (by simp [lg_sl, Value.category]) ?_
  show GO miX12_count (1) 0 0 0 0 0 [(0, .ref 87), (1, .int x1)] [] M (wr (si M 87 3 0) (fun M1 => if x1 = 0 then chk (inb x1 16) (some (M1, .inr (some (.int (gi M1 90 (ix x1)))))) else if x1 = 1 then chk (inb x1 16) (some (M1, .inr (some (.int (gi M1 90 (ix x1)))))) else if x1 = 2 then some (M1, .inr (some (.int ((100 * (gi M1 87 37)) + (gi M1 87 36))))) else if x1 = 3 then some (M1, .inr (some (.int (gi M1 90 3)))) else if x1 = 4 then some (M1, .inr (some (.int (gi M1 87 31)))) else if x1 = 5 then bI (fX12_rainOf M1 (gi M1 87 31)) (fun M4 v5 => some (M4, .inr (some (.int v5)))) else if x1 = 6 then some (M1, .inr (some (.int (gi M1 87 32)))) else if x1 = 7 then some (M1, .inr (some (.int (gi M1 87 33)))) else if x1 = 8 then some (M1, .inr (some (.int (gi M1 87 34)))) else if x1 = 9 then some (M1, .inr (some (.int (gi M1 87 35)))) else if x1 = 10 then some (M1, .inr (some (.int (gi M1 87 38)))) else if x1 = 11 then some (M1, .inr (some (.int (gi M1 87 39)))) else if x1 = 12 then some (M1, .inr (some (.int (gi M1 87 16)))) else if x1 = 13 then chk (inb (x1 - 13) 3) (some (M1, .inr (some (.int (gi M1 100 (ix (x1 - 13))))))) else if x1 = 14 then chk (inb (x1 - 13) 3) (some (M1, .inr (some (.int (gi M1 100 (ix (x1 - 13))))))) else if x1 = 15 then chk (inb (x1 - 13) 3) (some (M1, .inr (some (.int (gi M1 100 (ix (x1 - 13))))))) else bI (fX12_fail M1 1) (fun M9 v10 => some (M9, .inr (some (.int v10))))))
  refine g_aload_n 0 rfl rfl dX12_count_0 ?_
  refine g_iconst (v := 0) (by decide) dX12_count_1 ?_
  refine g_putI (k := 3) clX12 kd_87 (by decide) rfl (by decide) rfl flX12_140 dX12_count_2 ?_
  refine GO.wr (fun M1 => ?_)
  refine g_iload_n 1 rfl rfl dX12_count_5 ?_
  refine g_tabI (tgt := 84) (off := 78) 0 rfl (by decide) (by decide) (by decide) dX12_count_6 ?_ (fun c0 => ?_)
  · refine g_aload_n 0 rfl rfl dX12_count_84 ?_
    refine g_getR (k := 4) (b := 90) clX12 kd_87 (by decide) rfl rfl flX12_35 dX12_count_85 ?_
    refine g_iload_n 1 rfl rfl dX12_count_88 ?_
    refine g_ald kd_90 dX12_count_89 (fun hi2 => ?_)
    exact g_ireturn rfl (by decide) (by decide) dX12_count_90 rfl rfl
  refine g_tabI (tgt := 84) (off := 78) 1 rfl (by decide) (by decide) (by decide) dX12_count_6 ?_ (fun c1 => ?_)
  · refine g_aload_n 0 rfl rfl dX12_count_84 ?_
    refine g_getR (k := 4) (b := 90) clX12 kd_87 (by decide) rfl rfl flX12_35 dX12_count_85 ?_
    refine g_iload_n 1 rfl rfl dX12_count_88 ?_
    refine g_ald kd_90 dX12_count_89 (fun hi3 => ?_)
    exact g_ireturn rfl (by decide) (by decide) dX12_count_90 rfl rfl
  refine g_tabI (tgt := 91) (off := 85) 2 rfl (by decide) (by decide) (by decide) dX12_count_6 ?_ (fun c2 => ?_)
  · refine g_bipush (v := 100) (by decide) dX12_count_91 ?_
    refine g_aload_n 0 rfl rfl dX12_count_93 ?_
    refine g_getI (k := 37) clX12 kd_87 (by decide) rfl flX12_137 dX12_count_94 ?_
    refine g_imul dX12_count_97 ?_
    refine g_aload_n 0 rfl rfl dX12_count_98 ?_
    refine g_getI (k := 36) clX12 kd_87 (by decide) rfl flX12_134 dX12_count_99 ?_
    refine g_iadd dX12_count_102 ?_
    exact g_ireturn rfl (by decide) (by decide) dX12_count_103 rfl rfl
  refine g_tabI (tgt := 104) (off := 98) 3 rfl (by decide) (by decide) (by decide) dX12_count_6 ?_ (fun c3 => ?_)
  · refine g_aload_n 0 rfl rfl dX12_count_104 ?_
    refine g_getR (k := 4) (b := 90) clX12 kd_87 (by decide) rfl rfl flX12_35 dX12_count_105 ?_
    refine g_iconst (v := 3) (by decide) dX12_count_108 ?_
    refine g_aldL (j := 3) kd_90 (by decide) (by decide) dX12_count_109 ?_
    exact g_ireturn rfl (by decide) (by decide) dX12_count_110 rfl rfl
  refine g_tabI (tgt := 111) (off := 105) 4 rfl (by decide) (by decide) (by decide) dX12_count_6 ?_ (fun c4 => ?_)
  · refine g_aload_n 0 rfl rfl dX12_count_111 ?_
    refine g_getI (k := 31) clX12 kd_87 (by decide) rfl flX12_303 dX12_count_112 ?_
    exact g_ireturn rfl (by decide) (by decide) dX12_count_115 rfl rfl
  refine g_tabI (tgt := 116) (off := 110) 5 rfl (by decide) (by decide) (by decide) dX12_count_6 ?_ (fun c5 => ?_)
  · refine g_aload_n 0 rfl rfl dX12_count_116 ?_
    refine g_aload_n 0 rfl rfl dX12_count_117 ?_
    refine g_getI (k := 31) clX12 kd_87 (by decide) rfl flX12_303 dX12_count_118 ?_
    refine g_callVI (y := miX12_rainOf) (As := [.int (gi M1 87 31)]) (rest := []) clX12 kd_87 rfl moX12_rainOf rfl mlX12_353 (by first | decide | omega) (by decide) (by simp [Value.category]) rfl dX12_count_121 (SX12_rainOf  M1 (gi M1 87 31)) (fun M4 v5 => ?_)
    exact g_ireturn rfl (by decide) (by decide) dX12_count_124 rfl rfl
  refine g_tabI (tgt := 125) (off := 119) 6 rfl (by decide) (by decide) (by decide) dX12_count_6 ?_ (fun c6 => ?_)
  · refine g_aload_n 0 rfl rfl dX12_count_125 ?_
    refine g_getI (k := 32) clX12 kd_87 (by decide) rfl flX12_305 dX12_count_126 ?_
    exact g_ireturn rfl (by decide) (by decide) dX12_count_129 rfl rfl
  refine g_tabI (tgt := 130) (off := 124) 7 rfl (by decide) (by decide) (by decide) dX12_count_6 ?_ (fun c7 => ?_)
  · refine g_aload_n 0 rfl rfl dX12_count_130 ?_
    refine g_getI (k := 33) clX12 kd_87 (by decide) rfl flX12_308 dX12_count_131 ?_
    exact g_ireturn rfl (by decide) (by decide) dX12_count_134 rfl rfl
  refine g_tabI (tgt := 135) (off := 129) 8 rfl (by decide) (by decide) (by decide) dX12_count_6 ?_ (fun c8 => ?_)
  · refine g_aload_n 0 rfl rfl dX12_count_135 ?_
    refine g_getI (k := 34) clX12 kd_87 (by decide) rfl flX12_311 dX12_count_136 ?_
    exact g_ireturn rfl (by decide) (by decide) dX12_count_139 rfl rfl
  refine g_tabI (tgt := 140) (off := 134) 9 rfl (by decide) (by decide) (by decide) dX12_count_6 ?_ (fun c9 => ?_)
  · refine g_aload_n 0 rfl rfl dX12_count_140 ?_
    refine g_getI (k := 35) clX12 kd_87 (by decide) rfl flX12_314 dX12_count_141 ?_
    exact g_ireturn rfl (by decide) (by decide) dX12_count_144 rfl rfl
  refine g_tabI (tgt := 145) (off := 139) 10 rfl (by decide) (by decide) (by decide) dX12_count_6 ?_ (fun c10 => ?_)
  · refine g_aload_n 0 rfl rfl dX12_count_145 ?_
    refine g_getI (k := 38) clX12 kd_87 (by decide) rfl flX12_320 dX12_count_146 ?_
    exact g_ireturn rfl (by decide) (by decide) dX12_count_149 rfl rfl
  refine g_tabI (tgt := 150) (off := 144) 11 rfl (by decide) (by decide) (by decide) dX12_count_6 ?_ (fun c11 => ?_)
  · refine g_aload_n 0 rfl rfl dX12_count_150 ?_
    refine g_getI (k := 39) clX12 kd_87 (by decide) rfl flX12_323 dX12_count_151 ?_
    exact g_ireturn rfl (by decide) (by decide) dX12_count_154 rfl rfl
  refine g_tabI (tgt := 155) (off := 149) 12 rfl (by decide) (by decide) (by decide) dX12_count_6 ?_ (fun c12 => ?_)
  · refine g_aload_n 0 rfl rfl dX12_count_155 ?_
    refine g_getI (k := 16) clX12 kd_87 (by decide) rfl flX12_147 dX12_count_156 ?_
    exact g_ireturn rfl (by decide) (by decide) dX12_count_159 rfl rfl
  refine g_tabI (tgt := 160) (off := 154) 13 rfl (by decide) (by decide) (by decide) dX12_count_6 ?_ (fun c13 => ?_)
  · refine g_aload_n 0 rfl rfl dX12_count_160 ?_
    refine g_getR (k := 14) (b := 100) clX12 kd_87 (by decide) rfl rfl flX12_63 dX12_count_161 ?_
    refine g_iload_n 1 rfl rfl dX12_count_164 ?_
    refine g_bipush (v := 13) (by decide) dX12_count_165 ?_
    refine g_isub dX12_count_167 ?_
    refine g_ald kd_100 dX12_count_168 (fun hi6 => ?_)
    exact g_ireturn rfl (by decide) (by decide) dX12_count_169 rfl rfl
  refine g_tabI (tgt := 160) (off := 154) 14 rfl (by decide) (by decide) (by decide) dX12_count_6 ?_ (fun c14 => ?_)
  · refine g_aload_n 0 rfl rfl dX12_count_160 ?_
    refine g_getR (k := 14) (b := 100) clX12 kd_87 (by decide) rfl rfl flX12_63 dX12_count_161 ?_
    refine g_iload_n 1 rfl rfl dX12_count_164 ?_
    refine g_bipush (v := 13) (by decide) dX12_count_165 ?_
    refine g_isub dX12_count_167 ?_
    refine g_ald kd_100 dX12_count_168 (fun hi7 => ?_)
    exact g_ireturn rfl (by decide) (by decide) dX12_count_169 rfl rfl
  refine g_tabI (tgt := 160) (off := 154) 15 rfl (by decide) (by decide) (by decide) dX12_count_6 ?_ (fun c15 => ?_)
  · refine g_aload_n 0 rfl rfl dX12_count_160 ?_
    refine g_getR (k := 14) (b := 100) clX12 kd_87 (by decide) rfl rfl flX12_63 dX12_count_161 ?_
    refine g_iload_n 1 rfl rfl dX12_count_164 ?_
    refine g_bipush (v := 13) (by decide) dX12_count_165 ?_
    refine g_isub dX12_count_167 ?_
    refine g_ald kd_100 dX12_count_168 (fun hi8 => ?_)
    exact g_ireturn rfl (by decide) (by decide) dX12_count_169 rfl rfl
  refine g_tabZ (tgt := 170) [0, 1, 2, 3, 4, 5, 6, 7, 8, 9, 10, 11, 12, 13, 14, 15] (List.forall_mem_cons.mpr ⟨c0, (List.forall_mem_cons.mpr ⟨c1, (List.forall_mem_cons.mpr ⟨c2, (List.forall_mem_cons.mpr ⟨c3, (List.forall_mem_cons.mpr ⟨c4, (List.forall_mem_cons.mpr ⟨c5, (List.forall_mem_cons.mpr ⟨c6, (List.forall_mem_cons.mpr ⟨c7, (List.forall_mem_cons.mpr ⟨c8, (List.forall_mem_cons.mpr ⟨c9, (List.forall_mem_cons.mpr ⟨c10, (List.forall_mem_cons.mpr ⟨c11, (List.forall_mem_cons.mpr ⟨c12, (List.forall_mem_cons.mpr ⟨c13, (List.forall_mem_cons.mpr ⟨c14, (List.forall_mem_cons.mpr ⟨c15, (fun _ h => absurd h List.not_mem_nil)⟩)⟩)⟩)⟩)⟩)⟩)⟩)⟩)⟩)⟩)⟩)⟩)⟩)⟩)⟩)⟩) rfl dX12_count_6 (by decide) (by decide) ?_
  refine g_aload_n 0 rfl rfl dX12_count_170 ?_
  refine g_iconst (v := 1) (by decide) dX12_count_171 ?_
  refine g_callVI (y := miX12_fail) (As := [.int 1]) (rest := []) clX12 kd_87 rfl moX12_fail rfl mlX12_290 (by first | decide | omega) (by decide) (by simp [Value.category]) rfl dX12_count_172 (SX12_fail  M1 1) (fun M9 v10 => ?_)
  exact g_ireturn rfl (by decide) (by decide) dX12_count_175 rfl rfl
def fX12_placeOf_b2 : Nat → Mem → Int32 → Int32 → RS
  | 0 => fun _ _ _ => none
  | n + 1 => fun M x1 x2 => chk (inb x2 8) (if (gi M 104 (ix x2)) = x1 then some (M, .inr (some (.int x2))) else (fX12_placeOf_b2 n) M x1 (x2 + 1))
theorem SX12_placeOf_b2 (n : Nat) : ∀ (M : Mem) (x1 : Int32) (x2 : Int32), GO miX12_placeOf (0) 0 0 0 0 2 [(0, .ref 87), (1, .int x1), (2, .int x2)] [] M (fX12_placeOf_b2 n M x1 x2) := by
  induction n with
  | zero => intro M x1 x2 ; exact GO.none
  | succ n hrec2 =>
    intro M x1 x2 
    show GO miX12_placeOf (0) 0 0 0 0 2 [(0, .ref 87), (1, .int x1), (2, .int x2)] [] M (chk (inb x2 8) (if (gi M 104 (ix x2)) = x1 then some (M, .inr (some (.int x2))) else (fX12_placeOf_b2 n) M x1 (x2 + 1)))
    refine g_aload_n 0 rfl rfl dX12_placeOf_2 ?_
    refine g_getR (k := 29) (b := 104) clX12 kd_87 (by decide) rfl rfl flX12_79 dX12_placeOf_3 ?_
    refine g_iload_n 2 rfl rfl dX12_placeOf_6 ?_
    refine g_ald kd_104 dX12_placeOf_7 (fun hi1 => ?_)
    refine g_iload_n 1 rfl rfl dX12_placeOf_8 ?_
    refine g_icmp_eq (tgt := 18) rfl dX12_placeOf_9 (fun c => ?_) (fun c => ?_)
    · refine g_iload_n 2 rfl rfl dX12_placeOf_18 ?_
      exact g_ireturn rfl (by decide) (by decide) dX12_placeOf_19 rfl rfl
    · refine g_iinc (v := x2 + 1) (L' := [(2, .int (x2 + 1)), (0, .ref 87), (1, .int x1)]) 2 rfl rfl (by decide) rfl dX12_placeOf_12 ?_
      refine g_goto (tgt := 2) rfl dX12_placeOf_15 ?_
      exact GO.pick [1, 2, 0] rfl <| hrec2 M x1 (x2 + 1)
def fX12_placeOf (M : Mem) (x1 : Int32) : RS := fX12_placeOf_b2  FU M x1 0
theorem SX12_placeOf (M : Mem) (x1 : Int32) : CTO (0) miX12_placeOf 0 0 [.ref 87, .int x1] M (fX12_placeOf  M x1) := by
  refine CTO.of (by decide) (by simp [lg_sl, Value.category]) ?_
  show GO miX12_placeOf (0) 0 0 0 0 0 [(0, .ref 87), (1, .int x1)] [] M (fX12_placeOf_b2  FU M x1 0)
  refine g_iconst (v := 0) (by decide) dX12_placeOf_0 ?_
  refine g_istore_n (L' := [(2, .int 0), (0, .ref 87), (1, .int x1)]) (by decide) rfl rfl dX12_placeOf_1 ?_
  exact GO.pick [1, 2, 0] rfl <| SX12_placeOf_b2  FU M x1 0
def fX12_envyOf_b77 (rec4 : Mem → Int32 → Int32 → Int32 → RS) (M : Mem) (x1 : Int32) (x2 : Int32) (x3 : Int32) : RS := rec4 M x1 x2 (x3 + 1)
theorem SX12_envyOf_b77 (rec4 : Mem → Int32 → Int32 → Int32 → RS) (hrec4 : ∀ (M : Mem) (x1 : Int32) (x2 : Int32) (x3 : Int32), GO miX12_envyOf (4) 0 0 0 0 4 [(0, .ref 87), (1, .int x1), (2, .int x2), (3, .int x3)] [] M (rec4 M x1 x2 x3)) (M : Mem) (x1 : Int32) (x2 : Int32) (x3 : Int32) : GO miX12_envyOf (4) 0 0 0 0 77 [(0, .ref 87), (1, .int x1), (2, .int x2), (3, .int x3)] [] M (fX12_envyOf_b77 rec4 M x1 x2 x3) := by
  show GO miX12_envyOf (4) 0 0 0 0 77 [(0, .ref 87), (1, .int x1), (2, .int x2), (3, .int x3)] [] M (rec4 M x1 x2 (x3 + 1))
  refine g_iinc (v := x3 + 1) (L' := [(3, .int (x3 + 1)), (0, .ref 87), (1, .int x1), (2, .int x2)]) 3 rfl rfl (by decide) rfl dX12_envyOf_77 ?_
  refine g_goto (tgt := 4) rfl dX12_envyOf_80 ?_
  exact GO.pick [1, 2, 3, 0] rfl <| hrec4 M x1 x2 (x3 + 1)
def fX12_envyOf_b75 (rec4 : Mem → Int32 → Int32 → Int32 → RS) (M : Mem) (x1 : Int32) (x3 : Int32) (s0 : Int32) (s1 : Int32) : RS := fX12_envyOf_b77 rec4 M x1 (s1 ||| s0) x3
theorem SX12_envyOf_b75 (rec4 : Mem → Int32 → Int32 → Int32 → RS) (hrec4 : ∀ (M : Mem) (x1 : Int32) (x2 : Int32) (x3 : Int32), GO miX12_envyOf (4) 0 0 0 0 4 [(0, .ref 87), (1, .int x1), (2, .int x2), (3, .int x3)] [] M (rec4 M x1 x2 x3)) (M : Mem) (x1 : Int32) (x3 : Int32) (s0 : Int32) (s1 : Int32) : GO miX12_envyOf (4) 0 0 0 0 75 [(0, .ref 87), (1, .int x1), (3, .int x3)] [.int s0, .int s1] M (fX12_envyOf_b75 rec4 M x1 x3 s0 s1) := by
  show GO miX12_envyOf (4) 0 0 0 0 75 [(0, .ref 87), (1, .int x1), (3, .int x3)] [.int s0, .int s1] M (fX12_envyOf_b77 rec4 M x1 (s1 ||| s0) x3)
  refine g_ior dX12_envyOf_75 ?_
  refine g_istore_n (L' := [(2, .int (s1 ||| s0)), (0, .ref 87), (1, .int x1), (3, .int x3)]) (by decide) rfl rfl dX12_envyOf_76 ?_
  exact GO.pick [1, 2, 0, 3] rfl <| SX12_envyOf_b77  rec4 hrec4 M x1 (s1 ||| s0) x3
def fX12_envyOf_b68 (rec4 : Mem → Int32 → Int32 → Int32 → RS) (M : Mem) (x1 : Int32) (x3 : Int32) (s0 : Int32) : RS := fX12_envyOf_b75 rec4 M x1 x3 ((1 : Int32) <<< (x3 &&& 31)) s0
theorem SX12_envyOf_b68 (rec4 : Mem → Int32 → Int32 → Int32 → RS) (hrec4 : ∀ (M : Mem) (x1 : Int32) (x2 : Int32) (x3 : Int32), GO miX12_envyOf (4) 0 0 0 0 4 [(0, .ref 87), (1, .int x1), (2, .int x2), (3, .int x3)] [] M (rec4 M x1 x2 x3)) (M : Mem) (x1 : Int32) (x3 : Int32) (s0 : Int32) : GO miX12_envyOf (4) 0 0 0 0 68 [(0, .ref 87), (1, .int x1), (3, .int x3)] [.int s0] M (fX12_envyOf_b68 rec4 M x1 x3 s0) := by
  show GO miX12_envyOf (4) 0 0 0 0 68 [(0, .ref 87), (1, .int x1), (3, .int x3)] [.int s0] M (fX12_envyOf_b75 rec4 M x1 x3 ((1 : Int32) <<< (x3 &&& 31)) s0)
  refine g_iconst (v := 1) (by decide) dX12_envyOf_68 ?_
  refine g_iload_n 2 rfl rfl dX12_envyOf_69 ?_
  refine g_ishl dX12_envyOf_70 ?_
  refine g_goto (tgt := 75) rfl dX12_envyOf_71 ?_
  exact GO.pick [0, 1, 2] rfl <| SX12_envyOf_b75  rec4 hrec4 M x1 x3 ((1 : Int32) <<< (x3 &&& 31)) s0
def fX12_envyOf_b4 : Nat → Mem → Int32 → Int32 → Int32 → RS
  | 0 => fun _ _ _ _ => none
  | n + 1 => fun M x1 x2 x3 => if x3 < (gi M 90 0) then if x3 = x1 then fX12_envyOf_b77 (fX12_envyOf_b4 n) M x1 x2 x3 else chk (inb x3 8) (if (gi M 103 (ix x3)) = (-1) then fX12_envyOf_b77 (fX12_envyOf_b4 n) M x1 x2 x3 else chk (inb x1 8) (if (gi M 103 (ix x1)) = (-1) then fX12_envyOf_b68 (fX12_envyOf_b4 n) M x1 x3 x2 else chk (inb x3 8) (bI (fX12_worthOf M x1 (gi M 103 (ix x3))) (fun M4 v5 => chk (inb x1 8) (bI (fX12_worthOf M4 x1 (gi M4 103 (ix x1))) (fun M7 v8 => if v8 < v5 then fX12_envyOf_b68 (fX12_envyOf_b4 n) M7 x1 x3 x2 else fX12_envyOf_b75 (fX12_envyOf_b4 n) M7 x1 x3 0 x2)))))) else some (M, .inr (some (.int x2)))
theorem SX12_envyOf_b4 (n : Nat) : ∀ (M : Mem) (x1 : Int32) (x2 : Int32) (x3 : Int32), GO miX12_envyOf (4) 0 0 0 0 4 [(0, .ref 87), (1, .int x1), (2, .int x2), (3, .int x3)] [] M (fX12_envyOf_b4 n M x1 x2 x3) := by
  induction n with
  | zero => intro M x1 x2 x3 ; exact GO.none
  | succ n hrec4 =>
    intro M x1 x2 x3 
    show GO miX12_envyOf (4) 0 0 0 0 4 [(0, .ref 87), (1, .int x1), (2, .int x2), (3, .int x3)] [] M (if x3 < (gi M 90 0) then if x3 = x1 then fX12_envyOf_b77 (fX12_envyOf_b4 n) M x1 x2 x3 else chk (inb x3 8) (if (gi M 103 (ix x3)) = (-1) then fX12_envyOf_b77 (fX12_envyOf_b4 n) M x1 x2 x3 else chk (inb x1 8) (if (gi M 103 (ix x1)) = (-1) then fX12_envyOf_b68 (fX12_envyOf_b4 n) M x1 x3 x2 else chk (inb x3 8) (bI (fX12_worthOf M x1 (gi M 103 (ix x3))) (fun M4 v5 => chk (inb x1 8) (bI (fX12_worthOf M4 x1 (gi M4 103 (ix x1))) (fun M7 v8 => if v8 < v5 then fX12_envyOf_b68 (fX12_envyOf_b4 n) M7 x1 x3 x2 else fX12_envyOf_b75 (fX12_envyOf_b4 n) M7 x1 x3 0 x2)))))) else some (M, .inr (some (.int x2))))
    refine g_iload_n 3 rfl rfl dX12_envyOf_4 ?_
    refine g_aload_n 0 rfl rfl dX12_envyOf_5 ?_
    refine g_getR (k := 4) (b := 90) clX12 kd_87 (by decide) rfl rfl flX12_35 dX12_envyOf_6 ?_
    refine g_iconst (v := 0) (by decide) dX12_envyOf_9 ?_
    refine g_aldL (j := 0) kd_90 (by decide) (by decide) dX12_envyOf_10 ?_
    refine g_icmp_ge (tgt := 83) rfl dX12_envyOf_11 (fun c => ?_) (fun c => ?_)
    · refine g_iload_n 2 rfl rfl dX12_envyOf_83 ?_
      exact g_ireturn rfl (by decide) (by decide) dX12_envyOf_84 rfl rfl
    · refine g_iload_n 3 rfl rfl dX12_envyOf_14 ?_
      refine g_iload_n 1 rfl rfl dX12_envyOf_15 ?_
      refine g_icmp_eq (tgt := 77) rfl dX12_envyOf_16 (fun c => ?_) (fun c => ?_)
      · exact GO.pick [0, 1, 2, 3] rfl <| SX12_envyOf_b77  (fX12_envyOf_b4 n) hrec4 M x1 x2 x3
      · refine g_aload_n 0 rfl rfl dX12_envyOf_19 ?_
        refine g_getR (k := 28) (b := 103) clX12 kd_87 (by decide) rfl rfl flX12_76 dX12_envyOf_20 ?_
        refine g_iload_n 3 rfl rfl dX12_envyOf_23 ?_
        refine g_ald kd_103 dX12_envyOf_24 (fun hi1 => ?_)
        refine g_iconst (v := (-1)) (by decide) dX12_envyOf_25 ?_
        refine g_icmp_ne (tgt := 32) rfl dX12_envyOf_26 (fun c => ?_) (fun c => ?_)
        · refine g_iload_n 2 rfl rfl dX12_envyOf_32 ?_
          refine g_aload_n 0 rfl rfl dX12_envyOf_33 ?_
          refine g_getR (k := 28) (b := 103) clX12 kd_87 (by decide) rfl rfl flX12_76 dX12_envyOf_34 ?_
          refine g_iload_n 1 rfl rfl dX12_envyOf_37 ?_
          refine g_ald kd_103 dX12_envyOf_38 (fun hi2 => ?_)
          refine g_iconst (v := (-1)) (by decide) dX12_envyOf_39 ?_
          refine g_icmp_eq (tgt := 68) rfl dX12_envyOf_40 (fun c => ?_) (fun c => ?_)
          · exact GO.pick [0, 1, 3] rfl <| SX12_envyOf_b68  (fX12_envyOf_b4 n) hrec4 M x1 x3 x2
          · refine g_aload_n 0 rfl rfl dX12_envyOf_43 ?_
            refine g_iload_n 1 rfl rfl dX12_envyOf_44 ?_
            refine g_aload_n 0 rfl rfl dX12_envyOf_45 ?_
            refine g_getR (k := 28) (b := 103) clX12 kd_87 (by decide) rfl rfl flX12_76 dX12_envyOf_46 ?_
            refine g_iload_n 3 rfl rfl dX12_envyOf_49 ?_
            refine g_ald kd_103 dX12_envyOf_50 (fun hi3 => ?_)
            refine g_callVI (y := miX12_worthOf) (As := [.int x1, .int (gi M 103 (ix x3))]) (rest := [.int x2]) clX12 kd_87 rfl moX12_worthOf rfl mlX12_362 (by first | decide | omega) (by decide) (by simp [Value.category]) rfl dX12_envyOf_51 (SX12_worthOf  M x1 (gi M 103 (ix x3))) (fun M4 v5 => ?_)
            refine g_aload_n 0 rfl rfl dX12_envyOf_54 ?_
            refine g_iload_n 1 rfl rfl dX12_envyOf_55 ?_
            refine g_aload_n 0 rfl rfl dX12_envyOf_56 ?_
            refine g_getR (k := 28) (b := 103) clX12 kd_87 (by decide) rfl rfl flX12_76 dX12_envyOf_57 ?_
            refine g_iload_n 1 rfl rfl dX12_envyOf_60 ?_
            refine g_ald kd_103 dX12_envyOf_61 (fun hi6 => ?_)
            refine g_callVI (y := miX12_worthOf) (As := [.int x1, .int (gi M4 103 (ix x1))]) (rest := [.int v5, .int x2]) clX12 kd_87 rfl moX12_worthOf rfl mlX12_362 (by first | decide | omega) (by decide) (by simp [Value.category]) rfl dX12_envyOf_62 (SX12_worthOf  M4 x1 (gi M4 103 (ix x1))) (fun M7 v8 => ?_)
            refine g_icmp_le (tgt := 74) rfl dX12_envyOf_65 (fun c => ?_) (fun c => ?_)
            · refine g_iconst (v := 0) (by decide) dX12_envyOf_74 ?_
              exact GO.pick [0, 1, 3] rfl <| SX12_envyOf_b75  (fX12_envyOf_b4 n) hrec4 M7 x1 x3 0 x2
            · exact GO.pick [0, 1, 3] rfl <| SX12_envyOf_b68  (fX12_envyOf_b4 n) hrec4 M7 x1 x3 x2
        · refine g_goto (tgt := 77) rfl dX12_envyOf_29 ?_
          exact GO.pick [0, 1, 2, 3] rfl <| SX12_envyOf_b77  (fX12_envyOf_b4 n) hrec4 M x1 x2 x3
def fX12_envyOf (M : Mem) (x1 : Int32) : RS := fX12_envyOf_b4  FU M x1 0 0
theorem SX12_envyOf (M : Mem) (x1 : Int32) : CTO (4) miX12_envyOf 0 0 [.ref 87, .int x1] M (fX12_envyOf  M x1) := by
  refine CTO.of (by decide) (by simp [lg_sl, Value.category]) ?_
  show GO miX12_envyOf (4) 0 0 0 0 0 [(0, .ref 87), (1, .int x1)] [] M (fX12_envyOf_b4  FU M x1 0 0)
  refine g_iconst (v := 0) (by decide) dX12_envyOf_0 ?_
  refine g_istore_n (L' := [(2, .int 0), (0, .ref 87), (1, .int x1)]) (by decide) rfl rfl dX12_envyOf_1 ?_
  refine g_iconst (v := 0) (by decide) dX12_envyOf_2 ?_
  refine g_istore_n (L' := [(3, .int 0), (2, .int 0), (0, .ref 87), (1, .int x1)]) (by decide) rfl rfl dX12_envyOf_3 ?_
  exact GO.pick [2, 3, 1, 0] rfl <| SX12_envyOf_b4  FU M x1 0 0
def fX12_house (M : Mem) (x1 : Int32) (x2 : Int32) : RS := wr (si M 87 3 0) (fun M1 => bI (fX12_isHouse M1 x1) (fun M2 v3 => if v3 = 0 then bI (fX12_fail M2 1) (fun M15 v16 => some (M15, .inr (some (.int v16)))) else if x2 = 0 then chk (inb x1 16) (some (M2, .inr (some (.int (gi M2 91 (ix x1)))))) else if x2 = 1 then chk (inb x1 16) (some (M2, .inr (some (.int (gi M2 92 (ix x1)))))) else if x2 = 2 then chk (inb x1 16) (some (M2, .inr (some (.int (gi M2 93 (ix x1)))))) else if x2 = 3 then some (M2, .inr (some (.int (((gi M2 87 35) >>> (x1 &&& 31)) &&& 1)))) else if x2 = 4 then chk (inb x1 8) (some (M2, .inr (some (.int (gi M2 103 (ix x1)))))) else if x2 = 5 then chk (inb x1 8) (some (M2, .inr (some (.int (gi M2 102 (ix x1)))))) else if x2 = 6 then bI (fX12_placeOf M2 x1) (fun M9 v10 => some (M9, .inr (some (.int v10)))) else if x2 = 7 then bI (fX12_envyOf M2 x1) (fun M11 v12 => some (M11, .inr (some (.int v12)))) else bI (fX12_fail M2 1) (fun M13 v14 => some (M13, .inr (some (.int v14))))))
theorem SX12_house (M : Mem) (x1 : Int32) (x2 : Int32) : CTO (5) miX12_house 0 0 [.ref 87, .int x1, .int x2] M (fX12_house  M x1 x2) := by
  refine CTO.of (by decide) (by simp [lg_sl, Value.category]) ?_
  show GO miX12_house (5) 0 0 0 0 0 [(0, .ref 87), (1, .int x1), (2, .int x2)] [] M (wr (si M 87 3 0) (fun M1 => bI (fX12_isHouse M1 x1) (fun M2 v3 => if v3 = 0 then bI (fX12_fail M2 1) (fun M15 v16 => some (M15, .inr (some (.int v16)))) else if x2 = 0 then chk (inb x1 16) (some (M2, .inr (some (.int (gi M2 91 (ix x1)))))) else if x2 = 1 then chk (inb x1 16) (some (M2, .inr (some (.int (gi M2 92 (ix x1)))))) else if x2 = 2 then chk (inb x1 16) (some (M2, .inr (some (.int (gi M2 93 (ix x1)))))) else if x2 = 3 then some (M2, .inr (some (.int (((gi M2 87 35) >>> (x1 &&& 31)) &&& 1)))) else if x2 = 4 then chk (inb x1 8) (some (M2, .inr (some (.int (gi M2 103 (ix x1)))))) else if x2 = 5 then chk (inb x1 8) (some (M2, .inr (some (.int (gi M2 102 (ix x1)))))) else if x2 = 6 then bI (fX12_placeOf M2 x1) (fun M9 v10 => some (M9, .inr (some (.int v10)))) else if x2 = 7 then bI (fX12_envyOf M2 x1) (fun M11 v12 => some (M11, .inr (some (.int v12)))) else bI (fX12_fail M2 1) (fun M13 v14 => some (M13, .inr (some (.int v14)))))))
  refine g_aload_n 0 rfl rfl dX12_house_0 ?_
  refine g_iconst (v := 0) (by decide) dX12_house_1 ?_
  refine g_putI (k := 3) clX12 kd_87 (by decide) rfl (by decide) rfl flX12_140 dX12_house_2 ?_
  refine GO.wr (fun M1 => ?_)
  refine g_aload_n 0 rfl rfl dX12_house_5 ?_
  refine g_iload_n 1 rfl rfl dX12_house_6 ?_
  refine g_callVI (y := miX12_isHouse) (As := [.int x1]) (rest := []) clX12 kd_87 rfl moX12_isHouse rfl mlX12_371 (by first | decide | omega) (by decide) (by simp [Value.category]) rfl dX12_house_7 (SX12_isHouse  M1 x1) (fun M2 v3 => ?_)
  refine g_if_ne (tgt := 19) rfl dX12_house_10 (fun c => ?_) (fun c => ?_)
  · refine g_iload_n 2 rfl rfl dX12_house_19 ?_
    refine g_tabI (tgt := 68) (off := 48) 0 rfl (by decide) (by decide) (by decide) dX12_house_20 ?_ (fun c0 => ?_)
    · refine g_aload_n 0 rfl rfl dX12_house_68 ?_
      refine g_getR (k := 5) (b := 91) clX12 kd_87 (by decide) rfl rfl flX12_39 dX12_house_69 ?_
      refine g_iload_n 1 rfl rfl dX12_house_72 ?_
      refine g_ald kd_91 dX12_house_73 (fun hi4 => ?_)
      exact g_ireturn rfl (by decide) (by decide) dX12_house_74 rfl rfl
    refine g_tabI (tgt := 75) (off := 55) 1 rfl (by decide) (by decide) (by decide) dX12_house_20 ?_ (fun c1 => ?_)
    · refine g_aload_n 0 rfl rfl dX12_house_75 ?_
      refine g_getR (k := 6) (b := 92) clX12 kd_87 (by decide) rfl rfl flX12_42 dX12_house_76 ?_
      refine g_iload_n 1 rfl rfl dX12_house_79 ?_
      refine g_ald kd_92 dX12_house_80 (fun hi5 => ?_)
      exact g_ireturn rfl (by decide) (by decide) dX12_house_81 rfl rfl
    refine g_tabI (tgt := 82) (off := 62) 2 rfl (by decide) (by decide) (by decide) dX12_house_20 ?_ (fun c2 => ?_)
    · refine g_aload_n 0 rfl rfl dX12_house_82 ?_
      refine g_getR (k := 7) (b := 93) clX12 kd_87 (by decide) rfl rfl flX12_44 dX12_house_83 ?_
      refine g_iload_n 1 rfl rfl dX12_house_86 ?_
      refine g_ald kd_93 dX12_house_87 (fun hi6 => ?_)
      exact g_ireturn rfl (by decide) (by decide) dX12_house_88 rfl rfl
    refine g_tabI (tgt := 89) (off := 69) 3 rfl (by decide) (by decide) (by decide) dX12_house_20 ?_ (fun c3 => ?_)
    · refine g_aload_n 0 rfl rfl dX12_house_89 ?_
      refine g_getI (k := 35) clX12 kd_87 (by decide) rfl flX12_314 dX12_house_90 ?_
      refine g_iload_n 1 rfl rfl dX12_house_93 ?_
      refine g_ishr dX12_house_94 ?_
      refine g_iconst (v := 1) (by decide) dX12_house_95 ?_
      refine g_iand dX12_house_96 ?_
      exact g_ireturn rfl (by decide) (by decide) dX12_house_97 rfl rfl
    refine g_tabI (tgt := 98) (off := 78) 4 rfl (by decide) (by decide) (by decide) dX12_house_20 ?_ (fun c4 => ?_)
    · refine g_aload_n 0 rfl rfl dX12_house_98 ?_
      refine g_getR (k := 28) (b := 103) clX12 kd_87 (by decide) rfl rfl flX12_76 dX12_house_99 ?_
      refine g_iload_n 1 rfl rfl dX12_house_102 ?_
      refine g_ald kd_103 dX12_house_103 (fun hi7 => ?_)
      exact g_ireturn rfl (by decide) (by decide) dX12_house_104 rfl rfl
    refine g_tabI (tgt := 105) (off := 85) 5 rfl (by decide) (by decide) (by decide) dX12_house_20 ?_ (fun c5 => ?_)
    · refine g_aload_n 0 rfl rfl dX12_house_105 ?_
      refine g_getR (k := 27) (b := 102) clX12 kd_87 (by decide) rfl rfl flX12_73 dX12_house_106 ?_
      refine g_iload_n 1 rfl rfl dX12_house_109 ?_
      refine g_ald kd_102 dX12_house_110 (fun hi8 => ?_)
      exact g_ireturn rfl (by decide) (by decide) dX12_house_111 rfl rfl
    refine g_tabI (tgt := 112) (off := 92) 6 rfl (by decide) (by decide) (by decide) dX12_house_20 ?_ (fun c6 => ?_)
    · refine g_aload_n 0 rfl rfl dX12_house_112 ?_
      refine g_iload_n 1 rfl rfl dX12_house_113 ?_
      refine g_callVI (y := miX12_placeOf) (As := [.int x1]) (rest := []) clX12 kd_87 rfl moX12_placeOf rfl mlX12_374 (by first | decide | omega) (by decide) (by simp [Value.category]) rfl dX12_house_114 (SX12_placeOf  M2 x1) (fun M9 v10 => ?_)
      exact g_ireturn rfl (by decide) (by decide) dX12_house_117 rfl rfl
    refine g_tabI (tgt := 118) (off := 98) 7 rfl (by decide) (by decide) (by decide) dX12_house_20 ?_ (fun c7 => ?_)
    · refine g_aload_n 0 rfl rfl dX12_house_118 ?_
      refine g_iload_n 1 rfl rfl dX12_house_119 ?_
      refine g_callVI (y := miX12_envyOf) (As := [.int x1]) (rest := []) clX12 kd_87 rfl moX12_envyOf rfl mlX12_377 (by first | decide | omega) (by decide) (by simp [Value.category]) rfl dX12_house_120 (SX12_envyOf  M2 x1) (fun M11 v12 => ?_)
      exact g_ireturn rfl (by decide) (by decide) dX12_house_123 rfl rfl
    refine g_tabZ (tgt := 124) [0, 1, 2, 3, 4, 5, 6, 7] (List.forall_mem_cons.mpr ⟨c0, (List.forall_mem_cons.mpr ⟨c1, (List.forall_mem_cons.mpr ⟨c2, (List.forall_mem_cons.mpr ⟨c3, (List.forall_mem_cons.mpr ⟨c4, (List.forall_mem_cons.mpr ⟨c5, (List.forall_mem_cons.mpr ⟨c6, (List.forall_mem_cons.mpr ⟨c7, (fun _ h => absurd h List.not_mem_nil)⟩)⟩)⟩)⟩)⟩)⟩)⟩)⟩) rfl dX12_house_20 (by decide) (by decide) ?_
    refine g_aload_n 0 rfl rfl dX12_house_124 ?_
    refine g_iconst (v := 1) (by decide) dX12_house_125 ?_
    refine g_callVI (y := miX12_fail) (As := [.int 1]) (rest := []) clX12 kd_87 rfl moX12_fail rfl mlX12_290 (by first | decide | omega) (by decide) (by simp [Value.category]) rfl dX12_house_126 (SX12_fail  M2 1) (fun M13 v14 => ?_)
    exact g_ireturn rfl (by decide) (by decide) dX12_house_129 rfl rfl
  · refine g_aload_n 0 rfl rfl dX12_house_13 ?_
    refine g_iconst (v := 1) (by decide) dX12_house_14 ?_
    refine g_callVI (y := miX12_fail) (As := [.int 1]) (rest := []) clX12 kd_87 rfl moX12_fail rfl mlX12_290 (by first | decide | omega) (by decide) (by simp [Value.category]) rfl dX12_house_15 (SX12_fail  M2 1) (fun M15 v16 => ?_)
    exact g_ireturn rfl (by decide) (by decide) dX12_house_18 rfl rfl
def fX12_plot_b25 (M : Mem)  : RS := bI (fX12_fail M 1) (fun M13 v14 => some (M13, .inr (some (.int v14))))
theorem SX12_plot_b25 (M : Mem)  : GO miX12_plot (2) 0 0 0 0 25 [(0, .ref 87)] [] M (fX12_plot_b25 M ) := by
  show GO miX12_plot (2) 0 0 0 0 25 [(0, .ref 87)] [] M (bI (fX12_fail M 1) (fun M13 v14 => some (M13, .inr (some (.int v14)))))
  refine g_aload_n 0 rfl rfl dX12_plot_25 ?_
  refine g_iconst (v := 1) (by decide) dX12_plot_26 ?_
  refine g_callVI (y := miX12_fail) (As := [.int 1]) (rest := []) clX12 kd_87 rfl moX12_fail rfl mlX12_290 (by first | decide | omega) (by decide) (by simp [Value.category]) rfl dX12_plot_27 (SX12_fail  M 1) (fun M13 v14 => ?_)
  exact g_ireturn rfl (by decide) (by decide) dX12_plot_30 rfl rfl
def fX12_plot (M : Mem) (x1 : Int32) (x2 : Int32) : RS := wr (si M 87 3 0) (fun M1 => bI (fX12_isPlot M1 x1) (fun M2 v3 => if v3 = 0 then fX12_plot_b25  M2 else bI (fX12_isIn M2 (Int32.toInt64 x2) 0 4) (fun M4 v5 => if v5 = 0 then fX12_plot_b25  M4 else if x2 = 0 then chk (inb x1 18) (some (M4, .inr (some (.int (gi M4 94 (ix x1)))))) else if x2 = 1 then chk (inb x1 18) (some (M4, .inr (some (.int (gi M4 95 (ix x1)))))) else if x2 = 2 then chk (inb x1 18) (some (M4, .inr (some (.int (gi M4 96 (ix x1)))))) else if x2 = 3 then bI (fX12_walkOf M4 x1) (fun M8 v9 => some (M8, .inr (some (.int v9)))) else bI (fX12_ownerOf M4 x1) (fun M6 v7 => some (M6, .inr (some (.int v7)))))))
theorem SX12_plot (M : Mem) (x1 : Int32) (x2 : Int32) : CTO (2) miX12_plot 0 0 [.ref 87, .int x1, .int x2] M (fX12_plot  M x1 x2) := by
  refine CTO.of (by decide) (by simp [lg_sl, Value.category]) ?_
  show GO miX12_plot (2) 0 0 0 0 0 [(0, .ref 87), (1, .int x1), (2, .int x2)] [] M (wr (si M 87 3 0) (fun M1 => bI (fX12_isPlot M1 x1) (fun M2 v3 => if v3 = 0 then fX12_plot_b25  M2 else bI (fX12_isIn M2 (Int32.toInt64 x2) 0 4) (fun M4 v5 => if v5 = 0 then fX12_plot_b25  M4 else if x2 = 0 then chk (inb x1 18) (some (M4, .inr (some (.int (gi M4 94 (ix x1)))))) else if x2 = 1 then chk (inb x1 18) (some (M4, .inr (some (.int (gi M4 95 (ix x1)))))) else if x2 = 2 then chk (inb x1 18) (some (M4, .inr (some (.int (gi M4 96 (ix x1)))))) else if x2 = 3 then bI (fX12_walkOf M4 x1) (fun M8 v9 => some (M8, .inr (some (.int v9)))) else bI (fX12_ownerOf M4 x1) (fun M6 v7 => some (M6, .inr (some (.int v7))))))))
  refine g_aload_n 0 rfl rfl dX12_plot_0 ?_
  refine g_iconst (v := 0) (by decide) dX12_plot_1 ?_
  refine g_putI (k := 3) clX12 kd_87 (by decide) rfl (by decide) rfl flX12_140 dX12_plot_2 ?_
  refine GO.wr (fun M1 => ?_)
  refine g_aload_n 0 rfl rfl dX12_plot_5 ?_
  refine g_iload_n 1 rfl rfl dX12_plot_6 ?_
  refine g_callVI (y := miX12_isPlot) (As := [.int x1]) (rest := []) clX12 kd_87 rfl moX12_isPlot rfl mlX12_380 (by first | decide | omega) (by decide) (by simp [Value.category]) rfl dX12_plot_7 (SX12_isPlot  M1 x1) (fun M2 v3 => ?_)
  refine g_if_eq (tgt := 25) rfl dX12_plot_10 (fun c => ?_) (fun c => ?_)
  · exact GO.pick [0] rfl <| SX12_plot_b25  M2
  · refine g_iload_n 2 rfl rfl dX12_plot_13 ?_
    refine g_i2l dX12_plot_14 ?_
    refine g_lconst (v := 0) (by decide) dX12_plot_15 ?_
    refine g_ldc2 (v := 4) coX12_383 dX12_plot_16 ?_
    refine g_callSI (y := miX12_isIn) (As := [.long (Int32.toInt64 x2), .long 0, .long 4]) (rest := []) moX12_isIn rfl mlX12_143 (by first | decide | omega) (by decide) (by simp [Value.category]) rfl dX12_plot_19 (SX12_isIn  M2 (Int32.toInt64 x2) 0 4) (fun M4 v5 => ?_)
    refine g_if_ne (tgt := 31) rfl dX12_plot_22 (fun c => ?_) (fun c => ?_)
    · refine g_iload_n 2 rfl rfl dX12_plot_31 ?_
      refine g_if_ne (tgt := 44) rfl dX12_plot_32 (fun c => ?_) (fun c => ?_)
      · refine g_iload_n 2 rfl rfl dX12_plot_44 ?_
        refine g_iconst (v := 1) (by decide) dX12_plot_45 ?_
        refine g_icmp_ne (tgt := 58) rfl dX12_plot_46 (fun c => ?_) (fun c => ?_)
        · refine g_iload_n 2 rfl rfl dX12_plot_58 ?_
          refine g_iconst (v := 2) (by decide) dX12_plot_59 ?_
          refine g_icmp_ne (tgt := 72) rfl dX12_plot_60 (fun c => ?_) (fun c => ?_)
          · refine g_iload_n 2 rfl rfl dX12_plot_72 ?_
            refine g_iconst (v := 3) (by decide) dX12_plot_73 ?_
            refine g_icmp_ne (tgt := 85) rfl dX12_plot_74 (fun c => ?_) (fun c => ?_)
            · refine g_aload_n 0 rfl rfl dX12_plot_85 ?_
              refine g_iload_n 1 rfl rfl dX12_plot_86 ?_
              refine g_callVI (y := miX12_ownerOf) (As := [.int x1]) (rest := []) clX12 kd_87 rfl moX12_ownerOf rfl mlX12_359 (by first | decide | omega) (by decide) (by simp [Value.category]) rfl dX12_plot_87 (SX12_ownerOf  M4 x1) (fun M6 v7 => ?_)
              exact g_ireturn rfl (by decide) (by decide) dX12_plot_90 rfl rfl
            · refine g_aload_n 0 rfl rfl dX12_plot_77 ?_
              refine g_iload_n 1 rfl rfl dX12_plot_78 ?_
              refine g_callVI (y := miX12_walkOf) (As := [.int x1]) (rest := []) clX12 kd_87 rfl moX12_walkOf rfl mlX12_342 (by first | decide | omega) (by decide) (by simp [Value.category]) rfl dX12_plot_79 (SX12_walkOf  M4 x1) (fun M8 v9 => ?_)
              refine g_goto (tgt := 90) rfl dX12_plot_82 ?_
              exact g_ireturn rfl (by decide) (by decide) dX12_plot_90 rfl rfl
          · refine g_aload_n 0 rfl rfl dX12_plot_63 ?_
            refine g_getR (k := 10) (b := 96) clX12 kd_87 (by decide) rfl rfl flX12_52 dX12_plot_64 ?_
            refine g_iload_n 1 rfl rfl dX12_plot_67 ?_
            refine g_ald kd_96 dX12_plot_68 (fun hi10 => ?_)
            refine g_goto (tgt := 90) rfl dX12_plot_69 ?_
            exact g_ireturn rfl (by decide) (by decide) dX12_plot_90 rfl rfl
        · refine g_aload_n 0 rfl rfl dX12_plot_49 ?_
          refine g_getR (k := 9) (b := 95) clX12 kd_87 (by decide) rfl rfl flX12_49 dX12_plot_50 ?_
          refine g_iload_n 1 rfl rfl dX12_plot_53 ?_
          refine g_ald kd_95 dX12_plot_54 (fun hi11 => ?_)
          refine g_goto (tgt := 90) rfl dX12_plot_55 ?_
          exact g_ireturn rfl (by decide) (by decide) dX12_plot_90 rfl rfl
      · refine g_aload_n 0 rfl rfl dX12_plot_35 ?_
        refine g_getR (k := 8) (b := 94) clX12 kd_87 (by decide) rfl rfl flX12_46 dX12_plot_36 ?_
        refine g_iload_n 1 rfl rfl dX12_plot_39 ?_
        refine g_ald kd_94 dX12_plot_40 (fun hi12 => ?_)
        refine g_goto (tgt := 90) rfl dX12_plot_41 ?_
        exact g_ireturn rfl (by decide) (by decide) dX12_plot_90 rfl rfl
    · exact GO.pick [0] rfl <| SX12_plot_b25  M4
def fX12_worth_b30 (M : Mem)  : RS := bI (fX12_fail M 1) (fun M8 v9 => some (M8, .inr (some (.int v9))))
theorem SX12_worth_b30 (M : Mem)  : GO miX12_worth (4) 0 0 0 0 30 [(0, .ref 87)] [] M (fX12_worth_b30 M ) := by
  show GO miX12_worth (4) 0 0 0 0 30 [(0, .ref 87)] [] M (bI (fX12_fail M 1) (fun M8 v9 => some (M8, .inr (some (.int v9)))))
  refine g_aload_n 0 rfl rfl dX12_worth_30 ?_
  refine g_iconst (v := 1) (by decide) dX12_worth_31 ?_
  refine g_callVI (y := miX12_fail) (As := [.int 1]) (rest := []) clX12 kd_87 rfl moX12_fail rfl mlX12_290 (by first | decide | omega) (by decide) (by simp [Value.category]) rfl dX12_worth_32 (SX12_fail  M 1) (fun M8 v9 => ?_)
  exact g_ireturn rfl (by decide) (by decide) dX12_worth_35 rfl rfl
def fX12_worth (M : Mem) (x1 : Int32) (x2 : Int32) : RS := wr (si M 87 3 0) (fun M1 => bI (fX12_isHouse M1 x1) (fun M2 v3 => if v3 = 0 then fX12_worth_b30  M2 else bI (fX12_isPlot M2 x2) (fun M4 v5 => if v5 = 0 then fX12_worth_b30  M4 else bI (fX12_worthOf M4 x1 x2) (fun M6 v7 => some (M6, .inr (some (.int v7)))))))
theorem SX12_worth (M : Mem) (x1 : Int32) (x2 : Int32) : CTO (4) miX12_worth 0 0 [.ref 87, .int x1, .int x2] M (fX12_worth  M x1 x2) := by
  refine CTO.of (by decide) (by simp [lg_sl, Value.category]) ?_
  show GO miX12_worth (4) 0 0 0 0 0 [(0, .ref 87), (1, .int x1), (2, .int x2)] [] M (wr (si M 87 3 0) (fun M1 => bI (fX12_isHouse M1 x1) (fun M2 v3 => if v3 = 0 then fX12_worth_b30  M2 else bI (fX12_isPlot M2 x2) (fun M4 v5 => if v5 = 0 then fX12_worth_b30  M4 else bI (fX12_worthOf M4 x1 x2) (fun M6 v7 => some (M6, .inr (some (.int v7))))))))
  refine g_aload_n 0 rfl rfl dX12_worth_0 ?_
  refine g_iconst (v := 0) (by decide) dX12_worth_1 ?_
  refine g_putI (k := 3) clX12 kd_87 (by decide) rfl (by decide) rfl flX12_140 dX12_worth_2 ?_
  refine GO.wr (fun M1 => ?_)
  refine g_aload_n 0 rfl rfl dX12_worth_5 ?_
  refine g_iload_n 1 rfl rfl dX12_worth_6 ?_
  refine g_callVI (y := miX12_isHouse) (As := [.int x1]) (rest := []) clX12 kd_87 rfl moX12_isHouse rfl mlX12_371 (by first | decide | omega) (by decide) (by simp [Value.category]) rfl dX12_worth_7 (SX12_isHouse  M1 x1) (fun M2 v3 => ?_)
  refine g_if_eq (tgt := 30) rfl dX12_worth_10 (fun c => ?_) (fun c => ?_)
  · exact GO.pick [0] rfl <| SX12_worth_b30  M2
  · refine g_aload_n 0 rfl rfl dX12_worth_13 ?_
    refine g_iload_n 2 rfl rfl dX12_worth_14 ?_
    refine g_callVI (y := miX12_isPlot) (As := [.int x2]) (rest := []) clX12 kd_87 rfl moX12_isPlot rfl mlX12_380 (by first | decide | omega) (by decide) (by simp [Value.category]) rfl dX12_worth_15 (SX12_isPlot  M2 x2) (fun M4 v5 => ?_)
    refine g_if_eq (tgt := 30) rfl dX12_worth_18 (fun c => ?_) (fun c => ?_)
    · exact GO.pick [0] rfl <| SX12_worth_b30  M4
    · refine g_aload_n 0 rfl rfl dX12_worth_21 ?_
      refine g_iload_n 1 rfl rfl dX12_worth_22 ?_
      refine g_iload_n 2 rfl rfl dX12_worth_23 ?_
      refine g_callVI (y := miX12_worthOf) (As := [.int x1, .int x2]) (rest := []) clX12 kd_87 rfl moX12_worthOf rfl mlX12_362 (by first | decide | omega) (by decide) (by simp [Value.category]) rfl dX12_worth_24 (SX12_worthOf  M4 x1 x2) (fun M6 v7 => ?_)
      refine g_goto (tgt := 35) rfl dX12_worth_27 ?_
      exact g_ireturn rfl (by decide) (by decide) dX12_worth_35 rfl rfl
def fX12_harvest_b21 (M : Mem)  : RS := bI (fX12_fail M 1) (fun M12 v13 => some (M12, .inr (some (.int v13))))
theorem SX12_harvest_b21 (M : Mem)  : GO miX12_harvest (4) 0 0 0 0 21 [(0, .ref 87)] [] M (fX12_harvest_b21 M ) := by
  show GO miX12_harvest (4) 0 0 0 0 21 [(0, .ref 87)] [] M (bI (fX12_fail M 1) (fun M12 v13 => some (M12, .inr (some (.int v13)))))
  refine g_aload_n 0 rfl rfl dX12_harvest_21 ?_
  refine g_iconst (v := 1) (by decide) dX12_harvest_22 ?_
  refine g_callVI (y := miX12_fail) (As := [.int 1]) (rest := []) clX12 kd_87 rfl moX12_fail rfl mlX12_290 (by first | decide | omega) (by decide) (by simp [Value.category]) rfl dX12_harvest_23 (SX12_fail  M 1) (fun M12 v13 => ?_)
  exact g_ireturn rfl (by decide) (by decide) dX12_harvest_26 rfl rfl
def fX12_harvest (M : Mem) (x1 : Int32) (x2 : Int32) (x3 : Int32) : RS := wr (si M 87 3 0) (fun M1 => bI (fX12_isHouse M1 x1) (fun M2 v3 => if v3 = 0 then fX12_harvest_b21  M2 else bI (fX12_isPlot M2 x2) (fun M4 v5 => if v5 = 0 then fX12_harvest_b21  M4 else bI (fX12_isIn M4 (Int32.toInt64 x3) 0 999) (fun M6 v7 => if v7 = 0 then bI (fX12_fail M6 2) (fun M8 v9 => some (M8, .inr (some (.int v9)))) else bI (fX12_harvestOf M6 x1 x2 x3) (fun M10 v11 => some (M10, .inr (some (.int v11))))))))
theorem SX12_harvest (M : Mem) (x1 : Int32) (x2 : Int32) (x3 : Int32) : CTO (4) miX12_harvest 0 0 [.ref 87, .int x1, .int x2, .int x3] M (fX12_harvest  M x1 x2 x3) := by
  refine CTO.of (by decide) (by simp [lg_sl, Value.category]) ?_
  show GO miX12_harvest (4) 0 0 0 0 0 [(0, .ref 87), (1, .int x1), (2, .int x2), (3, .int x3)] [] M (wr (si M 87 3 0) (fun M1 => bI (fX12_isHouse M1 x1) (fun M2 v3 => if v3 = 0 then fX12_harvest_b21  M2 else bI (fX12_isPlot M2 x2) (fun M4 v5 => if v5 = 0 then fX12_harvest_b21  M4 else bI (fX12_isIn M4 (Int32.toInt64 x3) 0 999) (fun M6 v7 => if v7 = 0 then bI (fX12_fail M6 2) (fun M8 v9 => some (M8, .inr (some (.int v9)))) else bI (fX12_harvestOf M6 x1 x2 x3) (fun M10 v11 => some (M10, .inr (some (.int v11)))))))))
  refine g_aload_n 0 rfl rfl dX12_harvest_0 ?_
  refine g_iconst (v := 0) (by decide) dX12_harvest_1 ?_
  refine g_putI (k := 3) clX12 kd_87 (by decide) rfl (by decide) rfl flX12_140 dX12_harvest_2 ?_
  refine GO.wr (fun M1 => ?_)
  refine g_aload_n 0 rfl rfl dX12_harvest_5 ?_
  refine g_iload_n 1 rfl rfl dX12_harvest_6 ?_
  refine g_callVI (y := miX12_isHouse) (As := [.int x1]) (rest := []) clX12 kd_87 rfl moX12_isHouse rfl mlX12_371 (by first | decide | omega) (by decide) (by simp [Value.category]) rfl dX12_harvest_7 (SX12_isHouse  M1 x1) (fun M2 v3 => ?_)
  refine g_if_eq (tgt := 21) rfl dX12_harvest_10 (fun c => ?_) (fun c => ?_)
  · exact GO.pick [0] rfl <| SX12_harvest_b21  M2
  · refine g_aload_n 0 rfl rfl dX12_harvest_13 ?_
    refine g_iload_n 2 rfl rfl dX12_harvest_14 ?_
    refine g_callVI (y := miX12_isPlot) (As := [.int x2]) (rest := []) clX12 kd_87 rfl moX12_isPlot rfl mlX12_380 (by first | decide | omega) (by decide) (by simp [Value.category]) rfl dX12_harvest_15 (SX12_isPlot  M2 x2) (fun M4 v5 => ?_)
    refine g_if_ne (tgt := 27) rfl dX12_harvest_18 (fun c => ?_) (fun c => ?_)
    · refine g_iload_n 3 rfl rfl dX12_harvest_27 ?_
      refine g_i2l dX12_harvest_28 ?_
      refine g_lconst (v := 0) (by decide) dX12_harvest_29 ?_
      refine g_ldc2 (v := 999) coX12_385 dX12_harvest_30 ?_
      refine g_callSI (y := miX12_isIn) (As := [.long (Int32.toInt64 x3), .long 0, .long 999]) (rest := []) moX12_isIn rfl mlX12_143 (by first | decide | omega) (by decide) (by simp [Value.category]) rfl dX12_harvest_33 (SX12_isIn  M4 (Int32.toInt64 x3) 0 999) (fun M6 v7 => ?_)
      refine g_if_eq (tgt := 49) rfl dX12_harvest_36 (fun c => ?_) (fun c => ?_)
      · refine g_aload_n 0 rfl rfl dX12_harvest_49 ?_
        refine g_iconst (v := 2) (by decide) dX12_harvest_50 ?_
        refine g_callVI (y := miX12_fail) (As := [.int 2]) (rest := []) clX12 kd_87 rfl moX12_fail rfl mlX12_290 (by first | decide | omega) (by decide) (by simp [Value.category]) rfl dX12_harvest_51 (SX12_fail  M6 2) (fun M8 v9 => ?_)
        exact g_ireturn rfl (by decide) (by decide) dX12_harvest_54 rfl rfl
      · refine g_aload_n 0 rfl rfl dX12_harvest_39 ?_
        refine g_iload_n 1 rfl rfl dX12_harvest_40 ?_
        refine g_iload_n 2 rfl rfl dX12_harvest_41 ?_
        refine g_iload_n 3 rfl rfl dX12_harvest_42 ?_
        refine g_callVI (y := miX12_harvestOf) (As := [.int x1, .int x2, .int x3]) (rest := []) clX12 kd_87 rfl moX12_harvestOf rfl mlX12_365 (by first | decide | omega) (by decide) (by simp [Value.category]) rfl dX12_harvest_43 (SX12_harvestOf  M6 x1 x2 x3) (fun M10 v11 => ?_)
        refine g_goto (tgt := 54) rfl dX12_harvest_46 ?_
        exact g_ireturn rfl (by decide) (by decide) dX12_harvest_54 rfl rfl
    · exact GO.pick [0] rfl <| SX12_harvest_b21  M4
def fX12_refuse (M : Mem) (x1 : Int32) : RS := chk (inb x1 3) (chk (inb x1 3) (wr (si M 100 (ix x1) ((gi M 100 (ix x1)) + 1)) (fun M3 => some (M3, .inr (some (.int (-1)))))))
theorem SX12_refuse (M : Mem) (x1 : Int32) : CTO (0) miX12_refuse 0 0 [.ref 87, .int x1] M (fX12_refuse  M x1) := by
  refine CTO.of (by decide) (by simp [lg_sl, Value.category]) ?_
  show GO miX12_refuse (0) 0 0 0 0 0 [(0, .ref 87), (1, .int x1)] [] M (chk (inb x1 3) (chk (inb x1 3) (wr (si M 100 (ix x1) ((gi M 100 (ix x1)) + 1)) (fun M3 => some (M3, .inr (some (.int (-1))))))))
  refine g_aload_n 0 rfl rfl dX12_refuse_0 ?_
  refine g_getR (k := 14) (b := 100) clX12 kd_87 (by decide) rfl rfl flX12_63 dX12_refuse_1 ?_
  refine g_iload_n 1 rfl rfl dX12_refuse_4 ?_
  refine g_dup2_ri dX12_refuse_5 ?_
  refine g_ald kd_100 dX12_refuse_6 (fun hi1 => ?_)
  refine g_iconst (v := 1) (by decide) dX12_refuse_7 ?_
  refine g_iadd dX12_refuse_8 ?_
  refine g_ast kd_100 dX12_refuse_9 (fun hi2 => ?_)
  refine GO.wr (fun M3 => ?_)
  refine g_iconst (v := (-1)) (by decide) dX12_refuse_10 ?_
  exact g_ireturn rfl (by decide) (by decide) dX12_refuse_11 rfl rfl
def fX12_keep_b52 (M : Mem)  : RS := bV (fX12_pack 105 M (31 * (gi M 87 38))) (fun M1 => wr (si M1 87 38 ((gi M1 87 38) + 1)) (fun M3 => some (M3, .inr none)))
theorem SX12_keep_b52 (M : Mem)  : GO miX12_keep (1) 0 0 0 0 52 [(0, .ref 87)] [] M (fX12_keep_b52 M ) := by
  show GO miX12_keep (1) 0 0 0 0 52 [(0, .ref 87)] [] M (bV (fX12_pack 105 M (31 * (gi M 87 38))) (fun M1 => wr (si M1 87 38 ((gi M1 87 38) + 1)) (fun M3 => some (M3, .inr none))))
  refine g_aload_n 0 rfl rfl dX12_keep_52 ?_
  refine g_aload_n 0 rfl rfl dX12_keep_53 ?_
  refine g_getR (k := 30) (b := 105) clX12 kd_87 (by decide) rfl rfl flX12_82 dX12_keep_54 ?_
  refine g_bipush (v := 31) (by decide) dX12_keep_57 ?_
  refine g_aload_n 0 rfl rfl dX12_keep_59 ?_
  refine g_getI (k := 38) clX12 kd_87 (by decide) rfl flX12_320 dX12_keep_60 ?_
  refine g_imul dX12_keep_63 ?_
  refine g_callVV (y := miX12_pack) (As := [.ref 105, .int (31 * (gi M 87 38))]) (rest := []) clX12 kd_87 rfl moX12_pack rfl mlX12_387 (by first | decide | omega) (by decide) (by simp [Value.category]) rfl dX12_keep_64 (SX12_pack 105 (by decide) M (31 * (gi M 87 38))) (fun M1 => ?_)
  refine g_aload_n 0 rfl rfl dX12_keep_67 ?_
  refine g_dup_ref dX12_keep_68 ?_
  refine g_getI (k := 38) clX12 kd_87 (by decide) rfl flX12_320 dX12_keep_69 ?_
  refine g_iconst (v := 1) (by decide) dX12_keep_72 ?_
  refine g_iadd dX12_keep_73 ?_
  refine g_putI (k := 38) clX12 kd_87 (by decide) rfl (by decide) rfl flX12_320 dX12_keep_74 ?_
  refine GO.wr (fun M3 => ?_)
  exact g_vreturn rfl (by decide) (by decide) dX12_keep_77
def fX12_keep_b12 : Nat → Mem → Int32 → RS
  | 0 => fun _ _ => none
  | n + 1 => fun M x1 => if x1 < 1240 then chk (inb x1 1240) (chk (inb (x1 - 31) 1240) (wr (si M 105 (ix (x1 - 31)) (gi M 105 (ix x1))) (fun M7 => (fX12_keep_b12 n) M7 (x1 + 1)))) else wr (si M 87 38 ((gi M 87 38) - 1)) (fun M4 => fX12_keep_b52  M4)
theorem SX12_keep_b12 (n : Nat) : ∀ (M : Mem) (x1 : Int32), GO miX12_keep (1) 0 0 0 0 12 [(0, .ref 87), (1, .int x1)] [] M (fX12_keep_b12 n M x1) := by
  induction n with
  | zero => intro M x1 ; exact GO.none
  | succ n hrec12 =>
    intro M x1 
    show GO miX12_keep (1) 0 0 0 0 12 [(0, .ref 87), (1, .int x1)] [] M (if x1 < 1240 then chk (inb x1 1240) (chk (inb (x1 - 31) 1240) (wr (si M 105 (ix (x1 - 31)) (gi M 105 (ix x1))) (fun M7 => (fX12_keep_b12 n) M7 (x1 + 1)))) else wr (si M 87 38 ((gi M 87 38) - 1)) (fun M4 => fX12_keep_b52  M4))
    refine g_iload_n 1 rfl rfl dX12_keep_12 ?_
    refine g_aload_n 0 rfl rfl dX12_keep_13 ?_
    refine g_getR (k := 30) (b := 105) clX12 kd_87 (by decide) rfl rfl flX12_82 dX12_keep_14 ?_
    refine g_alen (v := 1240) kd_105 (by decide) (by decide) dX12_keep_17 ?_
    refine g_icmp_ge (tgt := 42) rfl dX12_keep_18 (fun c => ?_) (fun c => ?_)
    · refine g_aload_n 0 rfl rfl dX12_keep_42 ?_
      refine g_dup_ref dX12_keep_43 ?_
      refine g_getI (k := 38) clX12 kd_87 (by decide) rfl flX12_320 dX12_keep_44 ?_
      refine g_iconst (v := 1) (by decide) dX12_keep_47 ?_
      refine g_isub dX12_keep_48 ?_
      refine g_putI (k := 38) clX12 kd_87 (by decide) rfl (by decide) rfl flX12_320 dX12_keep_49 ?_
      refine GO.wr (fun M4 => ?_)
      exact GO.pick [0] rfl <| SX12_keep_b52  M4
    · refine g_aload_n 0 rfl rfl dX12_keep_21 ?_
      refine g_getR (k := 30) (b := 105) clX12 kd_87 (by decide) rfl rfl flX12_82 dX12_keep_22 ?_
      refine g_iload_n 1 rfl rfl dX12_keep_25 ?_
      refine g_bipush (v := 31) (by decide) dX12_keep_26 ?_
      refine g_isub dX12_keep_28 ?_
      refine g_aload_n 0 rfl rfl dX12_keep_29 ?_
      refine g_getR (k := 30) (b := 105) clX12 kd_87 (by decide) rfl rfl flX12_82 dX12_keep_30 ?_
      refine g_iload_n 1 rfl rfl dX12_keep_33 ?_
      refine g_ald kd_105 dX12_keep_34 (fun hi5 => ?_)
      refine g_ast kd_105 dX12_keep_35 (fun hi6 => ?_)
      refine GO.wr (fun M7 => ?_)
      refine g_iinc (v := x1 + 1) (L' := [(1, .int (x1 + 1)), (0, .ref 87)]) 1 rfl rfl (by decide) rfl dX12_keep_36 ?_
      refine g_goto (tgt := 12) rfl dX12_keep_39 ?_
      exact GO.pick [1, 0] rfl <| hrec12 M7 (x1 + 1)
def fX12_keep (M : Mem)  : RS := if (gi M 87 38) = 40 then fX12_keep_b12  FU M 31 else fX12_keep_b52  M
theorem SX12_keep (M : Mem)  : CTO (1) miX12_keep 0 0 [.ref 87] M (fX12_keep  M ) := by
  refine CTO.of (by decide) (by simp [lg_sl, Value.category]) ?_
  show GO miX12_keep (1) 0 0 0 0 0 [(0, .ref 87)] [] M (if (gi M 87 38) = 40 then fX12_keep_b12  FU M 31 else fX12_keep_b52  M)
  refine g_aload_n 0 rfl rfl dX12_keep_0 ?_
  refine g_getI (k := 38) clX12 kd_87 (by decide) rfl flX12_320 dX12_keep_1 ?_
  refine g_bipush (v := 40) (by decide) dX12_keep_4 ?_
  refine g_icmp_ne (tgt := 52) rfl dX12_keep_6 (fun c => ?_) (fun c => ?_)
  · exact GO.pick [0] rfl <| SX12_keep_b52  M
  · refine g_bipush (v := 31) (by decide) dX12_keep_9 ?_
    refine g_istore_n (L' := [(1, .int 31), (0, .ref 87)]) (by decide) rfl rfl dX12_keep_11 ?_
    exact GO.pick [1, 0] rfl <| SX12_keep_b12  FU M 31
def fX12_drawOf (M : Mem) (x1 : Int32) : RS := wr (si M 87 43 (((gi M 87 43) * 1103515245) + 12345)) (fun M1 => chk (!decide (x1 = 0)) (some (M1, .inr (some (.int ((((gi M1 87 43) >>> ((16 : Int32) &&& 31)) &&& 32767) - (((gi M1 87 43) >>> ((16 : Int32) &&& 31)) &&& 32767) / x1 * x1))))))
theorem SX12_drawOf (M : Mem) (x1 : Int32) : CTO (0) miX12_drawOf 0 0 [.ref 87, .int x1] M (fX12_drawOf  M x1) := by
  refine CTO.of (by decide) (by simp [lg_sl, Value.category]) ?_
  show GO miX12_drawOf (0) 0 0 0 0 0 [(0, .ref 87), (1, .int x1)] [] M (wr (si M 87 43 (((gi M 87 43) * 1103515245) + 12345)) (fun M1 => chk (!decide (x1 = 0)) (some (M1, .inr (some (.int ((((gi M1 87 43) >>> ((16 : Int32) &&& 31)) &&& 32767) - (((gi M1 87 43) >>> ((16 : Int32) &&& 31)) &&& 32767) / x1 * x1)))))))
  refine g_aload_n 0 rfl rfl dX12_drawOf_0 ?_
  refine g_aload_n 0 rfl rfl dX12_drawOf_1 ?_
  refine g_getI (k := 43) clX12 kd_87 (by decide) rfl flX12_391 dX12_drawOf_2 ?_
  refine g_ldc_w (v := 1103515245) coX12_394 dX12_drawOf_5 ?_
  refine g_imul dX12_drawOf_8 ?_
  refine g_sipush (v := 12345) (by decide) dX12_drawOf_9 ?_
  refine g_iadd dX12_drawOf_12 ?_
  refine g_putI (k := 43) clX12 kd_87 (by decide) rfl (by decide) rfl flX12_391 dX12_drawOf_13 ?_
  refine GO.wr (fun M1 => ?_)
  refine g_aload_n 0 rfl rfl dX12_drawOf_16 ?_
  refine g_getI (k := 43) clX12 kd_87 (by decide) rfl flX12_391 dX12_drawOf_17 ?_
  refine g_bipush (v := 16) (by decide) dX12_drawOf_20 ?_
  refine g_ishr dX12_drawOf_22 ?_
  refine g_sipush (v := 32767) (by decide) dX12_drawOf_23 ?_
  refine g_iand dX12_drawOf_26 ?_
  refine g_iload_n 1 rfl rfl dX12_drawOf_27 ?_
  refine GO.chk fun hy => ?_
  refine g_irem (by simpa using hy) dX12_drawOf_28 ?_
  exact g_ireturn rfl (by decide) (by decide) dX12_drawOf_29 rfl rfl
def fX12_drawLots_b7 : Nat → Mem → Int32 → RS
  | 0 => fun _ _ => none
  | n + 1 => fun M x1 => if x1 < (gi M 90 0) then bI (fX12_drawOf M 2) (fun M4 v5 => wr (si M4 87 35 ((gi M 87 35) ||| (v5 <<< (x1 &&& 31)))) (fun M6 => (fX12_drawLots_b7 n) M6 (x1 + 1))) else bV (fX12_takeShares M) (fun M2 => some (M2, .inr none))
theorem SX12_drawLots_b7 (n : Nat) : ∀ (M : Mem) (x1 : Int32), GO miX12_drawLots (5) 0 0 0 0 7 [(0, .ref 87), (1, .int x1)] [] M (fX12_drawLots_b7 n M x1) := by
  induction n with
  | zero => intro M x1 ; exact GO.none
  | succ n hrec7 =>
    intro M x1 
    show GO miX12_drawLots (5) 0 0 0 0 7 [(0, .ref 87), (1, .int x1)] [] M (if x1 < (gi M 90 0) then bI (fX12_drawOf M 2) (fun M4 v5 => wr (si M4 87 35 ((gi M 87 35) ||| (v5 <<< (x1 &&& 31)))) (fun M6 => (fX12_drawLots_b7 n) M6 (x1 + 1))) else bV (fX12_takeShares M) (fun M2 => some (M2, .inr none)))
    refine g_iload_n 1 rfl rfl dX12_drawLots_7 ?_
    refine g_aload_n 0 rfl rfl dX12_drawLots_8 ?_
    refine g_getR (k := 4) (b := 90) clX12 kd_87 (by decide) rfl rfl flX12_35 dX12_drawLots_9 ?_
    refine g_iconst (v := 0) (by decide) dX12_drawLots_12 ?_
    refine g_aldL (j := 0) kd_90 (by decide) (by decide) dX12_drawLots_13 ?_
    refine g_icmp_ge (tgt := 39) rfl dX12_drawLots_14 (fun c => ?_) (fun c => ?_)
    · refine g_aload_n 0 rfl rfl dX12_drawLots_39 ?_
      refine g_callVV (y := miX12_takeShares) (As := []) (rest := []) clX12 kd_87 rfl moX12_takeShares rfl mlX12_317 (by first | decide | omega) (by decide) (by simp [Value.category]) rfl dX12_drawLots_40 (SX12_takeShares  M) (fun M2 => ?_)
      exact g_vreturn rfl (by decide) (by decide) dX12_drawLots_43
    · refine g_aload_n 0 rfl rfl dX12_drawLots_17 ?_
      refine g_dup_ref dX12_drawLots_18 ?_
      refine g_getI (k := 35) clX12 kd_87 (by decide) rfl flX12_314 dX12_drawLots_19 ?_
      refine g_aload_n 0 rfl rfl dX12_drawLots_22 ?_
      refine g_iconst (v := 2) (by decide) dX12_drawLots_23 ?_
      refine g_callVI (y := miX12_drawOf) (As := [.int 2]) (rest := [.int (gi M 87 35), .ref 87]) clX12 kd_87 rfl moX12_drawOf rfl mlX12_395 (by first | decide | omega) (by decide) (by simp [Value.category]) rfl dX12_drawLots_24 (SX12_drawOf  M 2) (fun M4 v5 => ?_)
      refine g_iload_n 1 rfl rfl dX12_drawLots_27 ?_
      refine g_ishl dX12_drawLots_28 ?_
      refine g_ior dX12_drawLots_29 ?_
      refine g_putI (k := 35) clX12 kd_87 (by decide) rfl (by decide) rfl flX12_314 dX12_drawLots_30 ?_
      refine GO.wr (fun M6 => ?_)
      refine g_iinc (v := x1 + 1) (L' := [(1, .int (x1 + 1)), (0, .ref 87)]) 1 rfl rfl (by decide) rfl dX12_drawLots_33 ?_
      refine g_goto (tgt := 7) rfl dX12_drawLots_36 ?_
      exact GO.pick [1, 0] rfl <| hrec7 M6 (x1 + 1)
def fX12_drawLots (M : Mem)  : RS := wr (si M 87 35 0) (fun M1 => fX12_drawLots_b7  FU M1 0)
theorem SX12_drawLots (M : Mem)  : CTO (5) miX12_drawLots 0 0 [.ref 87] M (fX12_drawLots  M ) := by
  refine CTO.of (by decide) (by simp [lg_sl, Value.category]) ?_
  show GO miX12_drawLots (5) 0 0 0 0 0 [(0, .ref 87)] [] M (wr (si M 87 35 0) (fun M1 => fX12_drawLots_b7  FU M1 0))
  refine g_aload_n 0 rfl rfl dX12_drawLots_0 ?_
  refine g_iconst (v := 0) (by decide) dX12_drawLots_1 ?_
  refine g_putI (k := 35) clX12 kd_87 (by decide) rfl (by decide) rfl flX12_314 dX12_drawLots_2 ?_
  refine GO.wr (fun M1 => ?_)
  refine g_iconst (v := 0) (by decide) dX12_drawLots_5 ?_
  refine g_istore_n (L' := [(1, .int 0), (0, .ref 87)]) (by decide) rfl rfl dX12_drawLots_6 ?_
  exact GO.pick [1, 0] rfl <| SX12_drawLots_b7  FU M1 0
def fX12_lots (M : Mem) (x1 : Int32) : RS := wr (si M 87 3 0) (fun M1 => bV (fX12_keep M1) (fun M2 => wr (si M2 87 43 x1) (fun M4 => bV (fX12_drawLots M4) (fun M5 => some (M5, .inr (some (.int (gi M5 87 35))))))))
theorem SX12_lots (M : Mem) (x1 : Int32) : CTO (6) miX12_lots 0 0 [.ref 87, .int x1] M (fX12_lots  M x1) := by
  refine CTO.of (by decide) (by simp [lg_sl, Value.category]) ?_
  show GO miX12_lots (6) 0 0 0 0 0 [(0, .ref 87), (1, .int x1)] [] M (wr (si M 87 3 0) (fun M1 => bV (fX12_keep M1) (fun M2 => wr (si M2 87 43 x1) (fun M4 => bV (fX12_drawLots M4) (fun M5 => some (M5, .inr (some (.int (gi M5 87 35)))))))))
  refine g_aload_n 0 rfl rfl dX12_lots_0 ?_
  refine g_iconst (v := 0) (by decide) dX12_lots_1 ?_
  refine g_putI (k := 3) clX12 kd_87 (by decide) rfl (by decide) rfl flX12_140 dX12_lots_2 ?_
  refine GO.wr (fun M1 => ?_)
  refine g_aload_n 0 rfl rfl dX12_lots_5 ?_
  refine g_callVV (y := miX12_keep) (As := []) (rest := []) clX12 kd_87 rfl moX12_keep rfl mlX12_398 (by first | decide | omega) (by decide) (by simp [Value.category]) rfl dX12_lots_6 (SX12_keep  M1) (fun M2 => ?_)
  refine g_aload_n 0 rfl rfl dX12_lots_9 ?_
  refine g_iload_n 1 rfl rfl dX12_lots_10 ?_
  refine g_putI (k := 43) clX12 kd_87 (by decide) rfl (by decide) rfl flX12_391 dX12_lots_11 ?_
  refine GO.wr (fun M4 => ?_)
  refine g_aload_n 0 rfl rfl dX12_lots_14 ?_
  refine g_callVV (y := miX12_drawLots) (As := []) (rest := []) clX12 kd_87 rfl moX12_drawLots rfl mlX12_401 (by first | decide | omega) (by decide) (by simp [Value.category]) rfl dX12_lots_15 (SX12_drawLots  M4) (fun M5 => ?_)
  refine g_aload_n 0 rfl rfl dX12_lots_18 ?_
  refine g_getI (k := 35) clX12 kd_87 (by decide) rfl flX12_314 dX12_lots_19 ?_
  exact g_ireturn rfl (by decide) (by decide) dX12_lots_22 rfl rfl
def fX12_turn (M : Mem) (x1 : Int32) : RS := wr (si M 87 3 0) (fun M1 => bI (fX12_isHouse M1 x1) (fun M2 v3 => if v3 = 0 then bI (fX12_fail M2 1) (fun M10 v11 => some (M10, .inr (some (.int v11)))) else bV (fX12_keep M2) (fun M4 => wr (si M4 87 35 ((gi M4 87 35) ^^^ ((1 : Int32) <<< (x1 &&& 31)))) (fun M6 => wr (si M6 87 34 ((gi M6 87 34) + 1)) (fun M7 => bV (fX12_takeShares M7) (fun M8 => some (M8, .inr (some (.int (((gi M8 87 35) >>> (x1 &&& 31)) &&& 1))))))))))
theorem SX12_turn (M : Mem) (x1 : Int32) : CTO (5) miX12_turn 0 0 [.ref 87, .int x1] M (fX12_turn  M x1) := by
  refine CTO.of (by decide) (by simp [lg_sl, Value.category]) ?_
  show GO miX12_turn (5) 0 0 0 0 0 [(0, .ref 87), (1, .int x1)] [] M (wr (si M 87 3 0) (fun M1 => bI (fX12_isHouse M1 x1) (fun M2 v3 => if v3 = 0 then bI (fX12_fail M2 1) (fun M10 v11 => some (M10, .inr (some (.int v11)))) else bV (fX12_keep M2) (fun M4 => wr (si M4 87 35 ((gi M4 87 35) ^^^ ((1 : Int32) <<< (x1 &&& 31)))) (fun M6 => wr (si M6 87 34 ((gi M6 87 34) + 1)) (fun M7 => bV (fX12_takeShares M7) (fun M8 => some (M8, .inr (some (.int (((gi M8 87 35) >>> (x1 &&& 31)) &&& 1)))))))))))
  refine g_aload_n 0 rfl rfl dX12_turn_0 ?_
  refine g_iconst (v := 0) (by decide) dX12_turn_1 ?_
  refine g_putI (k := 3) clX12 kd_87 (by decide) rfl (by decide) rfl flX12_140 dX12_turn_2 ?_
  refine GO.wr (fun M1 => ?_)
  refine g_aload_n 0 rfl rfl dX12_turn_5 ?_
  refine g_iload_n 1 rfl rfl dX12_turn_6 ?_
  refine g_callVI (y := miX12_isHouse) (As := [.int x1]) (rest := []) clX12 kd_87 rfl moX12_isHouse rfl mlX12_371 (by first | decide | omega) (by decide) (by simp [Value.category]) rfl dX12_turn_7 (SX12_isHouse  M1 x1) (fun M2 v3 => ?_)
  refine g_if_ne (tgt := 19) rfl dX12_turn_10 (fun c => ?_) (fun c => ?_)
  · refine g_aload_n 0 rfl rfl dX12_turn_19 ?_
    refine g_callVV (y := miX12_keep) (As := []) (rest := []) clX12 kd_87 rfl moX12_keep rfl mlX12_398 (by first | decide | omega) (by decide) (by simp [Value.category]) rfl dX12_turn_20 (SX12_keep  M2) (fun M4 => ?_)
    refine g_aload_n 0 rfl rfl dX12_turn_23 ?_
    refine g_dup_ref dX12_turn_24 ?_
    refine g_getI (k := 35) clX12 kd_87 (by decide) rfl flX12_314 dX12_turn_25 ?_
    refine g_iconst (v := 1) (by decide) dX12_turn_28 ?_
    refine g_iload_n 1 rfl rfl dX12_turn_29 ?_
    refine g_ishl dX12_turn_30 ?_
    refine g_ixor dX12_turn_31 ?_
    refine g_putI (k := 35) clX12 kd_87 (by decide) rfl (by decide) rfl flX12_314 dX12_turn_32 ?_
    refine GO.wr (fun M6 => ?_)
    refine g_aload_n 0 rfl rfl dX12_turn_35 ?_
    refine g_dup_ref dX12_turn_36 ?_
    refine g_getI (k := 34) clX12 kd_87 (by decide) rfl flX12_311 dX12_turn_37 ?_
    refine g_iconst (v := 1) (by decide) dX12_turn_40 ?_
    refine g_iadd dX12_turn_41 ?_
    refine g_putI (k := 34) clX12 kd_87 (by decide) rfl (by decide) rfl flX12_311 dX12_turn_42 ?_
    refine GO.wr (fun M7 => ?_)
    refine g_aload_n 0 rfl rfl dX12_turn_45 ?_
    refine g_callVV (y := miX12_takeShares) (As := []) (rest := []) clX12 kd_87 rfl moX12_takeShares rfl mlX12_317 (by first | decide | omega) (by decide) (by simp [Value.category]) rfl dX12_turn_46 (SX12_takeShares  M7) (fun M8 => ?_)
    refine g_aload_n 0 rfl rfl dX12_turn_49 ?_
    refine g_getI (k := 35) clX12 kd_87 (by decide) rfl flX12_314 dX12_turn_50 ?_
    refine g_iload_n 1 rfl rfl dX12_turn_53 ?_
    refine g_ishr dX12_turn_54 ?_
    refine g_iconst (v := 1) (by decide) dX12_turn_55 ?_
    refine g_iand dX12_turn_56 ?_
    exact g_ireturn rfl (by decide) (by decide) dX12_turn_57 rfl rfl
  · refine g_aload_n 0 rfl rfl dX12_turn_13 ?_
    refine g_iconst (v := 1) (by decide) dX12_turn_14 ?_
    refine g_callVI (y := miX12_fail) (As := [.int 1]) (rest := []) clX12 kd_87 rfl moX12_fail rfl mlX12_290 (by first | decide | omega) (by decide) (by simp [Value.category]) rfl dX12_turn_15 (SX12_fail  M2 1) (fun M10 v11 => ?_)
    exact g_ireturn rfl (by decide) (by decide) dX12_turn_18 rfl rfl
def fX12_moveTo_b40 : Nat → Mem → Int32 → Int32 → Int32 → Int32 → RS
  | 0 => fun _ _ _ _ _ => none
  | n + 1 => fun M x1 x2 x3 x4 => if x2 < x4 then chk (inb (x4 - 1) 8) (chk (inb x4 8) (wr (si M 104 (ix x4) (gi M 104 (ix (x4 - 1)))) (fun M12 => (fX12_moveTo_b40 n) M12 x1 x2 x3 (x4 + (-1))))) else chk (inb x2 8) (wr (si M 104 (ix x2) x1) (fun M7 => bV (fX12_takeShares M7) (fun M8 => some (M8, .inr (some (.int x3))))))
theorem SX12_moveTo_b40 (n : Nat) : ∀ (M : Mem) (x1 : Int32) (x2 : Int32) (x3 : Int32) (x4 : Int32), GO miX12_moveTo (5) 0 0 0 0 40 [(0, .ref 87), (1, .int x1), (2, .int x2), (3, .int x3), (4, .int x4)] [] M (fX12_moveTo_b40 n M x1 x2 x3 x4) := by
  induction n with
  | zero => intro M x1 x2 x3 x4 ; exact GO.none
  | succ n hrec40 =>
    intro M x1 x2 x3 x4 
    show GO miX12_moveTo (5) 0 0 0 0 40 [(0, .ref 87), (1, .int x1), (2, .int x2), (3, .int x3), (4, .int x4)] [] M (if x2 < x4 then chk (inb (x4 - 1) 8) (chk (inb x4 8) (wr (si M 104 (ix x4) (gi M 104 (ix (x4 - 1)))) (fun M12 => (fX12_moveTo_b40 n) M12 x1 x2 x3 (x4 + (-1))))) else chk (inb x2 8) (wr (si M 104 (ix x2) x1) (fun M7 => bV (fX12_takeShares M7) (fun M8 => some (M8, .inr (some (.int x3)))))))
    refine g_iload 4 rfl dX12_moveTo_40 ?_
    refine g_iload_n 2 rfl rfl dX12_moveTo_42 ?_
    refine g_icmp_le (tgt := 68) rfl dX12_moveTo_43 (fun c => ?_) (fun c => ?_)
    · refine g_aload_n 0 rfl rfl dX12_moveTo_68 ?_
      refine g_getR (k := 29) (b := 104) clX12 kd_87 (by decide) rfl rfl flX12_79 dX12_moveTo_69 ?_
      refine g_iload_n 2 rfl rfl dX12_moveTo_72 ?_
      refine g_iload_n 1 rfl rfl dX12_moveTo_73 ?_
      refine g_ast kd_104 dX12_moveTo_74 (fun hi6 => ?_)
      refine GO.wr (fun M7 => ?_)
      refine g_aload_n 0 rfl rfl dX12_moveTo_75 ?_
      refine g_callVV (y := miX12_takeShares) (As := []) (rest := []) clX12 kd_87 rfl moX12_takeShares rfl mlX12_317 (by first | decide | omega) (by decide) (by simp [Value.category]) rfl dX12_moveTo_76 (SX12_takeShares  M7) (fun M8 => ?_)
      refine g_iload_n 3 rfl rfl dX12_moveTo_79 ?_
      exact g_ireturn rfl (by decide) (by decide) dX12_moveTo_80 rfl rfl
    · refine g_aload_n 0 rfl rfl dX12_moveTo_46 ?_
      refine g_getR (k := 29) (b := 104) clX12 kd_87 (by decide) rfl rfl flX12_79 dX12_moveTo_47 ?_
      refine g_iload 4 rfl dX12_moveTo_50 ?_
      refine g_aload_n 0 rfl rfl dX12_moveTo_52 ?_
      refine g_getR (k := 29) (b := 104) clX12 kd_87 (by decide) rfl rfl flX12_79 dX12_moveTo_53 ?_
      refine g_iload 4 rfl dX12_moveTo_56 ?_
      refine g_iconst (v := 1) (by decide) dX12_moveTo_58 ?_
      refine g_isub dX12_moveTo_59 ?_
      refine g_ald kd_104 dX12_moveTo_60 (fun hi10 => ?_)
      refine g_ast kd_104 dX12_moveTo_61 (fun hi11 => ?_)
      refine GO.wr (fun M12 => ?_)
      refine g_iinc (v := x4 + (-1)) (L' := [(4, .int (x4 + (-1))), (0, .ref 87), (1, .int x1), (2, .int x2), (3, .int x3)]) 4 rfl (congrArg _ (by decide)) (by decide) rfl dX12_moveTo_62 ?_
      refine g_goto (tgt := 40) rfl dX12_moveTo_65 ?_
      exact GO.pick [1, 2, 3, 4, 0] rfl <| hrec40 M12 x1 x2 x3 (x4 + (-1))
def fX12_moveTo_b9 : Nat → Mem → Int32 → Int32 → Int32 → Int32 → RS
  | 0 => fun _ _ _ _ _ => none
  | n + 1 => fun M x1 x2 x3 x4 => if x4 < x2 then chk (inb (x4 + 1) 8) (chk (inb x4 8) (wr (si M 104 (ix x4) (gi M 104 (ix (x4 + 1)))) (fun M5 => (fX12_moveTo_b9 n) M5 x1 x2 x3 (x4 + 1)))) else fX12_moveTo_b40  FU M x1 x2 x3 x3
theorem SX12_moveTo_b9 (n : Nat) : ∀ (M : Mem) (x1 : Int32) (x2 : Int32) (x3 : Int32) (x4 : Int32), GO miX12_moveTo (5) 0 0 0 0 9 [(0, .ref 87), (1, .int x1), (2, .int x2), (3, .int x3), (4, .int x4)] [] M (fX12_moveTo_b9 n M x1 x2 x3 x4) := by
  induction n with
  | zero => intro M x1 x2 x3 x4 ; exact GO.none
  | succ n hrec9 =>
    intro M x1 x2 x3 x4 
    show GO miX12_moveTo (5) 0 0 0 0 9 [(0, .ref 87), (1, .int x1), (2, .int x2), (3, .int x3), (4, .int x4)] [] M (if x4 < x2 then chk (inb (x4 + 1) 8) (chk (inb x4 8) (wr (si M 104 (ix x4) (gi M 104 (ix (x4 + 1)))) (fun M5 => (fX12_moveTo_b9 n) M5 x1 x2 x3 (x4 + 1)))) else fX12_moveTo_b40  FU M x1 x2 x3 x3)
    refine g_iload 4 rfl dX12_moveTo_9 ?_
    refine g_iload_n 2 rfl rfl dX12_moveTo_11 ?_
    refine g_icmp_ge (tgt := 37) rfl dX12_moveTo_12 (fun c => ?_) (fun c => ?_)
    · refine g_iload_n 3 rfl rfl dX12_moveTo_37 ?_
      refine g_istore (L' := [(4, .int x3), (0, .ref 87), (1, .int x1), (2, .int x2), (3, .int x3)]) (by decide) rfl dX12_moveTo_38 ?_
      exact GO.pick [1, 2, 3, 4, 0] rfl <| SX12_moveTo_b40  FU M x1 x2 x3 x3
    · refine g_aload_n 0 rfl rfl dX12_moveTo_15 ?_
      refine g_getR (k := 29) (b := 104) clX12 kd_87 (by decide) rfl rfl flX12_79 dX12_moveTo_16 ?_
      refine g_iload 4 rfl dX12_moveTo_19 ?_
      refine g_aload_n 0 rfl rfl dX12_moveTo_21 ?_
      refine g_getR (k := 29) (b := 104) clX12 kd_87 (by decide) rfl rfl flX12_79 dX12_moveTo_22 ?_
      refine g_iload 4 rfl dX12_moveTo_25 ?_
      refine g_iconst (v := 1) (by decide) dX12_moveTo_27 ?_
      refine g_iadd dX12_moveTo_28 ?_
      refine g_ald kd_104 dX12_moveTo_29 (fun hi3 => ?_)
      refine g_ast kd_104 dX12_moveTo_30 (fun hi4 => ?_)
      refine GO.wr (fun M5 => ?_)
      refine g_iinc (v := x4 + 1) (L' := [(4, .int (x4 + 1)), (0, .ref 87), (1, .int x1), (2, .int x2), (3, .int x3)]) 4 rfl rfl (by decide) rfl dX12_moveTo_31 ?_
      refine g_goto (tgt := 9) rfl dX12_moveTo_34 ?_
      exact GO.pick [1, 2, 3, 4, 0] rfl <| hrec9 M5 x1 x2 x3 (x4 + 1)
def fX12_moveTo (M : Mem) (x1 : Int32) (x2 : Int32) : RS := bI (fX12_placeOf M x1) (fun M1 v2 => fX12_moveTo_b9  FU M1 x1 x2 v2 v2)
theorem SX12_moveTo (M : Mem) (x1 : Int32) (x2 : Int32) : CTO (5) miX12_moveTo 0 0 [.ref 87, .int x1, .int x2] M (fX12_moveTo  M x1 x2) := by
  refine CTO.of (by decide) (by simp [lg_sl, Value.category]) ?_
  show GO miX12_moveTo (5) 0 0 0 0 0 [(0, .ref 87), (1, .int x1), (2, .int x2)] [] M (bI (fX12_placeOf M x1) (fun M1 v2 => fX12_moveTo_b9  FU M1 x1 x2 v2 v2))
  refine g_aload_n 0 rfl rfl dX12_moveTo_0 ?_
  refine g_iload_n 1 rfl rfl dX12_moveTo_1 ?_
  refine g_callVI (y := miX12_placeOf) (As := [.int x1]) (rest := []) clX12 kd_87 rfl moX12_placeOf rfl mlX12_374 (by first | decide | omega) (by decide) (by simp [Value.category]) rfl dX12_moveTo_2 (SX12_placeOf  M x1) (fun M1 v2 => ?_)
  refine g_istore_n (L' := [(3, .int v2), (0, .ref 87), (1, .int x1), (2, .int x2)]) (by decide) rfl rfl dX12_moveTo_5 ?_
  refine g_iload_n 0 rfl rfl dX12_moveTo_6 ?_
  refine g_istore (L' := [(4, .int v2), (3, .int v2), (0, .ref 87), (1, .int x1), (2, .int x2)]) (by decide) rfl dX12_moveTo_7 ?_
  exact GO.pick [2, 3, 4, 1, 0] rfl <| SX12_moveTo_b9  FU M1 x1 x2 v2 v2

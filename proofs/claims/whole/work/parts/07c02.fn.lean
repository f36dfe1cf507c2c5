def fX10_valueOf (M : Mem) (x1 : Int32) (x2 : Int32) : RS := bI (fX10_spells 0 M x1 x2) (fun M1 v2 => if v2 = 0 then bI (fX10_spells 1 M1 x1 x2) (fun M3 v4 => if v4 = 0 then bI (fX10_spells 2 M3 x1 x2) (fun M5 v6 => if v6 = 0 then bI (fX10_spells 3 M5 x1 x2) (fun M7 v8 => if v8 = 0 then bI (fX10_spells 4 M7 x1 x2) (fun M9 v10 => if v10 = 0 then bI (fX10_spells 5 M9 x1 x2) (fun M11 v12 => if v12 = 0 then bI (fX10_spells 6 M11 x1 x2) (fun M13 v14 => if v14 = 0 then some (M13, .inr (some (.int 137))) else some (M13, .inr (some (.int 146)))) else some (M11, .inr (some (.int 145)))) else some (M9, .inr (some (.int 144)))) else some (M7, .inr (some (.int 143)))) else some (M5, .inr (some (.int 142)))) else some (M3, .inr (some (.int 141)))) else some (M1, .inr (some (.int 140))))
theorem SX10_valueOf (M : Mem) (x1 : Int32) (x2 : Int32) : CTO (9) miX10_valueOf 0 0 [.ref 18, .int x1, .int x2] M (fX10_valueOf  M x1 x2) := by
  refine CTO.of (by decide) (by simp [lg_sl, Value.category]) ?_
  show GO miX10_valueOf (9) 0 0 0 0 0 [(0, .ref 18), (1, .int x1), (2, .int x2)] [] M (bI (fX10_spells 0 M x1 x2) (fun M1 v2 => if v2 = 0 then bI (fX10_spells 1 M1 x1 x2) (fun M3 v4 => if v4 = 0 then bI (fX10_spells 2 M3 x1 x2) (fun M5 v6 => if v6 = 0 then bI (fX10_spells 3 M5 x1 x2) (fun M7 v8 => if v8 = 0 then bI (fX10_spells 4 M7 x1 x2) (fun M9 v10 => if v10 = 0 then bI (fX10_spells 5 M9 x1 x2) (fun M11 v12 => if v12 = 0 then bI (fX10_spells 6 M11 x1 x2) (fun M13 v14 => if v14 = 0 then some (M13, .inr (some (.int 137))) else some (M13, .inr (some (.int 146)))) else some (M11, .inr (some (.int 145)))) else some (M9, .inr (some (.int 144)))) else some (M7, .inr (some (.int 143)))) else some (M5, .inr (some (.int 142)))) else some (M3, .inr (some (.int 141)))) else some (M1, .inr (some (.int 140)))))
  refine g_aload_n 0 rfl rfl dX10_valueOf_0 ?_
  refine g_iload_n 1 rfl rfl dX10_valueOf_1 ?_
  refine g_iload_n 2 rfl rfl dX10_valueOf_2 ?_
  refine g_ldcS (j := 0) (by decide) dX10_valueOf_3 ?_
  refine g_callVI (y := miX10_spells) (As := [.int x1, .int x2, .ref (1000 + 0)]) (rest := []) clX10 kd_18 rfl moX10_spells rfl mlX10_77 (by first | decide | omega) (by decide) (by simp [Value.category]) rfl dX10_valueOf_5 (SX10_spells 0 (by decide) M x1 x2) (fun M1 v2 => ?_)
  refine g_if_eq (tgt := 15) rfl dX10_valueOf_8 (fun c => ?_) (fun c => ?_)
  · refine g_aload_n 0 rfl rfl dX10_valueOf_15 ?_
    refine g_iload_n 1 rfl rfl dX10_valueOf_16 ?_
    refine g_iload_n 2 rfl rfl dX10_valueOf_17 ?_
    refine g_ldcS (j := 1) (by decide) dX10_valueOf_18 ?_
    refine g_callVI (y := miX10_spells) (As := [.int x1, .int x2, .ref (1000 + 1)]) (rest := []) clX10 kd_18 rfl moX10_spells rfl mlX10_77 (by first | decide | omega) (by decide) (by simp [Value.category]) rfl dX10_valueOf_20 (SX10_spells 1 (by decide) M1 x1 x2) (fun M3 v4 => ?_)
    refine g_if_eq (tgt := 30) rfl dX10_valueOf_23 (fun c => ?_) (fun c => ?_)
    · refine g_aload_n 0 rfl rfl dX10_valueOf_30 ?_
      refine g_iload_n 1 rfl rfl dX10_valueOf_31 ?_
      refine g_iload_n 2 rfl rfl dX10_valueOf_32 ?_
      refine g_ldcS (j := 2) (by decide) dX10_valueOf_33 ?_
      refine g_callVI (y := miX10_spells) (As := [.int x1, .int x2, .ref (1000 + 2)]) (rest := []) clX10 kd_18 rfl moX10_spells rfl mlX10_77 (by first | decide | omega) (by decide) (by simp [Value.category]) rfl dX10_valueOf_35 (SX10_spells 2 (by decide) M3 x1 x2) (fun M5 v6 => ?_)
      refine g_if_eq (tgt := 45) rfl dX10_valueOf_38 (fun c => ?_) (fun c => ?_)
      · refine g_aload_n 0 rfl rfl dX10_valueOf_45 ?_
        refine g_iload_n 1 rfl rfl dX10_valueOf_46 ?_
        refine g_iload_n 2 rfl rfl dX10_valueOf_47 ?_
        refine g_ldcS (j := 3) (by decide) dX10_valueOf_48 ?_
        refine g_callVI (y := miX10_spells) (As := [.int x1, .int x2, .ref (1000 + 3)]) (rest := []) clX10 kd_18 rfl moX10_spells rfl mlX10_77 (by first | decide | omega) (by decide) (by simp [Value.category]) rfl dX10_valueOf_50 (SX10_spells 3 (by decide) M5 x1 x2) (fun M7 v8 => ?_)
        refine g_if_eq (tgt := 60) rfl dX10_valueOf_53 (fun c => ?_) (fun c => ?_)
        · refine g_aload_n 0 rfl rfl dX10_valueOf_60 ?_
          refine g_iload_n 1 rfl rfl dX10_valueOf_61 ?_
          refine g_iload_n 2 rfl rfl dX10_valueOf_62 ?_
          refine g_ldcS (j := 4) (by decide) dX10_valueOf_63 ?_
          refine g_callVI (y := miX10_spells) (As := [.int x1, .int x2, .ref (1000 + 4)]) (rest := []) clX10 kd_18 rfl moX10_spells rfl mlX10_77 (by first | decide | omega) (by decide) (by simp [Value.category]) rfl dX10_valueOf_65 (SX10_spells 4 (by decide) M7 x1 x2) (fun M9 v10 => ?_)
          refine g_if_eq (tgt := 75) rfl dX10_valueOf_68 (fun c => ?_) (fun c => ?_)
          · refine g_aload_n 0 rfl rfl dX10_valueOf_75 ?_
            refine g_iload_n 1 rfl rfl dX10_valueOf_76 ?_
            refine g_iload_n 2 rfl rfl dX10_valueOf_77 ?_
            refine g_ldcS (j := 5) (by decide) dX10_valueOf_78 ?_
            refine g_callVI (y := miX10_spells) (As := [.int x1, .int x2, .ref (1000 + 5)]) (rest := []) clX10 kd_18 rfl moX10_spells rfl mlX10_77 (by first | decide | omega) (by decide) (by simp [Value.category]) rfl dX10_valueOf_80 (SX10_spells 5 (by decide) M9 x1 x2) (fun M11 v12 => ?_)
            refine g_if_eq (tgt := 90) rfl dX10_valueOf_83 (fun c => ?_) (fun c => ?_)
            · refine g_aload_n 0 rfl rfl dX10_valueOf_90 ?_
              refine g_iload_n 1 rfl rfl dX10_valueOf_91 ?_
              refine g_iload_n 2 rfl rfl dX10_valueOf_92 ?_
              refine g_ldcS (j := 6) (by decide) dX10_valueOf_93 ?_
              refine g_callVI (y := miX10_spells) (As := [.int x1, .int x2, .ref (1000 + 6)]) (rest := []) clX10 kd_18 rfl moX10_spells rfl mlX10_77 (by first | decide | omega) (by decide) (by simp [Value.category]) rfl dX10_valueOf_95 (SX10_spells 6 (by decide) M11 x1 x2) (fun M13 v14 => ?_)
              refine g_if_eq (tgt := 105) rfl dX10_valueOf_98 (fun c => ?_) (fun c => ?_)
              · refine g_sipush (v := 137) (by decide) dX10_valueOf_105 ?_
                exact g_ireturn rfl (by decide) (by decide) dX10_valueOf_108 rfl rfl
              · refine g_sipush (v := 146) (by decide) dX10_valueOf_101 ?_
                exact g_ireturn rfl (by decide) (by decide) dX10_valueOf_104 rfl rfl
            · refine g_sipush (v := 145) (by decide) dX10_valueOf_86 ?_
              exact g_ireturn rfl (by decide) (by decide) dX10_valueOf_89 rfl rfl
          · refine g_sipush (v := 144) (by decide) dX10_valueOf_71 ?_
            exact g_ireturn rfl (by decide) (by decide) dX10_valueOf_74 rfl rfl
        · refine g_sipush (v := 143) (by decide) dX10_valueOf_56 ?_
          exact g_ireturn rfl (by decide) (by decide) dX10_valueOf_59 rfl rfl
      · refine g_sipush (v := 142) (by decide) dX10_valueOf_41 ?_
        exact g_ireturn rfl (by decide) (by decide) dX10_valueOf_44 rfl rfl
    · refine g_sipush (v := 141) (by decide) dX10_valueOf_26 ?_
      exact g_ireturn rfl (by decide) (by decide) dX10_valueOf_29 rfl rfl
  · refine g_sipush (v := 140) (by decide) dX10_valueOf_11 ?_
    exact g_ireturn rfl (by decide) (by decide) dX10_valueOf_14 rfl rfl
def fX10_cutWord_b78 (M : Mem) (s0 : Int32) (s1 : Int32) : RS := chk (inb s1 700) (wr (si M 19 (ix s1) s0) (fun M9 => some (M9, .inr none)))
theorem SX10_cutWord_b78 (M : Mem) (s0 : Int32) (s1 : Int32) : GO miX10_cutWord (10) 0 0 0 0 78 [] [.int s0, .int s1, .ref 19] M (fX10_cutWord_b78 M s0 s1) := by
  show GO miX10_cutWord (10) 0 0 0 0 78 [] [.int s0, .int s1, .ref 19] M (chk (inb s1 700) (wr (si M 19 (ix s1) s0) (fun M9 => some (M9, .inr none))))
  refine g_ast kd_19 dX10_cutWord_78 (fun hi8 => ?_)
  refine GO.wr (fun M9 => ?_)
  exact g_vreturn rfl (by decide) (by decide) dX10_cutWord_79
def fX10_cutWord_b40 (M : Mem) (x1 : Int32) : RS := bI (fX10_keywordOf M x1 (gi M 18 5)) (fun M4 v5 => if v5 = 137 then bI (fX10_valueOf M4 x1 (gi M4 18 5)) (fun M6 v7 => fX10_cutWord_b78  M6 v7 (gi M4 18 6)) else fX10_cutWord_b78  M4 v5 (gi M4 18 6))
theorem SX10_cutWord_b40 (M : Mem) (x1 : Int32) : GO miX10_cutWord (10) 0 0 0 0 40 [(0, .ref 18), (1, .int x1)] [] M (fX10_cutWord_b40 M x1) := by
  show GO miX10_cutWord (10) 0 0 0 0 40 [(0, .ref 18), (1, .int x1)] [] M (bI (fX10_keywordOf M x1 (gi M 18 5)) (fun M4 v5 => if v5 = 137 then bI (fX10_valueOf M4 x1 (gi M4 18 5)) (fun M6 v7 => fX10_cutWord_b78  M6 v7 (gi M4 18 6)) else fX10_cutWord_b78  M4 v5 (gi M4 18 6)))
  refine g_aload_n 0 rfl rfl dX10_cutWord_40 ?_
  refine g_iload_n 1 rfl rfl dX10_cutWord_41 ?_
  refine g_aload_n 0 rfl rfl dX10_cutWord_42 ?_
  refine g_getI (k := 5) clX10 kd_18 (by decide) rfl flX10_40 dX10_cutWord_43 ?_
  refine g_callVI (y := miX10_keywordOf) (As := [.int x1, .int (gi M 18 5)]) (rest := []) clX10 kd_18 rfl moX10_keywordOf rfl mlX10_69 (by first | decide | omega) (by decide) (by simp [Value.category]) rfl dX10_cutWord_46 (SX10_keywordOf  M x1 (gi M 18 5)) (fun M4 v5 => ?_)
  refine g_istore_n (L' := [(2, .int v5), (0, .ref 18), (1, .int x1)]) (by decide) rfl rfl dX10_cutWord_49 ?_
  refine g_aload_n 1 rfl rfl dX10_cutWord_50 ?_
  refine g_getR (k := 1) (b := 19) clX10 kd_18 (by decide) rfl rfl flX10_13 dX10_cutWord_51 ?_
  refine g_aload_n 1 rfl rfl dX10_cutWord_54 ?_
  refine g_getI (k := 6) clX10 kd_18 (by decide) rfl flX10_43 dX10_cutWord_55 ?_
  refine g_iload_n 0 rfl rfl dX10_cutWord_58 ?_
  refine g_sipush (v := 137) (by decide) dX10_cutWord_59 ?_
  refine g_icmp_ne (tgt := 77) rfl dX10_cutWord_62 (fun c => ?_) (fun c => ?_)
  · refine g_iload_n 0 rfl rfl dX10_cutWord_77 ?_
    exact GO.pick [] rfl <| SX10_cutWord_b78  M4 v5 (gi M4 18 6)
  · refine g_aload_n 1 rfl rfl dX10_cutWord_65 ?_
    refine g_iload_n 2 rfl rfl dX10_cutWord_66 ?_
    refine g_aload_n 1 rfl rfl dX10_cutWord_67 ?_
    refine g_getI (k := 5) clX10 kd_18 (by decide) rfl flX10_40 dX10_cutWord_68 ?_
    refine g_callVI (y := miX10_valueOf) (As := [.int x1, .int (gi M4 18 5)]) (rest := [.int (gi M4 18 6), .ref 19]) clX10 kd_18 rfl moX10_valueOf rfl mlX10_72 (by first | decide | omega) (by decide) (by simp [Value.category]) rfl dX10_cutWord_71 (SX10_valueOf  M4 x1 (gi M4 18 5)) (fun M6 v7 => ?_)
    refine g_goto (tgt := 78) rfl dX10_cutWord_74 ?_
    exact GO.pick [] rfl <| SX10_cutWord_b78  M6 v7 (gi M4 18 6)
def fX10_cutWord_b5 : Nat → Mem → Int32 → RS
  | 0 => fun _ _ => none
  | n + 1 => fun M x1 => if (gi M 18 5) < (gi M 18 4) then bI (fX10_isLetter M (gi M 18 5)) (fun M1 v2 => if v2 = 0 then fX10_cutWord_b40  M1 x1 else wr (si M1 18 5 ((gi M1 18 5) + 1)) (fun M3 => (fX10_cutWord_b5 n) M3 x1)) else fX10_cutWord_b40  M x1
theorem SX10_cutWord_b5 (n : Nat) : ∀ (M : Mem) (x1 : Int32), GO miX10_cutWord (10) 0 0 0 0 5 [(0, .ref 18), (1, .int x1)] [] M (fX10_cutWord_b5 n M x1) := by
  induction n with
  | zero => intro M x1 ; exact GO.none
  | succ n hrec5 =>
    intro M x1 
    show GO miX10_cutWord (10) 0 0 0 0 5 [(0, .ref 18), (1, .int x1)] [] M (if (gi M 18 5) < (gi M 18 4) then bI (fX10_isLetter M (gi M 18 5)) (fun M1 v2 => if v2 = 0 then fX10_cutWord_b40  M1 x1 else wr (si M1 18 5 ((gi M1 18 5) + 1)) (fun M3 => (fX10_cutWord_b5 n) M3 x1)) else fX10_cutWord_b40  M x1)
    refine g_aload_n 0 rfl rfl dX10_cutWord_5 ?_
    refine g_getI (k := 5) clX10 kd_18 (by decide) rfl flX10_40 dX10_cutWord_6 ?_
    refine g_aload_n 0 rfl rfl dX10_cutWord_9 ?_
    refine g_getI (k := 4) clX10 kd_18 (by decide) rfl flX10_36 dX10_cutWord_10 ?_
    refine g_icmp_ge (tgt := 40) rfl dX10_cutWord_13 (fun c => ?_) (fun c => ?_)
    · exact GO.pick [0, 1] rfl <| SX10_cutWord_b40  M x1
    · refine g_aload_n 0 rfl rfl dX10_cutWord_16 ?_
      refine g_aload_n 0 rfl rfl dX10_cutWord_17 ?_
      refine g_getI (k := 5) clX10 kd_18 (by decide) rfl flX10_40 dX10_cutWord_18 ?_
      refine g_callVI (y := miX10_isLetter) (As := [.int (gi M 18 5)]) (rest := []) clX10 kd_18 rfl moX10_isLetter rfl mlX10_52 (by first | decide | omega) (by decide) (by simp [Value.category]) rfl dX10_cutWord_21 (SX10_isLetter  M (gi M 18 5)) (fun M1 v2 => ?_)
      refine g_if_eq (tgt := 40) rfl dX10_cutWord_24 (fun c => ?_) (fun c => ?_)
      · exact GO.pick [0, 1] rfl <| SX10_cutWord_b40  M1 x1
      · refine g_aload_n 0 rfl rfl dX10_cutWord_27 ?_
        refine g_dup_ref dX10_cutWord_28 ?_
        refine g_getI (k := 5) clX10 kd_18 (by decide) rfl flX10_40 dX10_cutWord_29 ?_
        refine g_iconst (v := 1) (by decide) dX10_cutWord_32 ?_
        refine g_iadd dX10_cutWord_33 ?_
        refine g_putI (k := 5) clX10 kd_18 (by decide) rfl (by decide) rfl flX10_40 dX10_cutWord_34 ?_
        refine GO.wr (fun M3 => ?_)
        refine g_goto (tgt := 5) rfl dX10_cutWord_37 ?_
        exact GO.pick [0, 1] rfl <| hrec5 M3 x1
def fX10_cutWord (M : Mem)  : RS := fX10_cutWord_b5  FU M (gi M 18 5)
theorem SX10_cutWord (M : Mem)  : CTO (10) miX10_cutWord 0 0 [.ref 18] M (fX10_cutWord  M ) := by
  refine CTO.of (by decide) (by simp [lg_sl, Value.category]) ?_
  show GO miX10_cutWord (10) 0 0 0 0 0 [(0, .ref 18)] [] M (fX10_cutWord_b5  FU M (gi M 18 5))
  refine g_aload_n 0 rfl rfl dX10_cutWord_0 ?_
  refine g_getI (k := 5) clX10 kd_18 (by decide) rfl flX10_40 dX10_cutWord_1 ?_
  refine g_istore_n (L' := [(1, .int (gi M 18 5)), (0, .ref 18)]) (by decide) rfl rfl dX10_cutWord_4 ?_
  exact GO.pick [1, 0] rfl <| SX10_cutWord_b5  FU M (gi M 18 5)
def fX10_signOf (M : Mem) (x0 : Int32) : RS := if x0 = 40 then some (M, .inr (some (.int x0))) else if x0 = 41 then some (M, .inr (some (.int x0))) else if x0 = 42 then some (M, .inr (some (.int x0))) else if x0 = 43 then some (M, .inr (some (.int x0))) else if x0 = 45 then some (M, .inr (some (.int x0))) else if x0 = 47 then some (M, .inr (some (.int x0))) else if x0 = 59 then some (M, .inr (some (.int x0))) else if x0 = 60 then some (M, .inr (some (.int x0))) else if x0 = 61 then some (M, .inr (some (.int x0))) else some (M, .inr (some (.int 3)))
theorem SX10_signOf (M : Mem) (x0 : Int32) : CTO (0) miX10_signOf 0 0 [.int x0] M (fX10_signOf  M x0) := by
  refine CTO.of (by decide) (by simp [lg_sl, Value.category]) ?_
  show GO miX10_signOf (0) 0 0 0 0 0 [(0, .int x0)] [] M (if x0 = 40 then some (M, .inr (some (.int x0))) else if x0 = 41 then some (M, .inr (some (.int x0))) else if x0 = 42 then some (M, .inr (some (.int x0))) else if x0 = 43 then some (M, .inr (some (.int x0))) else if x0 = 45 then some (M, .inr (some (.int x0))) else if x0 = 47 then some (M, .inr (some (.int x0))) else if x0 = 59 then some (M, .inr (some (.int x0))) else if x0 = 60 then some (M, .inr (some (.int x0))) else if x0 = 61 then some (M, .inr (some (.int x0))) else some (M, .inr (some (.int 3))))
  refine g_iload_n 0 rfl rfl dX10_signOf_0 ?_
  refine g_tabI (tgt := 104) (off := 103) 40 rfl (by decide) (by decide) (by decide) dX10_signOf_1 ?_ (fun c40 => ?_)
  · refine g_iload_n 0 rfl rfl dX10_signOf_104 ?_
    exact g_ireturn rfl (by decide) (by decide) dX10_signOf_105 rfl rfl
  refine g_tabI (tgt := 104) (off := 103) 41 rfl (by decide) (by decide) (by decide) dX10_signOf_1 ?_ (fun c41 => ?_)
  · refine g_iload_n 0 rfl rfl dX10_signOf_104 ?_
    exact g_ireturn rfl (by decide) (by decide) dX10_signOf_105 rfl rfl
  refine g_tabI (tgt := 104) (off := 103) 42 rfl (by decide) (by decide) (by decide) dX10_signOf_1 ?_ (fun c42 => ?_)
  · refine g_iload_n 0 rfl rfl dX10_signOf_104 ?_
    exact g_ireturn rfl (by decide) (by decide) dX10_signOf_105 rfl rfl
  refine g_tabI (tgt := 104) (off := 103) 43 rfl (by decide) (by decide) (by decide) dX10_signOf_1 ?_ (fun c43 => ?_)
  · refine g_iload_n 0 rfl rfl dX10_signOf_104 ?_
    exact g_ireturn rfl (by decide) (by decide) dX10_signOf_105 rfl rfl
  refine g_tabI (tgt := 104) (off := 103) 45 rfl (by decide) (by decide) (by decide) dX10_signOf_1 ?_ (fun c45 => ?_)
  · refine g_iload_n 0 rfl rfl dX10_signOf_104 ?_
    exact g_ireturn rfl (by decide) (by decide) dX10_signOf_105 rfl rfl
  refine g_tabI (tgt := 104) (off := 103) 47 rfl (by decide) (by decide) (by decide) dX10_signOf_1 ?_ (fun c47 => ?_)
  · refine g_iload_n 0 rfl rfl dX10_signOf_104 ?_
    exact g_ireturn rfl (by decide) (by decide) dX10_signOf_105 rfl rfl
  refine g_tabI (tgt := 104) (off := 103) 59 rfl (by decide) (by decide) (by decide) dX10_signOf_1 ?_ (fun c59 => ?_)
  · refine g_iload_n 0 rfl rfl dX10_signOf_104 ?_
    exact g_ireturn rfl (by decide) (by decide) dX10_signOf_105 rfl rfl
  refine g_tabI (tgt := 104) (off := 103) 60 rfl (by decide) (by decide) (by decide) dX10_signOf_1 ?_ (fun c60 => ?_)
  · refine g_iload_n 0 rfl rfl dX10_signOf_104 ?_
    exact g_ireturn rfl (by decide) (by decide) dX10_signOf_105 rfl rfl
  refine g_tabI (tgt := 104) (off := 103) 61 rfl (by decide) (by decide) (by decide) dX10_signOf_1 ?_ (fun c61 => ?_)
  · refine g_iload_n 0 rfl rfl dX10_signOf_104 ?_
    exact g_ireturn rfl (by decide) (by decide) dX10_signOf_105 rfl rfl
  refine g_tabZ (tgt := 106) [40, 41, 42, 43, 45, 47, 59, 60, 61] (List.forall_mem_cons.mpr ⟨c40, (List.forall_mem_cons.mpr ⟨c41, (List.forall_mem_cons.mpr ⟨c42, (List.forall_mem_cons.mpr ⟨c43, (List.forall_mem_cons.mpr ⟨c45, (List.forall_mem_cons.mpr ⟨c47, (List.forall_mem_cons.mpr ⟨c59, (List.forall_mem_cons.mpr ⟨c60, (List.forall_mem_cons.mpr ⟨c61, (fun _ h => absurd h List.not_mem_nil)⟩)⟩)⟩)⟩)⟩)⟩)⟩)⟩)⟩) rfl dX10_signOf_1 (by decide) (by decide) ?_
  refine g_iconst (v := 3) (by decide) dX10_signOf_106 ?_
  exact g_ireturn rfl (by decide) (by decide) dX10_signOf_107 rfl rfl
def fX10_cutOne (M : Mem)  : RS := chk (inb (gi M 18 6) 700) (wr (si M 20 (ix (gi M 18 6)) (gi M 18 5)) (fun M2 => chk (inb (gi M2 18 6) 700) (wr (si M2 21 (ix (gi M2 18 6)) 0) (fun M4 => bI (fX10_isLetter M4 (gi M4 18 5)) (fun M5 v6 => if v6 = 0 then bI (fX10_isDigit M5 (gi M5 18 5)) (fun M7 v8 => if v8 = 0 then chk (inb (gi M7 18 5) 700) (bI (fX10_signOf M7 (gi M7 2 (ix (gi M7 18 5)))) (fun M10 v11 => chk (inb (gi M7 18 6) 700) (wr (si M10 19 (ix (gi M7 18 6)) v11) (fun M13 => wr (si M13 18 5 ((gi M13 18 5) + 1)) (fun M14 => some (M14, .inr none)))))) else bV (fX10_cutNumber M7) (fun M15 => some (M15, .inr none))) else bV (fX10_cutWord M5) (fun M17 => some (M17, .inr none)))))))
theorem SX10_cutOne (M : Mem)  : CTO (11) miX10_cutOne 0 0 [.ref 18] M (fX10_cutOne  M ) := by
  refine CTO.of (by decide) (by simp [lg_sl, Value.category]) ?_
  show GO miX10_cutOne (11) 0 0 0 0 0 [(0, .ref 18)] [] M (chk (inb (gi M 18 6) 700) (wr (si M 20 (ix (gi M 18 6)) (gi M 18 5)) (fun M2 => chk (inb (gi M2 18 6) 700) (wr (si M2 21 (ix (gi M2 18 6)) 0) (fun M4 => bI (fX10_isLetter M4 (gi M4 18 5)) (fun M5 v6 => if v6 = 0 then bI (fX10_isDigit M5 (gi M5 18 5)) (fun M7 v8 => if v8 = 0 then chk (inb (gi M7 18 5) 700) (bI (fX10_signOf M7 (gi M7 2 (ix (gi M7 18 5)))) (fun M10 v11 => chk (inb (gi M7 18 6) 700) (wr (si M10 19 (ix (gi M7 18 6)) v11) (fun M13 => wr (si M13 18 5 ((gi M13 18 5) + 1)) (fun M14 => some (M14, .inr none)))))) else bV (fX10_cutNumber M7) (fun M15 => some (M15, .inr none))) else bV (fX10_cutWord M5) (fun M17 => some (M17, .inr none))))))))
  refine g_aload_n 0 rfl rfl dX10_cutOne_0 ?_
  refine g_getR (k := 2) (b := 20) clX10 kd_18 (by decide) rfl rfl flX10_17 dX10_cutOne_1 ?_
  refine g_aload_n 0 rfl rfl dX10_cutOne_4 ?_
  refine g_getI (k := 6) clX10 kd_18 (by decide) rfl flX10_43 dX10_cutOne_5 ?_
  refine g_aload_n 0 rfl rfl dX10_cutOne_8 ?_
  refine g_getI (k := 5) clX10 kd_18 (by decide) rfl flX10_40 dX10_cutOne_9 ?_
  refine g_ast kd_20 dX10_cutOne_12 (fun hi1 => ?_)
  refine GO.wr (fun M2 => ?_)
  refine g_aload_n 0 rfl rfl dX10_cutOne_13 ?_
  refine g_getR (k := 3) (b := 21) clX10 kd_18 (by decide) rfl rfl flX10_20 dX10_cutOne_14 ?_
  refine g_aload_n 0 rfl rfl dX10_cutOne_17 ?_
  refine g_getI (k := 6) clX10 kd_18 (by decide) rfl flX10_43 dX10_cutOne_18 ?_
  refine g_iconst (v := 0) (by decide) dX10_cutOne_21 ?_
  refine g_ast kd_21 dX10_cutOne_22 (fun hi3 => ?_)
  refine GO.wr (fun M4 => ?_)
  refine g_aload_n 0 rfl rfl dX10_cutOne_23 ?_
  refine g_aload_n 0 rfl rfl dX10_cutOne_24 ?_
  refine g_getI (k := 5) clX10 kd_18 (by decide) rfl flX10_40 dX10_cutOne_25 ?_
  refine g_callVI (y := miX10_isLetter) (As := [.int (gi M4 18 5)]) (rest := []) clX10 kd_18 rfl moX10_isLetter rfl mlX10_52 (by first | decide | omega) (by decide) (by simp [Value.category]) rfl dX10_cutOne_28 (SX10_isLetter  M4 (gi M4 18 5)) (fun M5 v6 => ?_)
  refine g_if_eq (tgt := 41) rfl dX10_cutOne_31 (fun c => ?_) (fun c => ?_)
  · refine g_aload_n 0 rfl rfl dX10_cutOne_41 ?_
    refine g_aload_n 0 rfl rfl dX10_cutOne_42 ?_
    refine g_getI (k := 5) clX10 kd_18 (by decide) rfl flX10_40 dX10_cutOne_43 ?_
    refine g_callVI (y := miX10_isDigit) (As := [.int (gi M5 18 5)]) (rest := []) clX10 kd_18 rfl moX10_isDigit rfl mlX10_59 (by first | decide | omega) (by decide) (by simp [Value.category]) rfl dX10_cutOne_46 (SX10_isDigit  M5 (gi M5 18 5)) (fun M7 v8 => ?_)
    refine g_if_eq (tgt := 59) rfl dX10_cutOne_49 (fun c => ?_) (fun c => ?_)
    · refine g_aload_n 0 rfl rfl dX10_cutOne_59 ?_
      refine g_getR (k := 1) (b := 19) clX10 kd_18 (by decide) rfl rfl flX10_13 dX10_cutOne_60 ?_
      refine g_aload_n 0 rfl rfl dX10_cutOne_63 ?_
      refine g_getI (k := 6) clX10 kd_18 (by decide) rfl flX10_43 dX10_cutOne_64 ?_
      refine g_aload_n 0 rfl rfl dX10_cutOne_67 ?_
      refine g_getR (k := 0) (b := 2) clX10 kd_18 (by decide) rfl rfl flX10_29 dX10_cutOne_68 ?_
      refine g_aload_n 0 rfl rfl dX10_cutOne_71 ?_
      refine g_getI (k := 5) clX10 kd_18 (by decide) rfl flX10_40 dX10_cutOne_72 ?_
      refine g_bald kd_2 dX10_cutOne_75 (fun hi9 => ?_)
      refine g_callSI (y := miX10_signOf) (As := [.int (gi M7 2 (ix (gi M7 18 5)))]) (rest := [.int (gi M7 18 6), .ref 19]) moX10_signOf rfl mlX10_65 (by first | decide | omega) (by decide) (by simp [Value.category]) rfl dX10_cutOne_76 (SX10_signOf  M7 (gi M7 2 (ix (gi M7 18 5)))) (fun M10 v11 => ?_)
      refine g_ast kd_19 dX10_cutOne_79 (fun hi12 => ?_)
      refine GO.wr (fun M13 => ?_)
      refine g_aload_n 0 rfl rfl dX10_cutOne_80 ?_
      refine g_dup_ref dX10_cutOne_81 ?_
      refine g_getI (k := 5) clX10 kd_18 (by decide) rfl flX10_40 dX10_cutOne_82 ?_
      refine g_iconst (v := 1) (by decide) dX10_cutOne_85 ?_
      refine g_iadd dX10_cutOne_86 ?_
      refine g_putI (k := 5) clX10 kd_18 (by decide) rfl (by decide) rfl flX10_40 dX10_cutOne_87 ?_
      refine GO.wr (fun M14 => ?_)
      exact g_vreturn rfl (by decide) (by decide) dX10_cutOne_90
    · refine g_aload_n 0 rfl rfl dX10_cutOne_52 ?_
      refine g_callVV (y := miX10_cutNumber) (As := []) (rest := []) clX10 kd_18 rfl moX10_cutNumber rfl mlX10_62 (by first | decide | omega) (by decide) (by simp [Value.category]) rfl dX10_cutOne_53 (SX10_cutNumber  M7) (fun M15 => ?_)
      refine g_goto (tgt := 90) rfl dX10_cutOne_56 ?_
      exact g_vreturn rfl (by decide) (by decide) dX10_cutOne_90
  · refine g_aload_n 0 rfl rfl dX10_cutOne_34 ?_
    refine g_callVV (y := miX10_cutWord) (As := []) (rest := []) clX10 kd_18 rfl moX10_cutWord rfl mlX10_56 (by first | decide | omega) (by decide) (by simp [Value.category]) rfl dX10_cutOne_35 (SX10_cutWord  M5) (fun M17 => ?_)
    refine g_goto (tgt := 90) rfl dX10_cutOne_38 ?_
    exact g_vreturn rfl (by decide) (by decide) dX10_cutOne_90
def fX10_skipBlanks_b39 (rec0 : Mem → RS) (M : Mem)  : RS := wr (si M 18 5 ((gi M 18 5) + 1)) (fun M3 => rec0 M3)
theorem SX10_skipBlanks_b39 (rec0 : Mem → RS) (hrec0 : ∀ (M : Mem) , GO miX10_skipBlanks (0) 0 0 0 0 0 [(0, .ref 18)] [] M (rec0 M )) (M : Mem)  : GO miX10_skipBlanks (0) 0 0 0 0 39 [(0, .ref 18)] [] M (fX10_skipBlanks_b39 rec0 M ) := by
  show GO miX10_skipBlanks (0) 0 0 0 0 39 [(0, .ref 18)] [] M (wr (si M 18 5 ((gi M 18 5) + 1)) (fun M3 => rec0 M3))
  refine g_aload_n 0 rfl rfl dX10_skipBlanks_39 ?_
  refine g_dup_ref dX10_skipBlanks_40 ?_
  refine g_getI (k := 5) clX10 kd_18 (by decide) rfl flX10_40 dX10_skipBlanks_41 ?_
  refine g_iconst (v := 1) (by decide) dX10_skipBlanks_44 ?_
  refine g_iadd dX10_skipBlanks_45 ?_
  refine g_putI (k := 5) clX10 kd_18 (by decide) rfl (by decide) rfl flX10_40 dX10_skipBlanks_46 ?_
  refine GO.wr (fun M3 => ?_)
  refine g_goto (tgt := 0) rfl dX10_skipBlanks_49 ?_
  exact GO.pick [0] rfl <| hrec0 M3
def fX10_skipBlanks_b0 : Nat → Mem → RS
  | 0 => fun _  => none
  | n + 1 => fun M  => if (gi M 18 5) < (gi M 18 4) then chk (inb (gi M 18 5) 700) (if (gi M 2 (ix (gi M 18 5))) = 32 then fX10_skipBlanks_b39 (fX10_skipBlanks_b0 n) M else chk (inb (gi M 18 5) 700) (if (gi M 2 (ix (gi M 18 5))) = 10 then fX10_skipBlanks_b39 (fX10_skipBlanks_b0 n) M else some (M, .inr none))) else some (M, .inr none)
theorem SX10_skipBlanks_b0 (n : Nat) : ∀ (M : Mem) , GO miX10_skipBlanks (0) 0 0 0 0 0 [(0, .ref 18)] [] M (fX10_skipBlanks_b0 n M ) := by
  induction n with
  | zero => intro M  ; exact GO.none
  | succ n hrec0 =>
    intro M  
    show GO miX10_skipBlanks (0) 0 0 0 0 0 [(0, .ref 18)] [] M (if (gi M 18 5) < (gi M 18 4) then chk (inb (gi M 18 5) 700) (if (gi M 2 (ix (gi M 18 5))) = 32 then fX10_skipBlanks_b39 (fX10_skipBlanks_b0 n) M else chk (inb (gi M 18 5) 700) (if (gi M 2 (ix (gi M 18 5))) = 10 then fX10_skipBlanks_b39 (fX10_skipBlanks_b0 n) M else some (M, .inr none))) else some (M, .inr none))
    refine g_aload_n 0 rfl rfl dX10_skipBlanks_0 ?_
    refine g_getI (k := 5) clX10 kd_18 (by decide) rfl flX10_40 dX10_skipBlanks_1 ?_
    refine g_aload_n 0 rfl rfl dX10_skipBlanks_4 ?_
    refine g_getI (k := 4) clX10 kd_18 (by decide) rfl flX10_36 dX10_skipBlanks_5 ?_
    refine g_icmp_ge (tgt := 52) rfl dX10_skipBlanks_8 (fun c => ?_) (fun c => ?_)
    · exact g_vreturn rfl (by decide) (by decide) dX10_skipBlanks_52
    · refine g_aload_n 0 rfl rfl dX10_skipBlanks_11 ?_
      refine g_getR (k := 0) (b := 2) clX10 kd_18 (by decide) rfl rfl flX10_29 dX10_skipBlanks_12 ?_
      refine g_aload_n 0 rfl rfl dX10_skipBlanks_15 ?_
      refine g_getI (k := 5) clX10 kd_18 (by decide) rfl flX10_40 dX10_skipBlanks_16 ?_
      refine g_bald kd_2 dX10_skipBlanks_19 (fun hi1 => ?_)
      refine g_bipush (v := 32) (by decide) dX10_skipBlanks_20 ?_
      refine g_icmp_eq (tgt := 39) rfl dX10_skipBlanks_22 (fun c => ?_) (fun c => ?_)
      · exact GO.pick [0] rfl <| SX10_skipBlanks_b39  (fX10_skipBlanks_b0 n) hrec0 M
      · refine g_aload_n 0 rfl rfl dX10_skipBlanks_25 ?_
        refine g_getR (k := 0) (b := 2) clX10 kd_18 (by decide) rfl rfl flX10_29 dX10_skipBlanks_26 ?_
        refine g_aload_n 0 rfl rfl dX10_skipBlanks_29 ?_
        refine g_getI (k := 5) clX10 kd_18 (by decide) rfl flX10_40 dX10_skipBlanks_30 ?_
        refine g_bald kd_2 dX10_skipBlanks_33 (fun hi2 => ?_)
        refine g_bipush (v := 10) (by decide) dX10_skipBlanks_34 ?_
        refine g_icmp_ne (tgt := 52) rfl dX10_skipBlanks_36 (fun c => ?_) (fun c => ?_)
        · exact g_vreturn rfl (by decide) (by decide) dX10_skipBlanks_52
        · exact GO.pick [0] rfl <| SX10_skipBlanks_b39  (fX10_skipBlanks_b0 n) hrec0 M
def fX10_skipBlanks (M : Mem)  : RS := fX10_skipBlanks_b0  FU M
theorem SX10_skipBlanks (M : Mem)  : CTO (0) miX10_skipBlanks 0 0 [.ref 18] M (fX10_skipBlanks  M ) := by
  refine CTO.of (by decide) (by simp [lg_sl, Value.category]) ?_
  show GO miX10_skipBlanks (0) 0 0 0 0 0 [(0, .ref 18)] [] M (fX10_skipBlanks_b0  FU M)
  exact GO.pick [0] rfl <| SX10_skipBlanks_b0  FU M
def fX10_cut_b27 : Nat → Mem → RS
  | 0 => fun _  => none
  | n + 1 => fun M  => if (gi M 18 5) < (gi M 18 4) then if (gi M 18 6) < 700 then bV (fX10_cutOne M) (fun M6 => wr (si M6 18 6 ((gi M6 18 6) + 1)) (fun M8 => bV (fX10_skipBlanks M8) (fun M9 => (fX10_cut_b27 n) M9))) else some (M, .inr none) else some (M, .inr none)
theorem SX10_cut_b27 (n : Nat) : ∀ (M : Mem) , GO miX10_cut (12) 0 0 0 0 27 [(0, .ref 18)] [] M (fX10_cut_b27 n M ) := by
  induction n with
  | zero => intro M  ; exact GO.none
  | succ n hrec27 =>
    intro M  
    show GO miX10_cut (12) 0 0 0 0 27 [(0, .ref 18)] [] M (if (gi M 18 5) < (gi M 18 4) then if (gi M 18 6) < 700 then bV (fX10_cutOne M) (fun M6 => wr (si M6 18 6 ((gi M6 18 6) + 1)) (fun M8 => bV (fX10_skipBlanks M8) (fun M9 => (fX10_cut_b27 n) M9))) else some (M, .inr none) else some (M, .inr none))
    refine g_aload_n 0 rfl rfl dX10_cut_27 ?_
    refine g_getI (k := 5) clX10 kd_18 (by decide) rfl flX10_40 dX10_cut_28 ?_
    refine g_aload_n 0 rfl rfl dX10_cut_31 ?_
    refine g_getI (k := 4) clX10 kd_18 (by decide) rfl flX10_36 dX10_cut_32 ?_
    refine g_icmp_ge (tgt := 69) rfl dX10_cut_35 (fun c => ?_) (fun c => ?_)
    · exact g_vreturn rfl (by decide) (by decide) dX10_cut_69
    · refine g_aload_n 0 rfl rfl dX10_cut_38 ?_
      refine g_getI (k := 6) clX10 kd_18 (by decide) rfl flX10_43 dX10_cut_39 ?_
      refine g_sipush (v := 700) (by decide) dX10_cut_42 ?_
      refine g_icmp_ge (tgt := 69) rfl dX10_cut_45 (fun c => ?_) (fun c => ?_)
      · exact g_vreturn rfl (by decide) (by decide) dX10_cut_69
      · refine g_aload_n 0 rfl rfl dX10_cut_48 ?_
        refine g_callVV (y := miX10_cutOne) (As := []) (rest := []) clX10 kd_18 rfl moX10_cutOne rfl mlX10_49 (by first | decide | omega) (by decide) (by simp [Value.category]) rfl dX10_cut_49 (SX10_cutOne  M) (fun M6 => ?_)
        refine g_aload_n 0 rfl rfl dX10_cut_52 ?_
        refine g_dup_ref dX10_cut_53 ?_
        refine g_getI (k := 6) clX10 kd_18 (by decide) rfl flX10_43 dX10_cut_54 ?_
        refine g_iconst (v := 1) (by decide) dX10_cut_57 ?_
        refine g_iadd dX10_cut_58 ?_
        refine g_putI (k := 6) clX10 kd_18 (by decide) rfl (by decide) rfl flX10_43 dX10_cut_59 ?_
        refine GO.wr (fun M8 => ?_)
        refine g_aload_n 0 rfl rfl dX10_cut_62 ?_
        refine g_callVV (y := miX10_skipBlanks) (As := []) (rest := []) clX10 kd_18 rfl moX10_skipBlanks rfl mlX10_46 (by first | decide | omega) (by decide) (by simp [Value.category]) rfl dX10_cut_63 (SX10_skipBlanks  M8) (fun M9 => ?_)
        refine g_goto (tgt := 27) rfl dX10_cut_66 ?_
        exact GO.pick [0] rfl <| hrec27 M9
def fX10_cut (M : Mem) (x1 : Int32) : RS := wr (si M 18 4 (if 700 < x1 then 700 else x1)) (fun M1 => wr (si M1 18 5 0) (fun M2 => wr (si M2 18 6 0) (fun M3 => bV (fX10_skipBlanks M3) (fun M4 => fX10_cut_b27  FU M4))))
theorem SX10_cut (M : Mem) (x1 : Int32) : CTO (12) miX10_cut 0 0 [.ref 18, .int x1] M (fX10_cut  M x1) := by
  refine CTO.of (by decide) (by simp [lg_sl, Value.category]) ?_
  show GO miX10_cut (12) 0 0 0 0 0 [(0, .ref 18), (1, .int x1)] [] M (wr (si M 18 4 (if 700 < x1 then 700 else x1)) (fun M1 => wr (si M1 18 5 0) (fun M2 => wr (si M2 18 6 0) (fun M3 => bV (fX10_skipBlanks M3) (fun M4 => fX10_cut_b27  FU M4)))))
  refine g_aload_n 0 rfl rfl dX10_cut_0 ?_
  refine g_iload_n 1 rfl rfl dX10_cut_1 ?_
  refine g_aload_n 0 rfl rfl dX10_cut_2 ?_
  refine g_getR (k := 0) (b := 2) clX10 kd_18 (by decide) rfl rfl flX10_29 dX10_cut_3 ?_
  refine g_alen (v := 700) kd_2 (by decide) (by decide) dX10_cut_6 ?_
  refine g_mmin mlX10_30 ms_min mt_Math mc_min (by first | decide | omega) (by decide) (by simp [Value.category]) dX10_cut_7 ?_
  refine g_putI (k := 4) clX10 kd_18 (by decide) rfl (by decide) rfl flX10_36 dX10_cut_10 ?_
  refine GO.wr (fun M1 => ?_)
  refine g_aload_n 0 rfl rfl dX10_cut_13 ?_
  refine g_iconst (v := 0) (by decide) dX10_cut_14 ?_
  refine g_putI (k := 5) clX10 kd_18 (by decide) rfl (by decide) rfl flX10_40 dX10_cut_15 ?_
  refine GO.wr (fun M2 => ?_)
  refine g_aload_n 0 rfl rfl dX10_cut_18 ?_
  refine g_iconst (v := 0) (by decide) dX10_cut_19 ?_
  refine g_putI (k := 6) clX10 kd_18 (by decide) rfl (by decide) rfl flX10_43 dX10_cut_20 ?_
  refine GO.wr (fun M3 => ?_)
  refine g_aload_n 0 rfl rfl dX10_cut_23 ?_
  refine g_callVV (y := miX10_skipBlanks) (As := []) (rest := []) clX10 kd_18 rfl moX10_skipBlanks rfl mlX10_46 (by first | decide | omega) (by decide) (by simp [Value.category]) rfl dX10_cut_24 (SX10_skipBlanks  M3) (fun M4 => ?_)
  exact GO.pick [0] rfl <| SX10_cut_b27  FU M4
def fX10_startAt (M : Mem) (x1 : Int32) : RS := if x1 < 0 then some (M, .inr (some (.int (gi M 18 4)))) else if x1 < (gi M 18 6) then chk (inb x1 700) (some (M, .inr (some (.int (gi M 20 (ix x1)))))) else some (M, .inr (some (.int (gi M 18 4))))
theorem SX10_startAt (M : Mem) (x1 : Int32) : CTO (0) miX10_startAt 0 0 [.ref 18, .int x1] M (fX10_startAt  M x1) := by
  refine CTO.of (by decide) (by simp [lg_sl, Value.category]) ?_
  show GO miX10_startAt (0) 0 0 0 0 0 [(0, .ref 18), (1, .int x1)] [] M (if x1 < 0 then some (M, .inr (some (.int (gi M 18 4)))) else if x1 < (gi M 18 6) then chk (inb x1 700) (some (M, .inr (some (.int (gi M 20 (ix x1)))))) else some (M, .inr (some (.int (gi M 18 4)))))
  refine g_iload_n 1 rfl rfl dX10_startAt_0 ?_
  refine g_if_lt (tgt := 21) rfl dX10_startAt_1 (fun c => ?_) (fun c => ?_)
  · refine g_aload_n 0 rfl rfl dX10_startAt_21 ?_
    refine g_getI (k := 4) clX10 kd_18 (by decide) rfl flX10_36 dX10_startAt_22 ?_
    exact g_ireturn rfl (by decide) (by decide) dX10_startAt_25 rfl rfl
  · refine g_iload_n 1 rfl rfl dX10_startAt_4 ?_
    refine g_aload_n 0 rfl rfl dX10_startAt_5 ?_
    refine g_getI (k := 6) clX10 kd_18 (by decide) rfl flX10_43 dX10_startAt_6 ?_
    refine g_icmp_ge (tgt := 21) rfl dX10_startAt_9 (fun c => ?_) (fun c => ?_)
    · refine g_aload_n 0 rfl rfl dX10_startAt_21 ?_
      refine g_getI (k := 4) clX10 kd_18 (by decide) rfl flX10_36 dX10_startAt_22 ?_
      exact g_ireturn rfl (by decide) (by decide) dX10_startAt_25 rfl rfl
    · refine g_aload_n 0 rfl rfl dX10_startAt_12 ?_
      refine g_getR (k := 2) (b := 20) clX10 kd_18 (by decide) rfl rfl flX10_17 dX10_startAt_13 ?_
      refine g_iload_n 1 rfl rfl dX10_startAt_16 ?_
      refine g_ald kd_20 dX10_startAt_17 (fun hi1 => ?_)
      refine g_goto (tgt := 25) rfl dX10_startAt_18 ?_
      exact g_ireturn rfl (by decide) (by decide) dX10_startAt_25 rfl rfl
def fX5_read_b77 (a1 : Nat) (M : Mem)  : RS := if (gi M 17 6) = 0 then some (M, .inr (some (.int (gi M 17 6)))) else bI (fX10_startAt M (gi M 17 4)) (fun M14 v15 => wr (si M14 17 7 v15) (fun M16 => some (M16, .inr (some (.int (gi M16 17 6))))))
theorem SX5_read_b77 (a1 : Nat) (h1 : a1 ∈ [3, 24]) (M : Mem)  : GO miX5_read (76) 0 0 0 0 77 [(0, .ref 17)] [] M (fX5_read_b77 a1 M ) := by
  show GO miX5_read (76) 0 0 0 0 77 [(0, .ref 17)] [] M (if (gi M 17 6) = 0 then some (M, .inr (some (.int (gi M 17 6)))) else bI (fX10_startAt M (gi M 17 4)) (fun M14 v15 => wr (si M14 17 7 v15) (fun M16 => some (M16, .inr (some (.int (gi M16 17 6)))))))
  refine g_aload_n 0 rfl rfl dX5_read_77 ?_
  refine g_getI (k := 6) clX5 kd_17 (by decide) rfl flX5_40 dX5_read_78 ?_
  refine g_if_eq (tgt := 99) rfl dX5_read_81 (fun c => ?_) (fun c => ?_)
  · refine g_aload_n 0 rfl rfl dX5_read_99 ?_
    refine g_getI (k := 6) clX5 kd_17 (by decide) rfl flX5_40 dX5_read_100 ?_
    exact g_ireturn rfl (by decide) (by decide) dX5_read_103 rfl rfl
  · refine g_aload_n 0 rfl rfl dX5_read_84 ?_
    refine g_aload_n 0 rfl rfl dX5_read_85 ?_
    refine g_getR (k := 0) (b := 18) clX5 kd_17 (by decide) rfl rfl flX5_20 dX5_read_86 ?_
    refine g_aload_n 0 rfl rfl dX5_read_89 ?_
    refine g_getI (k := 4) clX5 kd_17 (by decide) rfl flX5_47 dX5_read_90 ?_
    refine g_callVI (y := miX10_startAt) (As := [.int (gi M 17 4)]) (rest := [.ref 17]) clX10 kd_18 rfl moX10_startAt rfl mlX5_60 (by first | decide | omega) (by decide) (by simp [Value.category]) rfl dX5_read_93 (SX10_startAt  M (gi M 17 4)) (fun M14 v15 => ?_)
    refine g_putI (k := 7) clX5 kd_17 (by decide) rfl (by decide) rfl flX5_9 dX5_read_96 ?_
    refine GO.wr (fun M16 => ?_)
    refine g_aload_n 0 rfl rfl dX5_read_99 ?_
    refine g_getI (k := 6) clX5 kd_17 (by decide) rfl flX5_40 dX5_read_100 ?_
    exact g_ireturn rfl (by decide) (by decide) dX5_read_103 rfl rfl
def fX5_read_b46 (a1 : Nat) : Nat → Mem → Int32 → RS
  | 0 => fun _ _ => none
  | n + 1 => fun M x3 => if 700 < x3 then fX5_read_b77 a1 M else if (gi M 17 6) = 0 then if (gi M 17 5) = 0 then fX5_read_b77 a1 M else bV (fX5_readLine M) (fun M12 => (fX5_read_b46 a1 n) M12 (x3 + 1)) else fX5_read_b77 a1 M
theorem SX5_read_b46 (a1 : Nat) (h1 : a1 ∈ [3, 24]) (n : Nat) : ∀ (M : Mem) (x3 : Int32), GO miX5_read (76) 0 0 0 0 46 [(0, .ref 17), (3, .int x3)] [] M (fX5_read_b46 a1 n M x3) := by
  induction n with
  | zero => intro M x3 ; exact GO.none
  | succ n hrec46 =>
    intro M x3 
    show GO miX5_read (76) 0 0 0 0 46 [(0, .ref 17), (3, .int x3)] [] M (if 700 < x3 then fX5_read_b77 a1 M else if (gi M 17 6) = 0 then if (gi M 17 5) = 0 then fX5_read_b77 a1 M else bV (fX5_readLine M) (fun M12 => (fX5_read_b46 a1 n) M12 (x3 + 1)) else fX5_read_b77 a1 M)
    refine g_iload_n 1 rfl rfl dX5_read_46 ?_
    refine g_sipush (v := 700) (by decide) dX5_read_47 ?_
    refine g_icmp_gt (tgt := 77) rfl dX5_read_50 (fun c => ?_) (fun c => ?_)
    · exact GO.pick [0] rfl <| SX5_read_b77 a1 h1 M
    · refine g_aload_n 0 rfl rfl dX5_read_53 ?_
      refine g_getI (k := 6) clX5 kd_17 (by decide) rfl flX5_40 dX5_read_54 ?_
      refine g_if_ne (tgt := 77) rfl dX5_read_57 (fun c => ?_) (fun c => ?_)
      · exact GO.pick [0] rfl <| SX5_read_b77 a1 h1 M
      · refine g_aload_n 0 rfl rfl dX5_read_60 ?_
        refine g_getI (k := 5) clX5 kd_17 (by decide) rfl flX5_54 dX5_read_61 ?_
        refine g_if_eq (tgt := 77) rfl dX5_read_64 (fun c => ?_) (fun c => ?_)
        · exact GO.pick [0] rfl <| SX5_read_b77 a1 h1 M
        · refine g_aload_n 0 rfl rfl dX5_read_67 ?_
          refine g_callVV (y := miX5_readLine) (As := []) (rest := []) clX5 kd_17 rfl moX5_readLine rfl mlX5_57 (by first | decide | omega) (by decide) (by simp [Value.category]) rfl dX5_read_68 (SX5_readLine  M) (fun M12 => ?_)
          refine g_iinc (v := x3 + 1) (L' := [(3, .int (x3 + 1)), (0, .ref 17)]) 1 rfl rfl (by decide) rfl dX5_read_71 ?_
          refine g_goto (tgt := 46) rfl dX5_read_74 ?_
          exact GO.pick [1, 0] rfl <| hrec46 M12 (x3 + 1)
def fX5_read (a1 : Nat) (M : Mem) (x2 : Int32) : RS := bV (fX2_clear a1 M) (fun M1 => wr (sb M1 2 (isB a1)) (fun M3 => wr (si M3 17 6 0) (fun M4 => wr (si M4 17 7 (-1)) (fun M5 => bV (fX10_cut M5 x2) (fun M6 => wr (si M6 17 4 0) (fun M8 => bI (fX10_symbolAt M8 0) (fun M9 v10 => wr (si M9 17 5 v10) (fun M11 => fX5_read_b46 a1 FU M11 0))))))))
theorem SX5_read (a1 : Nat) (h1 : a1 ∈ [3, 24]) (M : Mem) (x2 : Int32) : CTO (76) miX5_read 0 0 [.ref 17, .ref a1, .int x2] M (fX5_read a1 M x2) := by
  refine CTO.of (by decide) (by simp [lg_sl, Value.category]) ?_
  show GO miX5_read (76) 0 0 0 0 0 [(0, .ref 17), (1, .ref a1), (2, .int x2)] [] M (bV (fX2_clear a1 M) (fun M1 => wr (sb M1 2 (isB a1)) (fun M3 => wr (si M3 17 6 0) (fun M4 => wr (si M4 17 7 (-1)) (fun M5 => bV (fX10_cut M5 x2) (fun M6 => wr (si M6 17 4 0) (fun M8 => bI (fX10_symbolAt M8 0) (fun M9 v10 => wr (si M9 17 5 v10) (fun M11 => fX5_read_b46 a1 FU M11 0)))))))))
  refine g_aload_n 1 rfl rfl dX5_read_0 ?_
  refine g_callVV (y := miX2_clear) (As := []) (rest := []) clX2 (kv_d3_24_0 _ h1) rfl moX2_clear rfl mlX5_37 (by first | decide | omega) (by decide) (by simp [Value.category]) rfl dX5_read_1 (SX2_clear a1 h1 M) (fun M1 => ?_)
  refine g_aload_n 0 rfl rfl dX5_read_4 ?_
  refine g_aload_n 1 rfl rfl dX5_read_5 ?_
  refine g_putR_X5_island h1 flX5_24 dX5_read_6 ?_
  refine GO.wr (fun M3 => ?_)
  refine g_aload_n 0 rfl rfl dX5_read_9 ?_
  refine g_iconst (v := 0) (by decide) dX5_read_10 ?_
  refine g_putI (k := 6) clX5 kd_17 (by decide) rfl (by decide) rfl flX5_40 dX5_read_11 ?_
  refine GO.wr (fun M4 => ?_)
  refine g_aload_n 0 rfl rfl dX5_read_14 ?_
  refine g_iconst (v := (-1)) (by decide) dX5_read_15 ?_
  refine g_putI (k := 7) clX5 kd_17 (by decide) rfl (by decide) rfl flX5_9 dX5_read_16 ?_
  refine GO.wr (fun M5 => ?_)
  refine g_aload_n 0 rfl rfl dX5_read_19 ?_
  refine g_getR (k := 0) (b := 18) clX5 kd_17 (by decide) rfl rfl flX5_20 dX5_read_20 ?_
  refine g_iload_n 2 rfl rfl dX5_read_23 ?_
  refine g_callVV (y := miX10_cut) (As := [.int x2]) (rest := []) clX10 kd_18 rfl moX10_cut rfl mlX5_43 (by first | decide | omega) (by decide) (by simp [Value.category]) rfl dX5_read_24 (SX10_cut  M5 x2) (fun M6 => ?_)
  refine g_aload_n 0 rfl rfl dX5_read_27 ?_
  refine g_iconst (v := 0) (by decide) dX5_read_28 ?_
  refine g_putI (k := 4) clX5 kd_17 (by decide) rfl (by decide) rfl flX5_47 dX5_read_29 ?_
  refine GO.wr (fun M8 => ?_)
  refine g_aload_n 0 rfl rfl dX5_read_32 ?_
  refine g_aload_n 0 rfl rfl dX5_read_33 ?_
  refine g_getR (k := 0) (b := 18) clX5 kd_17 (by decide) rfl rfl flX5_20 dX5_read_34 ?_
  refine g_iconst (v := 0) (by decide) dX5_read_37 ?_
  refine g_callVI (y := miX10_symbolAt) (As := [.int 0]) (rest := [.ref 17]) clX10 kd_18 rfl moX10_symbolAt rfl mlX5_50 (by first | decide | omega) (by decide) (by simp [Value.category]) rfl dX5_read_38 (SX10_symbolAt  M8 0) (fun M9 v10 => ?_)
  refine g_putI (k := 5) clX5 kd_17 (by decide) rfl (by decide) rfl flX5_54 dX5_read_41 ?_
  refine GO.wr (fun M11 => ?_)
  refine g_iconst (v := 0) (by decide) dX5_read_44 ?_
  refine g_istore_n (L' := [(3, .int 0), (0, .ref 17), (1, .ref a1), (2, .int x2)]) (by decide) rfl rfl dX5_read_45 ?_
  exact GO.pick [1, 0] rfl <| SX5_read_b46 a1 h1 FU M11 0
def fX11_island_b15 (M : Mem)  : RS := some (M, .inl 2)
theorem SX11_island_b15 (M : Mem)  : GO miX11_island (77) 1 6 0 0 15 [] [] M (fX11_island_b15 M ) := by
  show GO miX11_island (77) 1 6 0 0 15 [] [] M (some (M, .inl 2))
  exact g_throw2 rfl (by decide) (by decide) (by decide) dX11_island_15 dX11_island_18 dX11_island_19 dX11_island_22
def fX11_island (M : Mem) (x1 : Int32) : RS := if x1 < 0 then fX11_island_b15  M else if (gi M 1 1) < x1 then fX11_island_b15  M else bI (fX5_read (isA (gb M 1)) M x1) (fun M1 v2 => wr (si M1 1 1 0) (fun M3 => if v2 = 0 then wr (sb M3 0 (isB (isA (gb M3 1)))) (fun M4 => wr (sb M4 1 (isB (isA (gb M3 0)))) (fun M5 => bV (fX0_begin (isA (gb M5 0)) M5) (fun M6 => bV (fX3_takeShares 39 M6 (-1)) (fun M8 => wr (si M8 0 9 0) (fun M10 => some (M10, .inr (some (.int 0)))))))) else wr (si M3 49 0 ((gi M3 49 0) + 1)) (fun M11 => some (M11, .inr (some (.int v2))))))
theorem SX11_island (M : Mem) (x1 : Int32) : CTO (77) miX11_island 1 6 [.ref 0, .int x1] M (fX11_island  M x1) := by
  refine CTO.of (by decide) (by simp [lg_sl, Value.category]) ?_
  show GO miX11_island (77) 1 6 0 0 0 [(0, .ref 0), (1, .int x1)] [] M (if x1 < 0 then fX11_island_b15  M else if (gi M 1 1) < x1 then fX11_island_b15  M else bI (fX5_read (isA (gb M 1)) M x1) (fun M1 v2 => wr (si M1 1 1 0) (fun M3 => if v2 = 0 then wr (sb M3 0 (isB (isA (gb M3 1)))) (fun M4 => wr (sb M4 1 (isB (isA (gb M3 0)))) (fun M5 => bV (fX0_begin (isA (gb M5 0)) M5) (fun M6 => bV (fX3_takeShares 39 M6 (-1)) (fun M8 => wr (si M8 0 9 0) (fun M10 => some (M10, .inr (some (.int 0)))))))) else wr (si M3 49 0 ((gi M3 49 0) + 1)) (fun M11 => some (M11, .inr (some (.int v2)))))))
  refine g_iload_n 1 rfl rfl dX11_island_0 ?_
  refine g_if_lt (tgt := 15) rfl dX11_island_1 (fun c => ?_) (fun c => ?_)
  · exact GO.pick [] rfl <| SX11_island_b15  M
  · refine g_iload_n 1 rfl rfl dX11_island_4 ?_
    refine g_aload_n 0 rfl rfl dX11_island_5 ?_
    refine g_getR (k := 0) (b := 1) clX11 kd_0 (by decide) rfl rfl flX11_10 dX11_island_6 ?_
    refine g_getI (k := 1) clX9 kd_1 (by decide) rfl flX11_71 dX11_island_9 ?_
    refine g_icmp_le (tgt := 23) rfl dX11_island_12 (fun c => ?_) (fun c => ?_)
    · refine g_aload_n 0 rfl rfl dX11_island_23 ?_
      refine g_getR (k := 1) (b := 17) clX11 kd_0 (by decide) rfl rfl flX11_28 dX11_island_24 ?_
      refine g_aload_n 0 rfl rfl dX11_island_27 ?_
      refine g_getR (k := 8) (b := (isA (gb M 1))) clX11 kd_0 (by decide) rfl rfl flX11_19 dX11_island_28 ?_
      refine g_iload_n 1 rfl rfl dX11_island_31 ?_
      refine g_callVI (y := miX5_read) (As := [.ref (isA (gb M 1)), .int x1]) (rest := []) clX5 kd_17 rfl moX5_read rfl mlX11_82 (by first | decide | omega) (by decide) (by simp [Value.category]) rfl dX11_island_32 (SX5_read (isA (gb M 1)) (isA_dom _) M x1) (fun M1 v2 => ?_)
      refine g_istore_n (L' := [(2, .int v2), (0, .ref 0), (1, .int x1)]) (by decide) rfl rfl dX11_island_35 ?_
      refine g_aload_n 1 rfl rfl dX11_island_36 ?_
      refine g_getR (k := 0) (b := 1) clX11 kd_0 (by decide) rfl rfl flX11_10 dX11_island_37 ?_
      refine g_iconst (v := 0) (by decide) dX11_island_40 ?_
      refine g_putI (k := 1) clX9 kd_1 (by decide) rfl (by decide) rfl flX11_71 dX11_island_41 ?_
      refine GO.wr (fun M3 => ?_)
      refine g_iload_n 0 rfl rfl dX11_island_44 ?_
      refine g_if_eq (tgt := 63) rfl dX11_island_45 (fun c => ?_) (fun c => ?_)
      · refine g_aload_n 1 rfl rfl dX11_island_63 ?_
        refine g_getR (k := 2) (b := 22) clX11 kd_0 (by decide) rfl rfl flX11_35 dX11_island_64 ?_
        refine g_getR (k := 1) (b := (isA (gb M3 0))) clX3 kd_22 (by decide) rfl rfl flX11_89 dX11_island_67 ?_
        refine g_astore_n (L' := [(3, .ref (isA (gb M3 0))), (2, .int v2), (0, .ref 0), (1, .int x1)]) (by decide) rfl rfl dX11_island_70 ?_
        refine g_aload_n 2 rfl rfl dX11_island_71 ?_
        refine g_getR (k := 2) (b := 22) clX11 kd_0 (by decide) rfl rfl flX11_35 dX11_island_72 ?_
        refine g_aload_n 2 rfl rfl dX11_island_75 ?_
        refine g_getR (k := 8) (b := (isA (gb M3 1))) clX11 kd_0 (by decide) rfl rfl flX11_19 dX11_island_76 ?_
        refine g_putR_X3_island (isA_dom _) flX11_89 dX11_island_79 ?_
        refine GO.wr (fun M4 => ?_)
        refine g_aload_n 2 rfl rfl dX11_island_82 ?_
        refine g_aload_n 0 rfl rfl dX11_island_83 ?_
        refine g_putR_X11_draft (isA_dom _) flX11_19 dX11_island_84 ?_
        refine GO.wr (fun M5 => ?_)
        refine g_aload_n 2 rfl rfl dX11_island_87 ?_
        refine g_getR (k := 3) (b := 38) clX11 kd_0 (by decide) rfl rfl flX11_42 dX11_island_88 ?_
        refine g_aload_n 2 rfl rfl dX11_island_91 ?_
        refine g_getR (k := 2) (b := 22) clX11 kd_0 (by decide) rfl rfl flX11_35 dX11_island_92 ?_
        refine g_getR (k := 1) (b := (isA (gb M5 0))) clX3 kd_22 (by decide) rfl rfl flX11_89 dX11_island_95 ?_
        refine g_callVV (y := miX0_begin) (As := [.ref (isA (gb M5 0))]) (rest := []) clX0 kd_38 rfl moX0_begin rfl mlX11_92 (by first | decide | omega) (by decide) (by simp [Value.category]) rfl dX11_island_98 (SX0_begin (isA (gb M5 0)) (isA_dom _) M5) (fun M6 => ?_)
        refine g_aload_n 2 rfl rfl dX11_island_101 ?_
        refine g_getR (k := 2) (b := 22) clX11 kd_0 (by decide) rfl rfl flX11_35 dX11_island_102 ?_
        refine g_aload_n 2 rfl rfl dX11_island_105 ?_
        refine g_getR (k := 3) (b := 38) clX11 kd_0 (by decide) rfl rfl flX11_42 dX11_island_106 ?_
        refine g_getR (k := 0) (b := 39) clX0 kd_38 (by decide) rfl rfl flX11_96 dX11_island_109 ?_
        refine g_iconst (v := (-1)) (by decide) dX11_island_112 ?_
        refine g_callVV (y := miX3_takeShares) (As := [.ref 39, .int (-1)]) (rest := []) clX3 kd_22 rfl moX3_takeShares rfl mlX11_99 (by first | decide | omega) (by decide) (by simp [Value.category]) rfl dX11_island_113 (SX3_takeShares 39 (by decide) M6 (-1)) (fun M8 => ?_)
        refine g_aload_n 2 rfl rfl dX11_island_116 ?_
        refine g_iconst (v := 0) (by decide) dX11_island_117 ?_
        refine g_putZ (k := 9) clX11 kd_0 (by decide) rfl (by decide) rfl (by decide) flX11_67 dX11_island_118 ?_
        refine GO.wr (fun M10 => ?_)
        refine g_iconst (v := 0) (by decide) dX11_island_121 ?_
        exact g_ireturn rfl (by decide) (by decide) dX11_island_122 rfl rfl
      · refine g_aload_n 1 rfl rfl dX11_island_48 ?_
        refine g_getR (k := 3) (b := 38) clX11 kd_0 (by decide) rfl rfl flX11_42 dX11_island_49 ?_
        refine g_getR (k := 3) (b := 49) clX0 kd_38 (by decide) rfl rfl flX11_86 dX11_island_52 ?_
        refine g_iconst (v := 0) (by decide) dX11_island_55 ?_
        refine g_dup2_ri dX11_island_56 ?_
        refine g_aldL (j := 0) kd_49 (by decide) (by decide) dX11_island_57 ?_
        refine g_iconst (v := 1) (by decide) dX11_island_58 ?_
        refine g_iadd dX11_island_59 ?_
        refine g_astL (j := 0) kd_49 (by decide) (by decide) dX11_island_60 ?_
        refine GO.wr (fun M11 => ?_)
        refine g_iload_n 0 rfl rfl dX11_island_61 ?_
        exact g_ireturn rfl (by decide) (by decide) dX11_island_62 rfl rfl
    · exact GO.pick [] rfl <| SX11_island_b15  M
def fX11_fault (M : Mem)  : RS := some (M, .inr (some (.int (gi M 17 7))))
theorem SX11_fault (M : Mem)  : CTO (0) miX11_fault 0 0 [.ref 0] M (fX11_fault  M ) := by
  refine CTO.of (by decide) (by simp [lg_sl, Value.category]) ?_
  show GO miX11_fault (0) 0 0 0 0 0 [(0, .ref 0)] [] M (some (M, .inr (some (.int (gi M 17 7)))))
  refine g_aload_n 0 rfl rfl dX11_fault_0 ?_
  refine g_getR (k := 1) (b := 17) clX11 kd_0 (by decide) rfl rfl flX11_28 dX11_fault_1 ?_
  refine g_getI (k := 7) clX5 kd_17 (by decide) rfl flX11_103 dX11_fault_4 ?_
  exact g_ireturn rfl (by decide) (by decide) dX11_fault_7 rfl rfl
def fX11_marketPlace (M : Mem)  : RS := some (M, .inr (some (.int ((100 * (gi M 39 3)) + (gi M 39 2)))))
theorem SX11_marketPlace (M : Mem)  : CTO (0) miX11_marketPlace 0 0 [.ref 0] M (fX11_marketPlace  M ) := by
  refine CTO.of (by decide) (by simp [lg_sl, Value.category]) ?_
  show GO miX11_marketPlace (0) 0 0 0 0 0 [(0, .ref 0)] [] M (some (M, .inr (some (.int ((100 * (gi M 39 3)) + (gi M 39 2))))))
  refine g_bipush (v := 100) (by decide) dX11_marketPlace_0 ?_
  refine g_aload_n 0 rfl rfl dX11_marketPlace_2 ?_
  refine g_getR (k := 3) (b := 38) clX11 kd_0 (by decide) rfl rfl flX11_42 dX11_marketPlace_3 ?_
  refine g_getR (k := 0) (b := 39) clX0 kd_38 (by decide) rfl rfl flX11_96 dX11_marketPlace_6 ?_
  refine g_getI (k := 3) clX8 kd_39 (by decide) rfl flX11_218 dX11_marketPlace_9 ?_
  refine g_imul dX11_marketPlace_12 ?_
  refine g_aload_n 0 rfl rfl dX11_marketPlace_13 ?_
  refine g_getR (k := 3) (b := 38) clX11 kd_0 (by decide) rfl rfl flX11_42 dX11_marketPlace_14 ?_
  refine g_getR (k := 0) (b := 39) clX0 kd_38 (by decide) rfl rfl flX11_96 dX11_marketPlace_17 ?_
  refine g_getI (k := 2) clX8 kd_39 (by decide) rfl flX11_221 dX11_marketPlace_20 ?_
  refine g_iadd dX11_marketPlace_23 ?_
  exact g_ireturn rfl (by decide) (by decide) dX11_marketPlace_24 rfl rfl
def fJ9_floorMod_7cf53 (M : Mem) (x0 : Int32) (x1 : Int32) : RS := chk (!decide (x1 = 0)) (if (x0 ^^^ x1) < 0 then if (x0 - x0 / x1 * x1) = 0 then some (M, .inr (some (.int (x0 - x0 / x1 * x1)))) else some (M, .inr (some (.int ((x0 - x0 / x1 * x1) + x1)))) else some (M, .inr (some (.int (x0 - x0 / x1 * x1)))))
theorem SJ9_floorMod_7cf53 (M : Mem) (x0 : Int32) (x1 : Int32) : CTO (0) miJ9_floorMod_7cf53 0 0 [.int x0, .int x1] M (fJ9_floorMod_7cf53  M x0 x1) := by
  refine CTO.ofF (by decide +kernel) (by simp [lg_sl, Value.category]) ?_
  show GO miJ9_floorMod_7cf53 (0) 0 0 0 0 0 [(0, .int x0), (1, .int x1)] [] M (chk (!decide (x1 = 0)) (if (x0 ^^^ x1) < 0 then if (x0 - x0 / x1 * x1) = 0 then some (M, .inr (some (.int (x0 - x0 / x1 * x1)))) else some (M, .inr (some (.int ((x0 - x0 / x1 * x1) + x1)))) else some (M, .inr (some (.int (x0 - x0 / x1 * x1))))))
  refine g_iload_n 0 rfl rfl dJ9_floorMod_7cf53_0 ?_
  refine g_iload_n 1 rfl rfl dJ9_floorMod_7cf53_1 ?_
  refine GO.chk fun hy => ?_
  refine g_irem (by simpa using hy) dJ9_floorMod_7cf53_2 ?_
  refine g_istore_n (L' := [(2, .int (x0 - x0 / x1 * x1)), (0, .int x0), (1, .int x1)]) (by decide) rfl rfl dJ9_floorMod_7cf53_3 ?_
  refine g_iload_n 1 rfl rfl dJ9_floorMod_7cf53_4 ?_
  refine g_iload_n 2 rfl rfl dJ9_floorMod_7cf53_5 ?_
  refine g_ixor dJ9_floorMod_7cf53_6 ?_
  refine g_if_ge (tgt := 18) rfl dJ9_floorMod_7cf53_7 (fun c => ?_) (fun c => ?_)
  · refine g_iload_n 0 rfl rfl dJ9_floorMod_7cf53_18 ?_
    exact g_ireturn rfl (by decide) (by decide) dJ9_floorMod_7cf53_19 rfl rfl
  · refine g_iload_n 0 rfl rfl dJ9_floorMod_7cf53_10 ?_
    refine g_if_eq (tgt := 18) rfl dJ9_floorMod_7cf53_11 (fun c => ?_) (fun c => ?_)
    · refine g_iload_n 0 rfl rfl dJ9_floorMod_7cf53_18 ?_
      exact g_ireturn rfl (by decide) (by decide) dJ9_floorMod_7cf53_19 rfl rfl
    · refine g_iload_n 0 rfl rfl dJ9_floorMod_7cf53_14 ?_
      refine g_iload_n 2 rfl rfl dJ9_floorMod_7cf53_15 ?_
      refine g_iadd dJ9_floorMod_7cf53_16 ?_
      exact g_ireturn rfl (by decide) (by decide) dJ9_floorMod_7cf53_17 rfl rfl
def fX2_rainIn (a0 : Nat) (M : Mem) (x1 : Int32) : RS := if 0 < (gi M a0 11) then if 10 < (gi M a0 11) then some (M, .inr (some (.int 3))) else bI (fJ9_floorMod_7cf53 M x1 (gi M a0 11)) (fun M1 v2 => chk (inb v2 10) (some (M1, .inr (some (.int (gi M1 (a0 + 7) (ix v2))))))) else some (M, .inr (some (.int 3)))
theorem SX2_rainIn (a0 : Nat) (h0 : a0 ∈ [3, 24]) (M : Mem) (x1 : Int32) : CTO (1) miX2_rainIn 0 0 [.ref a0, .int x1] M (fX2_rainIn a0 M x1) := by
  refine CTO.of (by decide) (by simp [lg_sl, Value.category]) ?_
  show GO miX2_rainIn (1) 0 0 0 0 0 [(0, .ref a0), (1, .int x1)] [] M (if 0 < (gi M a0 11) then if 10 < (gi M a0 11) then some (M, .inr (some (.int 3))) else bI (fJ9_floorMod_7cf53 M x1 (gi M a0 11)) (fun M1 v2 => chk (inb v2 10) (some (M1, .inr (some (.int (gi M1 (a0 + 7) (ix v2))))))) else some (M, .inr (some (.int 3))))
  refine g_aload_n 0 rfl rfl dX2_rainIn_0 ?_
  refine g_getI (k := 11) clX2 (kv_d3_24_0 _ h0) (by decide) rfl flX2_50 dX2_rainIn_1 ?_
  refine g_if_le (tgt := 16) rfl dX2_rainIn_4 (fun c => ?_) (fun c => ?_)
  · refine g_iconst (v := 3) (by decide) dX2_rainIn_16 ?_
    exact g_ireturn rfl (by decide) (by decide) dX2_rainIn_17 rfl rfl
  · refine g_aload_n 0 rfl rfl dX2_rainIn_7 ?_
    refine g_getI (k := 11) clX2 (kv_d3_24_0 _ h0) (by decide) rfl flX2_50 dX2_rainIn_8 ?_
    refine g_bipush (v := 10) (by decide) dX2_rainIn_11 ?_
    refine g_icmp_le (tgt := 18) rfl dX2_rainIn_13 (fun c => ?_) (fun c => ?_)
    · refine g_aload_n 0 rfl rfl dX2_rainIn_18 ?_
      refine g_getR (k := 6) (b := (a0 + 7)) clX2 (kv_d3_24_0 _ h0) (by decide) rfl rfl flX2_30 dX2_rainIn_19 ?_
      refine g_iload_n 1 rfl rfl dX2_rainIn_22 ?_
      refine g_aload_n 0 rfl rfl dX2_rainIn_23 ?_
      refine g_getI (k := 11) clX2 (kv_d3_24_0 _ h0) (by decide) rfl flX2_50 dX2_rainIn_24 ?_
      refine g_callSI (y := miJ9_floorMod_7cf53) (As := [.int x1, .int (gi M a0 11)]) (rest := [.ref (a0 + 7)]) moJ9_floorMod_7cf53 rfl mlX2_72 (by first | decide | omega) (by decide) (by simp [Value.category]) rfl dX2_rainIn_27 (SJ9_floorMod_7cf53  M x1 (gi M a0 11)) (fun M1 v2 => ?_)
      refine g_ald (kv_d3_24_7 _ h0) dX2_rainIn_30 (fun hi3 => ?_)
      exact g_ireturn rfl (by decide) (by decide) dX2_rainIn_31 rfl rfl
    · refine g_iconst (v := 3) (by decide) dX2_rainIn_16 ?_
      exact g_ireturn rfl (by decide) (by decide) dX2_rainIn_17 rfl rfl
def fX11_count (M : Mem) (x1 : Int32) : RS := if x1 = 0 then some (M, .inr (some (.int (gi M (isA (gb M 0)) 9)))) else if x1 = 1 then some (M, .inr (some (.int (gi M (isA (gb M 0)) 10)))) else if x1 = 2 then bI (fX11_marketPlace M) (fun M1 v2 => some (M1, .inr (some (.int v2)))) else if x1 = 3 then some (M, .inr (some (.int (gi M (isA (gb M 0)) 14)))) else if x1 = 4 then some (M, .inr (some (.int (gi M 39 4)))) else if x1 = 5 then bI (fX2_rainIn (isA (gb M 0)) M (gi M 39 4)) (fun M3 v4 => some (M3, .inr (some (.int v4)))) else if x1 = 6 then some (M, .inr (some (.int (gi M 39 1)))) else if x1 = 7 then some (M, .inr (some (.int (gi M 39 5)))) else if x1 = 8 then some (M, .inr (some (.int (gi M 39 6)))) else if x1 = 9 then some (M, .inr (some (.int (gi M 39 0)))) else if x1 = 10 then some (M, .inr (some (.int (gi M 43 2)))) else if x1 = 11 then some (M, .inr (some (.int (gi M 45 3)))) else if x1 = 12 then some (M, .inr (some (.int (gi M 1 1)))) else if x1 = 13 then some (M, .inr (some (.int (gi M 49 0)))) else if x1 = 14 then some (M, .inr (some (.int (gi M 49 1)))) else if x1 = 15 then some (M, .inr (some (.int (gi M 49 2)))) else some (M, .inl 1)
theorem SX11_count (M : Mem) (x1 : Int32) : CTO (6) miX11_count 1 6 [.ref 0, .int x1] M (fX11_count  M x1) := by
  refine CTO.of (by decide) (by simp [lg_sl, Value.category]) ?_
  show GO miX11_count (6) 1 6 0 0 0 [(0, .ref 0), (1, .int x1)] [] M (if x1 = 0 then some (M, .inr (some (.int (gi M (isA (gb M 0)) 9)))) else if x1 = 1 then some (M, .inr (some (.int (gi M (isA (gb M 0)) 10)))) else if x1 = 2 then bI (fX11_marketPlace M) (fun M1 v2 => some (M1, .inr (some (.int v2)))) else if x1 = 3 then some (M, .inr (some (.int (gi M (isA (gb M 0)) 14)))) else if x1 = 4 then some (M, .inr (some (.int (gi M 39 4)))) else if x1 = 5 then bI (fX2_rainIn (isA (gb M 0)) M (gi M 39 4)) (fun M3 v4 => some (M3, .inr (some (.int v4)))) else if x1 = 6 then some (M, .inr (some (.int (gi M 39 1)))) else if x1 = 7 then some (M, .inr (some (.int (gi M 39 5)))) else if x1 = 8 then some (M, .inr (some (.int (gi M 39 6)))) else if x1 = 9 then some (M, .inr (some (.int (gi M 39 0)))) else if x1 = 10 then some (M, .inr (some (.int (gi M 43 2)))) else if x1 = 11 then some (M, .inr (some (.int (gi M 45 3)))) else if x1 = 12 then some (M, .inr (some (.int (gi M 1 1)))) else if x1 = 13 then some (M, .inr (some (.int (gi M 49 0)))) else if x1 = 14 then some (M, .inr (some (.int (gi M 49 1)))) else if x1 = 15 then some (M, .inr (some (.int (gi M 49 2)))) else some (M, .inl 1))
  refine g_aload_n 0 rfl rfl dX11_count_0 ?_
  refine g_getR (k := 3) (b := 38) clX11 kd_0 (by decide) rfl rfl flX11_42 dX11_count_1 ?_
  refine g_getR (k := 0) (b := 39) clX0 kd_38 (by decide) rfl rfl flX11_96 dX11_count_4 ?_
  refine g_astore_n (L' := [(2, .ref 39), (0, .ref 0), (1, .int x1)]) (by decide) rfl rfl dX11_count_7 ?_
  refine g_iload_n 2 rfl rfl dX11_count_8 ?_
  refine g_tabI (tgt := 88) (off := 79) 0 rfl (by decide) (by decide) (by decide) dX11_count_9 ?_ (fun c0 => ?_)
  · refine g_aload_n 1 rfl rfl dX11_count_88 ?_
    refine g_getR (k := 2) (b := 22) clX11 kd_0 (by decide) rfl rfl flX11_35 dX11_count_89 ?_
    refine g_getR (k := 1) (b := (isA (gb M 0))) clX3 kd_22 (by decide) rfl rfl flX11_89 dX11_count_92 ?_
    refine g_getI (k := 9) clX2 (kv_d3_24_0 _ (isA_dom _)) (by decide) rfl flX11_106 dX11_count_95 ?_
    exact g_ireturn rfl (by decide) (by decide) dX11_count_98 rfl rfl
  refine g_tabI (tgt := 99) (off := 90) 1 rfl (by decide) (by decide) (by decide) dX11_count_9 ?_ (fun c1 => ?_)
  · refine g_aload_n 1 rfl rfl dX11_count_99 ?_
    refine g_getR (k := 2) (b := 22) clX11 kd_0 (by decide) rfl rfl flX11_35 dX11_count_100 ?_
    refine g_getR (k := 1) (b := (isA (gb M 0))) clX3 kd_22 (by decide) rfl rfl flX11_89 dX11_count_103 ?_
    refine g_getI (k := 10) clX2 (kv_d3_24_0 _ (isA_dom _)) (by decide) rfl flX11_109 dX11_count_106 ?_
    exact g_ireturn rfl (by decide) (by decide) dX11_count_109 rfl rfl
  refine g_tabI (tgt := 110) (off := 101) 2 rfl (by decide) (by decide) (by decide) dX11_count_9 ?_ (fun c2 => ?_)
  · refine g_aload_n 1 rfl rfl dX11_count_110 ?_
    refine g_callVI (y := miX11_marketPlace) (As := []) (rest := []) clX11 kd_0 rfl moX11_marketPlace rfl mlX11_112 (by first | decide | omega) (by decide) (by simp [Value.category]) rfl dX11_count_111 (SX11_marketPlace  M) (fun M1 v2 => ?_)
    exact g_ireturn rfl (by decide) (by decide) dX11_count_114 rfl rfl
  refine g_tabI (tgt := 115) (off := 106) 3 rfl (by decide) (by decide) (by decide) dX11_count_9 ?_ (fun c3 => ?_)
  · refine g_aload_n 1 rfl rfl dX11_count_115 ?_
    refine g_getR (k := 2) (b := 22) clX11 kd_0 (by decide) rfl rfl flX11_35 dX11_count_116 ?_
    refine g_getR (k := 1) (b := (isA (gb M 0))) clX3 kd_22 (by decide) rfl rfl flX11_89 dX11_count_119 ?_
    refine g_getI (k := 14) clX2 (kv_d3_24_0 _ (isA_dom _)) (by decide) rfl flX11_116 dX11_count_122 ?_
    exact g_ireturn rfl (by decide) (by decide) dX11_count_125 rfl rfl
  refine g_tabI (tgt := 126) (off := 117) 4 rfl (by decide) (by decide) (by decide) dX11_count_9 ?_ (fun c4 => ?_)
  · refine g_aload_n 0 rfl rfl dX11_count_126 ?_
    refine g_getI (k := 4) clX8 kd_39 (by decide) rfl flX11_119 dX11_count_127 ?_
    exact g_ireturn rfl (by decide) (by decide) dX11_count_130 rfl rfl
  refine g_tabI (tgt := 131) (off := 122) 5 rfl (by decide) (by decide) (by decide) dX11_count_9 ?_ (fun c5 => ?_)
  · refine g_aload_n 1 rfl rfl dX11_count_131 ?_
    refine g_getR (k := 2) (b := 22) clX11 kd_0 (by decide) rfl rfl flX11_35 dX11_count_132 ?_
    refine g_getR (k := 1) (b := (isA (gb M 0))) clX3 kd_22 (by decide) rfl rfl flX11_89 dX11_count_135 ?_
    refine g_aload_n 0 rfl rfl dX11_count_138 ?_
    refine g_getI (k := 4) clX8 kd_39 (by decide) rfl flX11_119 dX11_count_139 ?_
    refine g_callVI (y := miX2_rainIn) (As := [.int (gi M 39 4)]) (rest := []) clX2 (kv_d3_24_0 _ (isA_dom _)) rfl moX2_rainIn rfl mlX11_122 (by first | decide | omega) (by decide) (by simp [Value.category]) rfl dX11_count_142 (SX2_rainIn (isA (gb M 0)) (isA_dom _) M (gi M 39 4)) (fun M3 v4 => ?_)
    exact g_ireturn rfl (by decide) (by decide) dX11_count_145 rfl rfl
  refine g_tabI (tgt := 146) (off := 137) 6 rfl (by decide) (by decide) (by decide) dX11_count_9 ?_ (fun c6 => ?_)
  · refine g_aload_n 0 rfl rfl dX11_count_146 ?_
    refine g_getI (k := 1) clX8 kd_39 (by decide) rfl flX11_126 dX11_count_147 ?_
    exact g_ireturn rfl (by decide) (by decide) dX11_count_150 rfl rfl
  refine g_tabI (tgt := 151) (off := 142) 7 rfl (by decide) (by decide) (by decide) dX11_count_9 ?_ (fun c7 => ?_)
  · refine g_aload_n 0 rfl rfl dX11_count_151 ?_
    refine g_getI (k := 5) clX8 kd_39 (by decide) rfl flX11_129 dX11_count_152 ?_
    exact g_ireturn rfl (by decide) (by decide) dX11_count_155 rfl rfl
  refine g_tabI (tgt := 156) (off := 147) 8 rfl (by decide) (by decide) (by decide) dX11_count_9 ?_ (fun c8 => ?_)
  · refine g_aload_n 0 rfl rfl dX11_count_156 ?_
    refine g_getI (k := 6) clX8 kd_39 (by decide) rfl flX11_132 dX11_count_157 ?_
    exact g_ireturn rfl (by decide) (by decide) dX11_count_160 rfl rfl
  refine g_tabI (tgt := 161) (off := 152) 9 rfl (by decide) (by decide) (by decide) dX11_count_9 ?_ (fun c9 => ?_)
  · refine g_aload_n 0 rfl rfl dX11_count_161 ?_
    refine g_getI (k := 0) clX8 kd_39 (by decide) rfl flX11_135 dX11_count_162 ?_
    exact g_ireturn rfl (by decide) (by decide) dX11_count_165 rfl rfl
  refine g_tabI (tgt := 166) (off := 157) 10 rfl (by decide) (by decide) (by decide) dX11_count_9 ?_ (fun c10 => ?_)
  · refine g_aload_n 1 rfl rfl dX11_count_166 ?_
    refine g_getR (k := 3) (b := 38) clX11 kd_0 (by decide) rfl rfl flX11_42 dX11_count_167 ?_
    refine g_getR (k := 1) (b := 43) clX0 kd_38 (by decide) rfl rfl flX11_138 dX11_count_170 ?_
    refine g_getI (k := 2) clX1 kd_43 (by decide) rfl flX11_142 dX11_count_173 ?_
    exact g_ireturn rfl (by decide) (by decide) dX11_count_176 rfl rfl
  refine g_tabI (tgt := 177) (off := 168) 11 rfl (by decide) (by decide) (by decide) dX11_count_9 ?_ (fun c11 => ?_)
  · refine g_aload_n 1 rfl rfl dX11_count_177 ?_
    refine g_getR (k := 3) (b := 38) clX11 kd_0 (by decide) rfl rfl flX11_42 dX11_count_178 ?_
    refine g_getR (k := 2) (b := 45) clX0 kd_38 (by decide) rfl rfl flX11_147 dX11_count_181 ?_
    refine g_getI (k := 3) clX7 kd_45 (by decide) rfl flX11_151 dX11_count_184 ?_
    exact g_ireturn rfl (by decide) (by decide) dX11_count_187 rfl rfl
  refine g_tabI (tgt := 188) (off := 179) 12 rfl (by decide) (by decide) (by decide) dX11_count_9 ?_ (fun c12 => ?_)
  · refine g_aload_n 1 rfl rfl dX11_count_188 ?_
    refine g_getR (k := 0) (b := 1) clX11 kd_0 (by decide) rfl rfl flX11_10 dX11_count_189 ?_
    refine g_getI (k := 1) clX9 kd_1 (by decide) rfl flX11_71 dX11_count_192 ?_
    exact g_ireturn rfl (by decide) (by decide) dX11_count_195 rfl rfl
  refine g_tabI (tgt := 196) (off := 187) 13 rfl (by decide) (by decide) (by decide) dX11_count_9 ?_ (fun c13 => ?_)
  · refine g_aload_n 1 rfl rfl dX11_count_196 ?_
    refine g_getR (k := 3) (b := 38) clX11 kd_0 (by decide) rfl rfl flX11_42 dX11_count_197 ?_
    refine g_getR (k := 3) (b := 49) clX0 kd_38 (by decide) rfl rfl flX11_86 dX11_count_200 ?_
    refine g_iconst (v := 0) (by decide) dX11_count_203 ?_
    refine g_aldL (j := 0) kd_49 (by decide) (by decide) dX11_count_204 ?_
    exact g_ireturn rfl (by decide) (by decide) dX11_count_205 rfl rfl
  refine g_tabI (tgt := 206) (off := 197) 14 rfl (by decide) (by decide) (by decide) dX11_count_9 ?_ (fun c14 => ?_)
  · refine g_aload_n 1 rfl rfl dX11_count_206 ?_
    refine g_getR (k := 3) (b := 38) clX11 kd_0 (by decide) rfl rfl flX11_42 dX11_count_207 ?_
    refine g_getR (k := 3) (b := 49) clX0 kd_38 (by decide) rfl rfl flX11_86 dX11_count_210 ?_
    refine g_iconst (v := 1) (by decide) dX11_count_213 ?_
    refine g_aldL (j := 1) kd_49 (by decide) (by decide) dX11_count_214 ?_
    exact g_ireturn rfl (by decide) (by decide) dX11_count_215 rfl rfl
  refine g_tabI (tgt := 216) (off := 207) 15 rfl (by decide) (by decide) (by decide) dX11_count_9 ?_ (fun c15 => ?_)
  · refine g_aload_n 1 rfl rfl dX11_count_216 ?_
    refine g_getR (k := 3) (b := 38) clX11 kd_0 (by decide) rfl rfl flX11_42 dX11_count_217 ?_
    refine g_getR (k := 3) (b := 49) clX0 kd_38 (by decide) rfl rfl flX11_86 dX11_count_220 ?_
    refine g_iconst (v := 2) (by decide) dX11_count_223 ?_
    refine g_aldL (j := 2) kd_49 (by decide) (by decide) dX11_count_224 ?_
    exact g_ireturn rfl (by decide) (by decide) dX11_count_225 rfl rfl
  refine g_tabZ (tgt := 226) [0, 1, 2, 3, 4, 5, 6, 7, 8, 9, 10, 11, 12, 13, 14, 15] (List.forall_mem_cons.mpr ⟨c0, (List.forall_mem_cons.mpr ⟨c1, (List.forall_mem_cons.mpr ⟨c2, (List.forall_mem_cons.mpr ⟨c3, (List.forall_mem_cons.mpr ⟨c4, (List.forall_mem_cons.mpr ⟨c5, (List.forall_mem_cons.mpr ⟨c6, (List.forall_mem_cons.mpr ⟨c7, (List.forall_mem_cons.mpr ⟨c8, (List.forall_mem_cons.mpr ⟨c9, (List.forall_mem_cons.mpr ⟨c10, (List.forall_mem_cons.mpr ⟨c11, (List.forall_mem_cons.mpr ⟨c12, (List.forall_mem_cons.mpr ⟨c13, (List.forall_mem_cons.mpr ⟨c14, (List.forall_mem_cons.mpr ⟨c15, (fun _ h => absurd h List.not_mem_nil)⟩)⟩)⟩)⟩)⟩)⟩)⟩)⟩)⟩)⟩)⟩)⟩)⟩)⟩)⟩)⟩) rfl dX11_count_9 (by decide) (by decide) ?_
  exact g_throw1 rfl (by decide) (by decide) (by decide) dX11_count_226 dX11_count_229 dX11_count_230 dX11_count_233
def fX11_needHouse (M : Mem) (x1 : Int32) : RS := bI (fX2_hasHouse (isA (gb M 0)) M x1) (fun M1 v2 => if v2 = 0 then some (M1, .inl 1) else some (M1, .inr none))
theorem SX11_needHouse (M : Mem) (x1 : Int32) : CTO (6) miX11_needHouse 1 6 [.ref 0, .int x1] M (fX11_needHouse  M x1) := by
  refine CTO.of (by decide) (by simp [lg_sl, Value.category]) ?_
  show GO miX11_needHouse (6) 1 6 0 0 0 [(0, .ref 0), (1, .int x1)] [] M (bI (fX2_hasHouse (isA (gb M 0)) M x1) (fun M1 v2 => if v2 = 0 then some (M1, .inl 1) else some (M1, .inr none)))
  refine g_aload_n 0 rfl rfl dX11_needHouse_0 ?_
  refine g_getR (k := 2) (b := 22) clX11 kd_0 (by decide) rfl rfl flX11_35 dX11_needHouse_1 ?_
  refine g_getR (k := 1) (b := (isA (gb M 0))) clX3 kd_22 (by decide) rfl rfl flX11_89 dX11_needHouse_4 ?_
  refine g_iload_n 1 rfl rfl dX11_needHouse_7 ?_
  refine g_callVI (y := miX2_hasHouse) (As := [.int x1]) (rest := []) clX2 (kv_d3_24_0 _ (isA_dom _)) rfl moX2_hasHouse rfl mlX11_369 (by first | decide | omega) (by decide) (by simp [Value.category]) rfl dX11_needHouse_8 (SX2_hasHouse (isA (gb M 0)) (isA_dom _) M x1) (fun M1 v2 => ?_)
  refine g_if_ne (tgt := 22) rfl dX11_needHouse_11 (fun c => ?_) (fun c => ?_)
  · exact g_vreturn rfl (by decide) (by decide) dX11_needHouse_22
  · exact g_throw1 rfl (by decide) (by decide) (by decide) dX11_needHouse_14 dX11_needHouse_17 dX11_needHouse_18 dX11_needHouse_21
def fX3_worthOfShare (a1 : Nat) (M : Mem) (x2 : Int32) (x3 : Int64) : RS := bI (fX2_hasHouse (isA (gb M 0)) M x2) (fun M1 v2 => if v2 = 0 then some (M1, .inr (some (.long x3))) else chk (inb x2 8) (if (gi M1 (a1 + 2) (ix x2)) = (-1) then some (M1, .inr (some (.long x3))) else chk (inb x2 8) (bI (fX3_worthOf a1 M1 x2 (gi M1 (a1 + 2) (ix x2))) (fun M5 v6 => some (M5, .inr (some (.long (Int32.toInt64 v6))))))))
theorem SX3_worthOfShare (a1 : Nat) (h1 : a1 ∈ [39, 62]) (M : Mem) (x2 : Int32) (x3 : Int64) : CTO (4) miX3_worthOfShare 0 0 [.ref 22, .ref a1, .int x2, .long x3] M (fX3_worthOfShare a1 M x2 x3) := by
  refine CTO.of (by decide) (by simp [lg_sl, Value.category]) ?_
  show GO miX3_worthOfShare (4) 0 0 0 0 0 [(0, .ref 22), (1, .ref a1), (2, .int x2), (3, .long x3)] [] M (bI (fX2_hasHouse (isA (gb M 0)) M x2) (fun M1 v2 => if v2 = 0 then some (M1, .inr (some (.long x3))) else chk (inb x2 8) (if (gi M1 (a1 + 2) (ix x2)) = (-1) then some (M1, .inr (some (.long x3))) else chk (inb x2 8) (bI (fX3_worthOf a1 M1 x2 (gi M1 (a1 + 2) (ix x2))) (fun M5 v6 => some (M5, .inr (some (.long (Int32.toInt64 v6)))))))))
  refine g_aload_n 0 rfl rfl dX3_worthOfShare_0 ?_
  refine g_getR (k := 1) (b := (isA (gb M 0))) clX3 kd_22 (by decide) rfl rfl flX3_18 dX3_worthOfShare_1 ?_
  refine g_iload_n 2 rfl rfl dX3_worthOfShare_4 ?_
  refine g_callVI (y := miX2_hasHouse) (As := [.int x2]) (rest := []) clX2 (kv_d3_24_0 _ (isA_dom _)) rfl moX2_hasHouse rfl mlX3_22 (by first | decide | omega) (by decide) (by simp [Value.category]) rfl dX3_worthOfShare_5 (SX2_hasHouse (isA (gb M 0)) (isA_dom _) M x2) (fun M1 v2 => ?_)
  refine g_if_eq (tgt := 21) rfl dX3_worthOfShare_8 (fun c => ?_) (fun c => ?_)
  · refine g_lload_n 3 rfl rfl dX3_worthOfShare_21 ?_
    exact g_lreturn rfl (by decide) (by decide) dX3_worthOfShare_22
  · refine g_aload_n 1 rfl rfl dX3_worthOfShare_11 ?_
    refine g_getR (k := 8) (b := (a1 + 2)) clX8 (kv_d39_62_0 _ h1) (by decide) rfl rfl flX3_65 dX3_worthOfShare_12 ?_
    refine g_iload_n 2 rfl rfl dX3_worthOfShare_15 ?_
    refine g_ald (kv_d39_62_2 _ h1) dX3_worthOfShare_16 (fun hi3 => ?_)
    refine g_iconst (v := (-1)) (by decide) dX3_worthOfShare_17 ?_
    refine g_icmp_ne (tgt := 23) rfl dX3_worthOfShare_18 (fun c => ?_) (fun c => ?_)
    · refine g_aload_n 0 rfl rfl dX3_worthOfShare_23 ?_
      refine g_aload_n 1 rfl rfl dX3_worthOfShare_24 ?_
      refine g_iload_n 2 rfl rfl dX3_worthOfShare_25 ?_
      refine g_aload_n 1 rfl rfl dX3_worthOfShare_26 ?_
      refine g_getR (k := 8) (b := (a1 + 2)) clX8 (kv_d39_62_0 _ h1) (by decide) rfl rfl flX3_65 dX3_worthOfShare_27 ?_
      refine g_iload_n 2 rfl rfl dX3_worthOfShare_30 ?_
      refine g_ald (kv_d39_62_2 _ h1) dX3_worthOfShare_31 (fun hi4 => ?_)
      refine g_callVI (y := miX3_worthOf) (As := [.ref a1, .int x2, .int (gi M1 (a1 + 2) (ix x2))]) (rest := []) clX3 kd_22 rfl moX3_worthOf rfl mlX3_97 (by first | decide | omega) (by decide) (by simp [Value.category]) rfl dX3_worthOfShare_32 (SX3_worthOf a1 h1 M1 x2 (gi M1 (a1 + 2) (ix x2))) (fun M5 v6 => ?_)
      refine g_i2l dX3_worthOfShare_35 ?_
      exact g_lreturn rfl (by decide) (by decide) dX3_worthOfShare_36
    · refine g_lload_n 3 rfl rfl dX3_worthOfShare_21 ?_
      exact g_lreturn rfl (by decide) (by decide) dX3_worthOfShare_22
def fX3_enviedBy_b72 (rec16 : Mem → Int32 → Int64 → Int32 → Int32 → RS) (M : Mem) (x2 : Int32) (x3 : Int64) (x5 : Int32) (x6 : Int32) : RS := rec16 M x2 x3 x5 (x6 + 1)
theorem SX3_enviedBy_b72 (rec16 : Mem → Int32 → Int64 → Int32 → Int32 → RS) (hrec16 : ∀ (M : Mem) (x2 : Int32) (x3 : Int64) (x5 : Int32) (x6 : Int32), GO miX3_enviedBy (5) 0 0 0 0 16 [(0, .ref 22), (1, .ref 39), (2, .int x2), (3, .long x3), (5, .int x5), (6, .int x6)] [] M (rec16 M x2 x3 x5 x6)) (M : Mem) (x2 : Int32) (x3 : Int64) (x5 : Int32) (x6 : Int32) : GO miX3_enviedBy (5) 0 0 0 0 72 [(0, .ref 22), (1, .ref 39), (2, .int x2), (3, .long x3), (5, .int x5), (6, .int x6)] [] M (fX3_enviedBy_b72 rec16 M x2 x3 x5 x6) := by
  show GO miX3_enviedBy (5) 0 0 0 0 72 [(0, .ref 22), (1, .ref 39), (2, .int x2), (3, .long x3), (5, .int x5), (6, .int x6)] [] M (rec16 M x2 x3 x5 (x6 + 1))
  refine g_iinc (v := x6 + 1) (L' := [(6, .int (x6 + 1)), (0, .ref 22), (1, .ref 39), (2, .int x2), (3, .long x3), (5, .int x5)]) 5 rfl rfl (by decide) rfl dX3_enviedBy_72 ?_
  refine g_goto (tgt := 16) rfl dX3_enviedBy_75 ?_
  exact GO.pick [1, 2, 3, 4, 5, 0] rfl <| hrec16 M x2 x3 x5 (x6 + 1)
def fX3_enviedBy_b16 : Nat → Mem → Int32 → Int64 → Int32 → Int32 → RS
  | 0 => fun _ _ _ _ _ => none
  | n + 1 => fun M x2 x3 x5 x6 => if x6 < (gi M (isA (gb M 0)) 9) then chk (inb x6 8) (if x6 = x2 then fX3_enviedBy_b72 (fX3_enviedBy_b16 n) M x2 x3 x5 x6 else if (gi M 41 (ix x6)) = (-1) then fX3_enviedBy_b72 (fX3_enviedBy_b16 n) M x2 x3 x5 x6 else bI (fX3_worthOf 39 M x2 (gi M 41 (ix x6))) (fun M4 v5 => if 0 < (lg_cmp (Int32.toInt64 v5) x3) then fX3_enviedBy_b72 (fX3_enviedBy_b16 n) M4 x2 x3 (x5 ||| ((1 : Int32) <<< (x6 &&& 31))) x6 else fX3_enviedBy_b72 (fX3_enviedBy_b16 n) M4 x2 x3 x5 x6)) else some (M, .inr (some (.int x5)))
theorem SX3_enviedBy_b16 (n : Nat) : ∀ (M : Mem) (x2 : Int32) (x3 : Int64) (x5 : Int32) (x6 : Int32), GO miX3_enviedBy (5) 0 0 0 0 16 [(0, .ref 22), (1, .ref 39), (2, .int x2), (3, .long x3), (5, .int x5), (6, .int x6)] [] M (fX3_enviedBy_b16 n M x2 x3 x5 x6) := by
  induction n with
  | zero => intro M x2 x3 x5 x6 ; exact GO.none
  | succ n hrec16 =>
    intro M x2 x3 x5 x6 
    show GO miX3_enviedBy (5) 0 0 0 0 16 [(0, .ref 22), (1, .ref 39), (2, .int x2), (3, .long x3), (5, .int x5), (6, .int x6)] [] M (if x6 < (gi M (isA (gb M 0)) 9) then chk (inb x6 8) (if x6 = x2 then fX3_enviedBy_b72 (fX3_enviedBy_b16 n) M x2 x3 x5 x6 else if (gi M 41 (ix x6)) = (-1) then fX3_enviedBy_b72 (fX3_enviedBy_b16 n) M x2 x3 x5 x6 else bI (fX3_worthOf 39 M x2 (gi M 41 (ix x6))) (fun M4 v5 => if 0 < (lg_cmp (Int32.toInt64 v5) x3) then fX3_enviedBy_b72 (fX3_enviedBy_b16 n) M4 x2 x3 (x5 ||| ((1 : Int32) <<< (x6 &&& 31))) x6 else fX3_enviedBy_b72 (fX3_enviedBy_b16 n) M4 x2 x3 x5 x6)) else some (M, .inr (some (.int x5))))
    refine g_iload 5 rfl dX3_enviedBy_16 ?_
    refine g_aload_n 0 rfl rfl dX3_enviedBy_18 ?_
    refine g_getR (k := 1) (b := (isA (gb M 0))) clX3 kd_22 (by decide) rfl rfl flX3_18 dX3_enviedBy_19 ?_
    refine g_getI (k := 9) clX2 (kv_d3_24_0 _ (isA_dom _)) (by decide) rfl flX3_38 dX3_enviedBy_22 ?_
    refine g_icmp_ge (tgt := 78) rfl dX3_enviedBy_25 (fun c => ?_) (fun c => ?_)
    · refine g_iload 4 rfl dX3_enviedBy_78 ?_
      exact g_ireturn rfl (by decide) (by decide) dX3_enviedBy_80 rfl rfl
    · refine g_aload_n 1 rfl rfl dX3_enviedBy_28 ?_
      refine g_getR (k := 8) (b := 41) clX8 kd_39 (by decide) rfl rfl flX3_65 dX3_enviedBy_29 ?_
      refine g_iload 5 rfl dX3_enviedBy_32 ?_
      refine g_ald kd_41 dX3_enviedBy_34 (fun hi3 => ?_)
      refine g_istore (L' := [(7, .int (gi M 41 (ix x6))), (0, .ref 22), (1, .ref 39), (2, .int x2), (3, .long x3), (5, .int x5), (6, .int x6)]) (by decide) rfl dX3_enviedBy_35 ?_
      refine g_iload 6 rfl dX3_enviedBy_37 ?_
      refine g_iload_n 3 rfl rfl dX3_enviedBy_39 ?_
      refine g_icmp_eq (tgt := 72) rfl dX3_enviedBy_40 (fun c => ?_) (fun c => ?_)
      · exact GO.pick [1, 2, 3, 4, 5, 6] rfl <| SX3_enviedBy_b72  (fX3_enviedBy_b16 n) hrec16 M x2 x3 x5 x6
      · refine g_iload 0 rfl dX3_enviedBy_43 ?_
        refine g_iconst (v := (-1)) (by decide) dX3_enviedBy_45 ?_
        refine g_icmp_eq (tgt := 72) rfl dX3_enviedBy_46 (fun c => ?_) (fun c => ?_)
        · exact GO.pick [1, 2, 3, 4, 5, 6] rfl <| SX3_enviedBy_b72  (fX3_enviedBy_b16 n) hrec16 M x2 x3 x5 x6
        · refine g_aload_n 1 rfl rfl dX3_enviedBy_49 ?_
          refine g_aload_n 2 rfl rfl dX3_enviedBy_50 ?_
          refine g_iload_n 3 rfl rfl dX3_enviedBy_51 ?_
          refine g_iload 0 rfl dX3_enviedBy_52 ?_
          refine g_callVI (y := miX3_worthOf) (As := [.ref 39, .int x2, .int (gi M 41 (ix x6))]) (rest := []) clX3 kd_22 rfl moX3_worthOf rfl mlX3_97 (by first | decide | omega) (by decide) (by simp [Value.category]) rfl dX3_enviedBy_54 (SX3_worthOf 39 (by decide) M x2 (gi M 41 (ix x6))) (fun M4 v5 => ?_)
          refine g_i2l dX3_enviedBy_57 ?_
          refine g_lload_n 4 rfl rfl dX3_enviedBy_58 ?_
          refine g_lcmp dX3_enviedBy_59 ?_
          refine g_if_le (tgt := 72) rfl dX3_enviedBy_60 (fun c => ?_) (fun c => ?_)
          · exact GO.pick [1, 2, 3, 4, 5, 6] rfl <| SX3_enviedBy_b72  (fX3_enviedBy_b16 n) hrec16 M4 x2 x3 x5 x6
          · refine g_iload 5 rfl dX3_enviedBy_63 ?_
            refine g_iconst (v := 1) (by decide) dX3_enviedBy_65 ?_
            refine g_iload 6 rfl dX3_enviedBy_66 ?_
            refine g_ishl dX3_enviedBy_68 ?_
            refine g_ior dX3_enviedBy_69 ?_
            refine g_istore (L' := [(5, .int (x5 ||| ((1 : Int32) <<< (x6 &&& 31)))), (7, .int (gi M 41 (ix x6))), (0, .ref 22), (1, .ref 39), (2, .int x2), (3, .long x3), (6, .int x6)]) (by decide) rfl dX3_enviedBy_70 ?_
            exact GO.pick [2, 3, 4, 5, 0, 6] rfl <| SX3_enviedBy_b72  (fX3_enviedBy_b16 n) hrec16 M4 x2 x3 (x5 ||| ((1 : Int32) <<< (x6 &&& 31))) x6
def fX3_enviedBy (M : Mem) (x2 : Int32) : RS := bL (fX3_worthOfShare 39 M x2 (-9223372036854775808)) (fun M1 v2 => fX3_enviedBy_b16  FU M1 x2 v2 0 0)
theorem SX3_enviedBy (M : Mem) (x2 : Int32) : CTO (5) miX3_enviedBy 0 0 [.ref 22, .ref 39, .int x2] M (fX3_enviedBy  M x2) := by
  refine CTO.of (by decide) (by simp [lg_sl, Value.category]) ?_
  show GO miX3_enviedBy (5) 0 0 0 0 0 [(0, .ref 22), (1, .ref 39), (2, .int x2)] [] M (bL (fX3_worthOfShare 39 M x2 (-9223372036854775808)) (fun M1 v2 => fX3_enviedBy_b16  FU M1 x2 v2 0 0))
  refine g_aload_n 0 rfl rfl dX3_enviedBy_0 ?_
  refine g_aload_n 1 rfl rfl dX3_enviedBy_1 ?_
  refine g_iload_n 2 rfl rfl dX3_enviedBy_2 ?_
  refine g_ldc2 (v := (-9223372036854775808)) coX3_136 dX3_enviedBy_3 ?_
  refine g_callVL (y := miX3_worthOfShare) (As := [.ref 39, .int x2, .long (-9223372036854775808)]) (rest := []) clX3 kd_22 rfl moX3_worthOfShare rfl mlX3_138 (by first | decide | omega) (by decide) (by simp [Value.category]) rfl dX3_enviedBy_6 (SX3_worthOfShare 39 (by decide) M x2 (-9223372036854775808)) (fun M1 v2 => ?_)
  refine g_lstore_n (L' := [(3, .long v2), (0, .ref 22), (1, .ref 39), (2, .int x2)]) (by decide) rfl rfl dX3_enviedBy_9 ?_
  refine g_iconst (v := 0) (by decide) dX3_enviedBy_10 ?_
  refine g_istore (L' := [(5, .int 0), (3, .long v2), (0, .ref 22), (1, .ref 39), (2, .int x2)]) (by decide) rfl dX3_enviedBy_11 ?_
  refine g_iconst (v := 0) (by decide) dX3_enviedBy_13 ?_
  refine g_istore (L' := [(6, .int 0), (5, .int 0), (3, .long v2), (0, .ref 22), (1, .ref 39), (2, .int x2)]) (by decide) rfl dX3_enviedBy_14 ?_
  exact GO.pick [3, 4, 5, 2, 1, 0] rfl <| SX3_enviedBy_b16  FU M1 x2 v2 0 0
def fX11_house (M : Mem) (x1 : Int32) (x2 : Int32) : RS := bV (fX11_needHouse M x1) (fun M1 => if x2 = 0 then chk (inb x1 8) (some (M1, .inr (some (.int (gi M1 ((isA (gb M1 0)) + 1) (ix x1)))))) else if x2 = 1 then chk (inb x1 8) (some (M1, .inr (some (.int (gi M1 ((isA (gb M1 0)) + 2) (ix x1)))))) else if x2 = 2 then chk (inb x1 8) (some (M1, .inr (some (.int (gi M1 ((isA (gb M1 0)) + 3) (ix x1)))))) else if x2 = 3 then bI (fX8_lotOf 39 M1 x1) (fun M6 v7 => some (M6, .inr (some (.int v7)))) else if x2 = 4 then chk (inb x1 8) (some (M1, .inr (some (.int (gi M1 41 (ix x1)))))) else if x2 = 5 then chk (inb x1 8) (some (M1, .inr (some (.int (gi M1 42 (ix x1)))))) else if x2 = 6 then chk (inb x1 8) (some (M1, .inr (some (.int (gi M1 40 (ix x1)))))) else if x2 = 7 then bI (fX3_enviedBy M1 x1) (fun M11 v12 => some (M11, .inr (some (.int v12)))) else some (M1, .inl 1))
theorem SX11_house (M : Mem) (x1 : Int32) (x2 : Int32) : CTO (7) miX11_house 2 12 [.ref 0, .int x1, .int x2] M (fX11_house  M x1 x2) := by
  refine CTO.of (by decide) (by simp [lg_sl, Value.category]) ?_
  show GO miX11_house (7) 2 12 0 0 0 [(0, .ref 0), (1, .int x1), (2, .int x2)] [] M (bV (fX11_needHouse M x1) (fun M1 => if x2 = 0 then chk (inb x1 8) (some (M1, .inr (some (.int (gi M1 ((isA (gb M1 0)) + 1) (ix x1)))))) else if x2 = 1 then chk (inb x1 8) (some (M1, .inr (some (.int (gi M1 ((isA (gb M1 0)) + 2) (ix x1)))))) else if x2 = 2 then chk (inb x1 8) (some (M1, .inr (some (.int (gi M1 ((isA (gb M1 0)) + 3) (ix x1)))))) else if x2 = 3 then bI (fX8_lotOf 39 M1 x1) (fun M6 v7 => some (M6, .inr (some (.int v7)))) else if x2 = 4 then chk (inb x1 8) (some (M1, .inr (some (.int (gi M1 41 (ix x1)))))) else if x2 = 5 then chk (inb x1 8) (some (M1, .inr (some (.int (gi M1 42 (ix x1)))))) else if x2 = 6 then chk (inb x1 8) (some (M1, .inr (some (.int (gi M1 40 (ix x1)))))) else if x2 = 7 then bI (fX3_enviedBy M1 x1) (fun M11 v12 => some (M11, .inr (some (.int v12)))) else some (M1, .inl 1)))
  refine g_aload_n 0 rfl rfl dX11_house_0 ?_
  refine g_iload_n 1 rfl rfl dX11_house_1 ?_
  refine g_callVV (y := miX11_needHouse) (As := [.int x1]) (rest := []) clX11 kd_0 rfl moX11_needHouse rfl mlX11_157 (by first | decide | omega) (by decide) (by simp [Value.category]) rfl dX11_house_2 (SX11_needHouse  M x1) (fun M1 => ?_)
  refine g_aload_n 0 rfl rfl dX11_house_5 ?_
  refine g_getR (k := 3) (b := 38) clX11 kd_0 (by decide) rfl rfl flX11_42 dX11_house_6 ?_
  refine g_getR (k := 0) (b := 39) clX0 kd_38 (by decide) rfl rfl flX11_96 dX11_house_9 ?_
  refine g_astore_n (L' := [(3, .ref 39), (0, .ref 0), (1, .int x1), (2, .int x2)]) (by decide) rfl rfl dX11_house_12 ?_
  refine g_iload_n 3 rfl rfl dX11_house_13 ?_
  refine g_tabI (tgt := 60) (off := 46) 0 rfl (by decide) (by decide) (by decide) dX11_house_14 ?_ (fun c0 => ?_)
  · refine g_aload_n 1 rfl rfl dX11_house_60 ?_
    refine g_getR (k := 2) (b := 22) clX11 kd_0 (by decide) rfl rfl flX11_35 dX11_house_61 ?_
    refine g_getR (k := 1) (b := (isA (gb M1 0))) clX3 kd_22 (by decide) rfl rfl flX11_89 dX11_house_64 ?_
    refine g_getR (k := 0) (b := ((isA (gb M1 0)) + 1)) clX2 (kv_d3_24_0 _ (isA_dom _)) (by decide) rfl rfl flX11_160 dX11_house_67 ?_
    refine g_iload_n 2 rfl rfl dX11_house_70 ?_
    refine g_ald (kv_d3_24_1 _ (isA_dom _)) dX11_house_71 (fun hi3 => ?_)
    exact g_ireturn rfl (by decide) (by decide) dX11_house_72 rfl rfl
  refine g_tabI (tgt := 73) (off := 59) 1 rfl (by decide) (by decide) (by decide) dX11_house_14 ?_ (fun c1 => ?_)
  · refine g_aload_n 1 rfl rfl dX11_house_73 ?_
    refine g_getR (k := 2) (b := 22) clX11 kd_0 (by decide) rfl rfl flX11_35 dX11_house_74 ?_
    refine g_getR (k := 1) (b := (isA (gb M1 0))) clX3 kd_22 (by decide) rfl rfl flX11_89 dX11_house_77 ?_
    refine g_getR (k := 1) (b := ((isA (gb M1 0)) + 2)) clX2 (kv_d3_24_0 _ (isA_dom _)) (by decide) rfl rfl flX11_163 dX11_house_80 ?_
    refine g_iload_n 2 rfl rfl dX11_house_83 ?_
    refine g_ald (kv_d3_24_2 _ (isA_dom _)) dX11_house_84 (fun hi4 => ?_)
    exact g_ireturn rfl (by decide) (by decide) dX11_house_85 rfl rfl
  refine g_tabI (tgt := 86) (off := 72) 2 rfl (by decide) (by decide) (by decide) dX11_house_14 ?_ (fun c2 => ?_)
  · refine g_aload_n 1 rfl rfl dX11_house_86 ?_
    refine g_getR (k := 2) (b := 22) clX11 kd_0 (by decide) rfl rfl flX11_35 dX11_house_87 ?_
    refine g_getR (k := 1) (b := (isA (gb M1 0))) clX3 kd_22 (by decide) rfl rfl flX11_89 dX11_house_90 ?_
    refine g_getR (k := 2) (b := ((isA (gb M1 0)) + 3)) clX2 (kv_d3_24_0 _ (isA_dom _)) (by decide) rfl rfl flX11_166 dX11_house_93 ?_
    refine g_iload_n 2 rfl rfl dX11_house_96 ?_
    refine g_ald (kv_d3_24_3 _ (isA_dom _)) dX11_house_97 (fun hi5 => ?_)
    exact g_ireturn rfl (by decide) (by decide) dX11_house_98 rfl rfl
  refine g_tabI (tgt := 99) (off := 85) 3 rfl (by decide) (by decide) (by decide) dX11_house_14 ?_ (fun c3 => ?_)
  · refine g_aload_n 0 rfl rfl dX11_house_99 ?_
    refine g_iload_n 2 rfl rfl dX11_house_100 ?_
    refine g_callVI (y := miX8_lotOf) (As := [.int x1]) (rest := []) clX8 kd_39 rfl moX8_lotOf rfl mlX11_169 (by first | decide | omega) (by decide) (by simp [Value.category]) rfl dX11_house_101 (SX8_lotOf 39 (by decide) M1 x1) (fun M6 v7 => ?_)
    exact g_ireturn rfl (by decide) (by decide) dX11_house_104 rfl rfl
  refine g_tabI (tgt := 105) (off := 91) 4 rfl (by decide) (by decide) (by decide) dX11_house_14 ?_ (fun c4 => ?_)
  · refine g_aload_n 0 rfl rfl dX11_house_105 ?_
    refine g_getR (k := 8) (b := 41) clX8 kd_39 (by decide) rfl rfl flX11_172 dX11_house_106 ?_
    refine g_iload_n 2 rfl rfl dX11_house_109 ?_
    refine g_ald kd_41 dX11_house_110 (fun hi8 => ?_)
    exact g_ireturn rfl (by decide) (by decide) dX11_house_111 rfl rfl
  refine g_tabI (tgt := 112) (off := 98) 5 rfl (by decide) (by decide) (by decide) dX11_house_14 ?_ (fun c5 => ?_)
  · refine g_aload_n 0 rfl rfl dX11_house_112 ?_
    refine g_getR (k := 9) (b := 42) clX8 kd_39 (by decide) rfl rfl flX11_175 dX11_house_113 ?_
    refine g_iload_n 2 rfl rfl dX11_house_116 ?_
    refine g_ald kd_42 dX11_house_117 (fun hi9 => ?_)
    exact g_ireturn rfl (by decide) (by decide) dX11_house_118 rfl rfl
  refine g_tabI (tgt := 119) (off := 105) 6 rfl (by decide) (by decide) (by decide) dX11_house_14 ?_ (fun c6 => ?_)
  · refine g_aload_n 0 rfl rfl dX11_house_119 ?_
    refine g_getR (k := 7) (b := 40) clX8 kd_39 (by decide) rfl rfl flX11_178 dX11_house_120 ?_
    refine g_iload_n 2 rfl rfl dX11_house_123 ?_
    refine g_ald kd_40 dX11_house_124 (fun hi10 => ?_)
    exact g_ireturn rfl (by decide) (by decide) dX11_house_125 rfl rfl
  refine g_tabI (tgt := 126) (off := 112) 7 rfl (by decide) (by decide) (by decide) dX11_house_14 ?_ (fun c7 => ?_)
  · refine g_aload_n 1 rfl rfl dX11_house_126 ?_
    refine g_getR (k := 2) (b := 22) clX11 kd_0 (by decide) rfl rfl flX11_35 dX11_house_127 ?_
    refine g_aload_n 0 rfl rfl dX11_house_130 ?_
    refine g_iload_n 2 rfl rfl dX11_house_131 ?_
    refine g_callVI (y := miX3_enviedBy) (As := [.ref 39, .int x1]) (rest := []) clX3 kd_22 rfl moX3_enviedBy rfl mlX11_180 (by first | decide | omega) (by decide) (by simp [Value.category]) rfl dX11_house_132 (SX3_enviedBy  M1 x1) (fun M11 v12 => ?_)
    exact g_ireturn rfl (by decide) (by decide) dX11_house_135 rfl rfl
  refine g_tabZ (tgt := 136) [0, 1, 2, 3, 4, 5, 6, 7] (List.forall_mem_cons.mpr ⟨c0, (List.forall_mem_cons.mpr ⟨c1, (List.forall_mem_cons.mpr ⟨c2, (List.forall_mem_cons.mpr ⟨c3, (List.forall_mem_cons.mpr ⟨c4, (List.forall_mem_cons.mpr ⟨c5, (List.forall_mem_cons.mpr ⟨c6, (List.forall_mem_cons.mpr ⟨c7, (fun _ h => absurd h List.not_mem_nil)⟩)⟩)⟩)⟩)⟩)⟩)⟩)⟩) rfl dX11_house_14 (by decide) (by decide) ?_
  exact g_throw1 rfl (by decide) (by decide) (by decide) dX11_house_136 dX11_house_139 dX11_house_140 dX11_house_143
def fX11_needPlot (M : Mem) (x1 : Int32) : RS := bI (fX2_hasPlot (isA (gb M 0)) M x1) (fun M1 v2 => if v2 = 0 then some (M1, .inl 1) else some (M1, .inr none))
theorem SX11_needPlot (M : Mem) (x1 : Int32) : CTO (6) miX11_needPlot 1 6 [.ref 0, .int x1] M (fX11_needPlot  M x1) := by
  refine CTO.of (by decide) (by simp [lg_sl, Value.category]) ?_
  show GO miX11_needPlot (6) 1 6 0 0 0 [(0, .ref 0), (1, .int x1)] [] M (bI (fX2_hasPlot (isA (gb M 0)) M x1) (fun M1 v2 => if v2 = 0 then some (M1, .inl 1) else some (M1, .inr none)))
  refine g_aload_n 0 rfl rfl dX11_needPlot_0 ?_
  refine g_getR (k := 2) (b := 22) clX11 kd_0 (by decide) rfl rfl flX11_35 dX11_needPlot_1 ?_
  refine g_getR (k := 1) (b := (isA (gb M 0))) clX3 kd_22 (by decide) rfl rfl flX11_89 dX11_needPlot_4 ?_
  refine g_iload_n 1 rfl rfl dX11_needPlot_7 ?_
  refine g_callVI (y := miX2_hasPlot) (As := [.int x1]) (rest := []) clX2 (kv_d3_24_0 _ (isA_dom _)) rfl moX2_hasPlot rfl mlX11_372 (by first | decide | omega) (by decide) (by simp [Value.category]) rfl dX11_needPlot_8 (SX2_hasPlot (isA (gb M 0)) (isA_dom _) M x1) (fun M1 v2 => ?_)
  refine g_if_ne (tgt := 22) rfl dX11_needPlot_11 (fun c => ?_) (fun c => ?_)
  · exact g_vreturn rfl (by decide) (by decide) dX11_needPlot_22
  · exact g_throw1 rfl (by decide) (by decide) (by decide) dX11_needPlot_14 dX11_needPlot_17 dX11_needPlot_18 dX11_needPlot_21
def fX3_ownerOf_b2 : Nat → Mem → Int32 → Int32 → RS
  | 0 => fun _ _ _ => none
  | n + 1 => fun M x2 x3 => if x3 < (gi M (isA (gb M 0)) 9) then chk (inb x3 8) (if (gi M 41 (ix x3)) = x2 then some (M, .inr (some (.int x3))) else (fX3_ownerOf_b2 n) M x2 (x3 + 1)) else some (M, .inr (some (.int (-1))))
theorem SX3_ownerOf_b2 (n : Nat) : ∀ (M : Mem) (x2 : Int32) (x3 : Int32), GO miX3_ownerOf (0) 0 0 0 0 2 [(0, .ref 22), (1, .ref 39), (2, .int x2), (3, .int x3)] [] M (fX3_ownerOf_b2 n M x2 x3) := by
  induction n with
  | zero => intro M x2 x3 ; exact GO.none
  | succ n hrec2 =>
    intro M x2 x3 
    show GO miX3_ownerOf (0) 0 0 0 0 2 [(0, .ref 22), (1, .ref 39), (2, .int x2), (3, .int x3)] [] M (if x3 < (gi M (isA (gb M 0)) 9) then chk (inb x3 8) (if (gi M 41 (ix x3)) = x2 then some (M, .inr (some (.int x3))) else (fX3_ownerOf_b2 n) M x2 (x3 + 1)) else some (M, .inr (some (.int (-1)))))
    refine g_iload_n 3 rfl rfl dX3_ownerOf_2 ?_
    refine g_aload_n 0 rfl rfl dX3_ownerOf_3 ?_
    refine g_getR (k := 1) (b := (isA (gb M 0))) clX3 kd_22 (by decide) rfl rfl flX3_18 dX3_ownerOf_4 ?_
    refine g_getI (k := 9) clX2 (kv_d3_24_0 _ (isA_dom _)) (by decide) rfl flX3_38 dX3_ownerOf_7 ?_
    refine g_icmp_ge (tgt := 31) rfl dX3_ownerOf_10 (fun c => ?_) (fun c => ?_)
    · refine g_iconst (v := (-1)) (by decide) dX3_ownerOf_31 ?_
      exact g_ireturn rfl (by decide) (by decide) dX3_ownerOf_32 rfl rfl
    · refine g_aload_n 1 rfl rfl dX3_ownerOf_13 ?_
      refine g_getR (k := 8) (b := 41) clX8 kd_39 (by decide) rfl rfl flX3_65 dX3_ownerOf_14 ?_
      refine g_iload_n 3 rfl rfl dX3_ownerOf_17 ?_
      refine g_ald kd_41 dX3_ownerOf_18 (fun hi1 => ?_)
      refine g_iload_n 2 rfl rfl dX3_ownerOf_19 ?_
      refine g_icmp_ne (tgt := 25) rfl dX3_ownerOf_20 (fun c => ?_) (fun c => ?_)
      · refine g_iinc (v := x3 + 1) (L' := [(3, .int (x3 + 1)), (0, .ref 22), (1, .ref 39), (2, .int x2)]) 3 rfl rfl (by decide) rfl dX3_ownerOf_25 ?_
        refine g_goto (tgt := 2) rfl dX3_ownerOf_28 ?_
        exact GO.pick [1, 2, 3, 0] rfl <| hrec2 M x2 (x3 + 1)
      · refine g_iload_n 3 rfl rfl dX3_ownerOf_23 ?_
        exact g_ireturn rfl (by decide) (by decide) dX3_ownerOf_24 rfl rfl
def fX3_ownerOf (M : Mem) (x2 : Int32) : RS := fX3_ownerOf_b2  FU M x2 0
theorem SX3_ownerOf (M : Mem) (x2 : Int32) : CTO (0) miX3_ownerOf 0 0 [.ref 22, .ref 39, .int x2] M (fX3_ownerOf  M x2) := by
  refine CTO.of (by decide) (by simp [lg_sl, Value.category]) ?_
  show GO miX3_ownerOf (0) 0 0 0 0 0 [(0, .ref 22), (1, .ref 39), (2, .int x2)] [] M (fX3_ownerOf_b2  FU M x2 0)
  refine g_iconst (v := 0) (by decide) dX3_ownerOf_0 ?_
  refine g_istore_n (L' := [(3, .int 0), (0, .ref 22), (1, .ref 39), (2, .int x2)]) (by decide) rfl rfl dX3_ownerOf_1 ?_
  exact GO.pick [1, 2, 3, 0] rfl <| SX3_ownerOf_b2  FU M x2 0
def fX3_walkToMarket (M : Mem) (x2 : Int32) : RS := bI (fX2_hasPlot (isA (gb M 0)) M x2) (fun M1 v2 => if v2 = 0 then some (M1, .inr (some (.int 0))) else chk (inb x2 9) (chk (inb x2 9) (bI (fX3_walk M1 (gi M1 ((isA (gb M1 0)) + 4) (ix x2)) (gi M1 ((isA (gb M1 0)) + 5) (ix x2)) (gi M1 39 2) (gi M1 39 3)) (fun M5 v6 => some (M5, .inr (some (.int v6)))))))
theorem SX3_walkToMarket (M : Mem) (x2 : Int32) : CTO (2) miX3_walkToMarket 0 0 [.ref 22, .ref 39, .int x2] M (fX3_walkToMarket  M x2) := by
  refine CTO.of (by decide) (by simp [lg_sl, Value.category]) ?_
  show GO miX3_walkToMarket (2) 0 0 0 0 0 [(0, .ref 22), (1, .ref 39), (2, .int x2)] [] M (bI (fX2_hasPlot (isA (gb M 0)) M x2) (fun M1 v2 => if v2 = 0 then some (M1, .inr (some (.int 0))) else chk (inb x2 9) (chk (inb x2 9) (bI (fX3_walk M1 (gi M1 ((isA (gb M1 0)) + 4) (ix x2)) (gi M1 ((isA (gb M1 0)) + 5) (ix x2)) (gi M1 39 2) (gi M1 39 3)) (fun M5 v6 => some (M5, .inr (some (.int v6))))))))
  refine g_aload_n 0 rfl rfl dX3_walkToMarket_0 ?_
  refine g_getR (k := 1) (b := (isA (gb M 0))) clX3 kd_22 (by decide) rfl rfl flX3_18 dX3_walkToMarket_1 ?_
  refine g_iload_n 2 rfl rfl dX3_walkToMarket_4 ?_
  refine g_callVI (y := miX2_hasPlot) (As := [.int x2]) (rest := []) clX2 (kv_d3_24_0 _ (isA_dom _)) rfl moX2_hasPlot rfl mlX3_46 (by first | decide | omega) (by decide) (by simp [Value.category]) rfl dX3_walkToMarket_5 (SX2_hasPlot (isA (gb M 0)) (isA_dom _) M x2) (fun M1 v2 => ?_)
  refine g_if_ne (tgt := 13) rfl dX3_walkToMarket_8 (fun c => ?_) (fun c => ?_)
  · refine g_aload_n 0 rfl rfl dX3_walkToMarket_13 ?_
    refine g_getR (k := 1) (b := (isA (gb M1 0))) clX3 kd_22 (by decide) rfl rfl flX3_18 dX3_walkToMarket_14 ?_
    refine g_getR (k := 3) (b := ((isA (gb M1 0)) + 4)) clX2 (kv_d3_24_0 _ (isA_dom _)) (by decide) rfl rfl flX3_49 dX3_walkToMarket_17 ?_
    refine g_iload_n 2 rfl rfl dX3_walkToMarket_20 ?_
    refine g_ald (kv_d3_24_4 _ (isA_dom _)) dX3_walkToMarket_21 (fun hi3 => ?_)
    refine g_aload_n 0 rfl rfl dX3_walkToMarket_22 ?_
    refine g_getR (k := 1) (b := (isA (gb M1 0))) clX3 kd_22 (by decide) rfl rfl flX3_18 dX3_walkToMarket_23 ?_
    refine g_getR (k := 4) (b := ((isA (gb M1 0)) + 5)) clX2 (kv_d3_24_0 _ (isA_dom _)) (by decide) rfl rfl flX3_52 dX3_walkToMarket_26 ?_
    refine g_iload_n 2 rfl rfl dX3_walkToMarket_29 ?_
    refine g_ald (kv_d3_24_5 _ (isA_dom _)) dX3_walkToMarket_30 (fun hi4 => ?_)
    refine g_aload_n 1 rfl rfl dX3_walkToMarket_31 ?_
    refine g_getI (k := 2) clX8 kd_39 (by decide) rfl flX3_55 dX3_walkToMarket_32 ?_
    refine g_aload_n 1 rfl rfl dX3_walkToMarket_35 ?_
    refine g_getI (k := 3) clX8 kd_39 (by decide) rfl flX3_58 dX3_walkToMarket_36 ?_
    refine g_callSI (y := miX3_walk) (As := [.int (gi M1 ((isA (gb M1 0)) + 4) (ix x2)), .int (gi M1 ((isA (gb M1 0)) + 5) (ix x2)), .int (gi M1 39 2), .int (gi M1 39 3)]) (rest := []) moX3_walk rfl mlX3_61 (by first | decide | omega) (by decide) (by simp [Value.category]) rfl dX3_walkToMarket_39 (SX3_walk  M1 (gi M1 ((isA (gb M1 0)) + 4) (ix x2)) (gi M1 ((isA (gb M1 0)) + 5) (ix x2)) (gi M1 39 2) (gi M1 39 3)) (fun M5 v6 => ?_)
    exact g_ireturn rfl (by decide) (by decide) dX3_walkToMarket_42 rfl rfl
  · refine g_iconst (v := 0) (by decide) dX3_walkToMarket_11 ?_
    exact g_ireturn rfl (by decide) (by decide) dX3_walkToMarket_12 rfl rfl
def fX11_plot (M : Mem) (x1 : Int32) (x2 : Int32) : RS := bV (fX11_needPlot M x1) (fun M1 => if x2 = 0 then chk (inb x1 9) (some (M1, .inr (some (.int (gi M1 ((isA (gb M1 0)) + 4) (ix x1)))))) else if x2 = 1 then chk (inb x1 9) (some (M1, .inr (some (.int (gi M1 ((isA (gb M1 0)) + 5) (ix x1)))))) else if x2 = 2 then chk (inb x1 9) (some (M1, .inr (some (.int (gi M1 ((isA (gb M1 0)) + 6) (ix x1)))))) else if x2 = 3 then bI (fX3_walkToMarket M1 x1) (fun M6 v7 => some (M6, .inr (some (.int v7)))) else if x2 = 4 then bI (fX3_ownerOf M1 x1) (fun M8 v9 => some (M8, .inr (some (.int v9)))) else some (M1, .inl 1))
theorem SX11_plot (M : Mem) (x1 : Int32) (x2 : Int32) : CTO (7) miX11_plot 2 12 [.ref 0, .int x1, .int x2] M (fX11_plot  M x1 x2) := by
  refine CTO.of (by decide) (by simp [lg_sl, Value.category]) ?_
  show GO miX11_plot (7) 2 12 0 0 0 [(0, .ref 0), (1, .int x1), (2, .int x2)] [] M (bV (fX11_needPlot M x1) (fun M1 => if x2 = 0 then chk (inb x1 9) (some (M1, .inr (some (.int (gi M1 ((isA (gb M1 0)) + 4) (ix x1)))))) else if x2 = 1 then chk (inb x1 9) (some (M1, .inr (some (.int (gi M1 ((isA (gb M1 0)) + 5) (ix x1)))))) else if x2 = 2 then chk (inb x1 9) (some (M1, .inr (some (.int (gi M1 ((isA (gb M1 0)) + 6) (ix x1)))))) else if x2 = 3 then bI (fX3_walkToMarket M1 x1) (fun M6 v7 => some (M6, .inr (some (.int v7)))) else if x2 = 4 then bI (fX3_ownerOf M1 x1) (fun M8 v9 => some (M8, .inr (some (.int v9)))) else some (M1, .inl 1)))
  refine g_aload_n 0 rfl rfl dX11_plot_0 ?_
  refine g_iload_n 1 rfl rfl dX11_plot_1 ?_
  refine g_callVV (y := miX11_needPlot) (As := [.int x1]) (rest := []) clX11 kd_0 rfl moX11_needPlot rfl mlX11_184 (by first | decide | omega) (by decide) (by simp [Value.category]) rfl dX11_plot_2 (SX11_needPlot  M x1) (fun M1 => ?_)
  refine g_iload_n 2 rfl rfl dX11_plot_5 ?_
  refine g_tabI (tgt := 40) (off := 34) 0 rfl (by decide) (by decide) (by decide) dX11_plot_6 ?_ (fun c0 => ?_)
  · refine g_aload_n 0 rfl rfl dX11_plot_40 ?_
    refine g_getR (k := 2) (b := 22) clX11 kd_0 (by decide) rfl rfl flX11_35 dX11_plot_41 ?_
    refine g_getR (k := 1) (b := (isA (gb M1 0))) clX3 kd_22 (by decide) rfl rfl flX11_89 dX11_plot_44 ?_
    refine g_getR (k := 3) (b := ((isA (gb M1 0)) + 4)) clX2 (kv_d3_24_0 _ (isA_dom _)) (by decide) rfl rfl flX11_187 dX11_plot_47 ?_
    refine g_iload_n 1 rfl rfl dX11_plot_50 ?_
    refine g_ald (kv_d3_24_4 _ (isA_dom _)) dX11_plot_51 (fun hi3 => ?_)
    exact g_ireturn rfl (by decide) (by decide) dX11_plot_52 rfl rfl
  refine g_tabI (tgt := 53) (off := 47) 1 rfl (by decide) (by decide) (by decide) dX11_plot_6 ?_ (fun c1 => ?_)
  · refine g_aload_n 0 rfl rfl dX11_plot_53 ?_
    refine g_getR (k := 2) (b := 22) clX11 kd_0 (by decide) rfl rfl flX11_35 dX11_plot_54 ?_
    refine g_getR (k := 1) (b := (isA (gb M1 0))) clX3 kd_22 (by decide) rfl rfl flX11_89 dX11_plot_57 ?_
    refine g_getR (k := 4) (b := ((isA (gb M1 0)) + 5)) clX2 (kv_d3_24_0 _ (isA_dom _)) (by decide) rfl rfl flX11_190 dX11_plot_60 ?_
    refine g_iload_n 1 rfl rfl dX11_plot_63 ?_
    refine g_ald (kv_d3_24_5 _ (isA_dom _)) dX11_plot_64 (fun hi4 => ?_)
    exact g_ireturn rfl (by decide) (by decide) dX11_plot_65 rfl rfl
  refine g_tabI (tgt := 66) (off := 60) 2 rfl (by decide) (by decide) (by decide) dX11_plot_6 ?_ (fun c2 => ?_)
  · refine g_aload_n 0 rfl rfl dX11_plot_66 ?_
    refine g_getR (k := 2) (b := 22) clX11 kd_0 (by decide) rfl rfl flX11_35 dX11_plot_67 ?_
    refine g_getR (k := 1) (b := (isA (gb M1 0))) clX3 kd_22 (by decide) rfl rfl flX11_89 dX11_plot_70 ?_
    refine g_getR (k := 5) (b := ((isA (gb M1 0)) + 6)) clX2 (kv_d3_24_0 _ (isA_dom _)) (by decide) rfl rfl flX11_193 dX11_plot_73 ?_
    refine g_iload_n 1 rfl rfl dX11_plot_76 ?_
    refine g_ald (kv_d3_24_6 _ (isA_dom _)) dX11_plot_77 (fun hi5 => ?_)
    exact g_ireturn rfl (by decide) (by decide) dX11_plot_78 rfl rfl
  refine g_tabI (tgt := 79) (off := 73) 3 rfl (by decide) (by decide) (by decide) dX11_plot_6 ?_ (fun c3 => ?_)
  · refine g_aload_n 0 rfl rfl dX11_plot_79 ?_
    refine g_getR (k := 2) (b := 22) clX11 kd_0 (by decide) rfl rfl flX11_35 dX11_plot_80 ?_
    refine g_aload_n 0 rfl rfl dX11_plot_83 ?_
    refine g_getR (k := 3) (b := 38) clX11 kd_0 (by decide) rfl rfl flX11_42 dX11_plot_84 ?_
    refine g_getR (k := 0) (b := 39) clX0 kd_38 (by decide) rfl rfl flX11_96 dX11_plot_87 ?_
    refine g_iload_n 1 rfl rfl dX11_plot_90 ?_
    refine g_callVI (y := miX3_walkToMarket) (As := [.ref 39, .int x1]) (rest := []) clX3 kd_22 rfl moX3_walkToMarket rfl mlX11_196 (by first | decide | omega) (by decide) (by simp [Value.category]) rfl dX11_plot_91 (SX3_walkToMarket  M1 x1) (fun M6 v7 => ?_)
    exact g_ireturn rfl (by decide) (by decide) dX11_plot_94 rfl rfl
  refine g_tabI (tgt := 95) (off := 89) 4 rfl (by decide) (by decide) (by decide) dX11_plot_6 ?_ (fun c4 => ?_)
  · refine g_aload_n 0 rfl rfl dX11_plot_95 ?_
    refine g_getR (k := 2) (b := 22) clX11 kd_0 (by decide) rfl rfl flX11_35 dX11_plot_96 ?_
    refine g_aload_n 0 rfl rfl dX11_plot_99 ?_
    refine g_getR (k := 3) (b := 38) clX11 kd_0 (by decide) rfl rfl flX11_42 dX11_plot_100 ?_
    refine g_getR (k := 0) (b := 39) clX0 kd_38 (by decide) rfl rfl flX11_96 dX11_plot_103 ?_
    refine g_iload_n 1 rfl rfl dX11_plot_106 ?_
    refine g_callVI (y := miX3_ownerOf) (As := [.ref 39, .int x1]) (rest := []) clX3 kd_22 rfl moX3_ownerOf rfl mlX11_199 (by first | decide | omega) (by decide) (by simp [Value.category]) rfl dX11_plot_107 (SX3_ownerOf  M1 x1) (fun M8 v9 => ?_)
    exact g_ireturn rfl (by decide) (by decide) dX11_plot_110 rfl rfl
  refine g_tabZ (tgt := 111) [0, 1, 2, 3, 4] (List.forall_mem_cons.mpr ⟨c0, (List.forall_mem_cons.mpr ⟨c1, (List.forall_mem_cons.mpr ⟨c2, (List.forall_mem_cons.mpr ⟨c3, (List.forall_mem_cons.mpr ⟨c4, (fun _ h => absurd h List.not_mem_nil)⟩)⟩)⟩)⟩)⟩) rfl dX11_plot_6 (by decide) (by decide) ?_
  exact g_throw1 rfl (by decide) (by decide) (by decide) dX11_plot_111 dX11_plot_114 dX11_plot_115 dX11_plot_118
def fX11_worth (M : Mem) (x1 : Int32) (x2 : Int32) : RS := bV (fX11_needHouse M x1) (fun M1 => bV (fX11_needPlot M1 x2) (fun M3 => bI (fX3_worthOf 39 M3 x1 x2) (fun M5 v6 => some (M5, .inr (some (.int v6))))))
theorem SX11_worth (M : Mem) (x1 : Int32) (x2 : Int32) : CTO (7) miX11_worth 2 12 [.ref 0, .int x1, .int x2] M (fX11_worth  M x1 x2) := by
  refine CTO.of (by decide) (by simp [lg_sl, Value.category]) ?_
  show GO miX11_worth (7) 2 12 0 0 0 [(0, .ref 0), (1, .int x1), (2, .int x2)] [] M (bV (fX11_needHouse M x1) (fun M1 => bV (fX11_needPlot M1 x2) (fun M3 => bI (fX3_worthOf 39 M3 x1 x2) (fun M5 v6 => some (M5, .inr (some (.int v6)))))))
  refine g_aload_n 0 rfl rfl dX11_worth_0 ?_
  refine g_iload_n 1 rfl rfl dX11_worth_1 ?_
  refine g_callVV (y := miX11_needHouse) (As := [.int x1]) (rest := []) clX11 kd_0 rfl moX11_needHouse rfl mlX11_157 (by first | decide | omega) (by decide) (by simp [Value.category]) rfl dX11_worth_2 (SX11_needHouse  M x1) (fun M1 => ?_)
  refine g_aload_n 0 rfl rfl dX11_worth_5 ?_
  refine g_iload_n 2 rfl rfl dX11_worth_6 ?_
  refine g_callVV (y := miX11_needPlot) (As := [.int x2]) (rest := []) clX11 kd_0 rfl moX11_needPlot rfl mlX11_184 (by first | decide | omega) (by decide) (by simp [Value.category]) rfl dX11_worth_7 (SX11_needPlot  M1 x2) (fun M3 => ?_)
  refine g_aload_n 0 rfl rfl dX11_worth_10 ?_
  refine g_getR (k := 2) (b := 22) clX11 kd_0 (by decide) rfl rfl flX11_35 dX11_worth_11 ?_
  refine g_aload_n 0 rfl rfl dX11_worth_14 ?_
  refine g_getR (k := 3) (b := 38) clX11 kd_0 (by decide) rfl rfl flX11_42 dX11_worth_15 ?_
  refine g_getR (k := 0) (b := 39) clX0 kd_38 (by decide) rfl rfl flX11_96 dX11_worth_18 ?_
  refine g_iload_n 1 rfl rfl dX11_worth_21 ?_
  refine g_iload_n 2 rfl rfl dX11_worth_22 ?_
  refine g_callVI (y := miX3_worthOf) (As := [.ref 39, .int x1, .int x2]) (rest := []) clX3 kd_22 rfl moX3_worthOf rfl mlX11_202 (by first | decide | omega) (by decide) (by simp [Value.category]) rfl dX11_worth_23 (SX3_worthOf 39 (by decide) M3 x1 x2) (fun M5 v6 => ?_)
  exact g_ireturn rfl (by decide) (by decide) dX11_worth_26 rfl rfl
def fX11_needWithin_b10 (M : Mem)  : RS := some (M, .inl 2)
theorem SX11_needWithin_b10 (M : Mem)  : GO miX11_needWithin (6) 1 6 0 0 10 [] [] M (fX11_needWithin_b10 M ) := by
  show GO miX11_needWithin (6) 1 6 0 0 10 [] [] M (some (M, .inl 2))
  exact g_throw2 rfl (by decide) (by decide) (by decide) dX11_needWithin_10 dX11_needWithin_13 dX11_needWithin_14 dX11_needWithin_17
def fX11_needWithin (M : Mem) (x1 : Int32) (x2 : Int32) (x3 : Int32) : RS := if x1 < x2 then fX11_needWithin_b10  M else if x3 < x1 then fX11_needWithin_b10  M else some (M, .inr none)
theorem SX11_needWithin (M : Mem) (x1 : Int32) (x2 : Int32) (x3 : Int32) : CTO (6) miX11_needWithin 1 6 [.ref 0, .int x1, .int x2, .int x3] M (fX11_needWithin  M x1 x2 x3) := by
  refine CTO.of (by decide) (by simp [lg_sl, Value.category]) ?_
  show GO miX11_needWithin (6) 1 6 0 0 0 [(0, .ref 0), (1, .int x1), (2, .int x2), (3, .int x3)] [] M (if x1 < x2 then fX11_needWithin_b10  M else if x3 < x1 then fX11_needWithin_b10  M else some (M, .inr none))
  refine g_iload_n 1 rfl rfl dX11_needWithin_0 ?_
  refine g_iload_n 2 rfl rfl dX11_needWithin_1 ?_
  refine g_icmp_lt (tgt := 10) rfl dX11_needWithin_2 (fun c => ?_) (fun c => ?_)
  · exact GO.pick [] rfl <| SX11_needWithin_b10  M
  · refine g_iload_n 1 rfl rfl dX11_needWithin_5 ?_
    refine g_iload_n 3 rfl rfl dX11_needWithin_6 ?_
    refine g_icmp_le (tgt := 18) rfl dX11_needWithin_7 (fun c => ?_) (fun c => ?_)
    · exact g_vreturn rfl (by decide) (by decide) dX11_needWithin_18
    · exact GO.pick [] rfl <| SX11_needWithin_b10  M
def fX3_cropOf_b91 (a1 : Nat) (M : Mem) (x6 : Int32) : RS := some (M, .inr (some (.int (if 0 < (if x6 < 99 then x6 else 99) then (if x6 < 99 then x6 else 99) else 0))))
theorem SX3_cropOf_b91 (a1 : Nat) (h1 : a1 ∈ [39, 62]) (M : Mem) (x6 : Int32) : GO miX3_cropOf (3) 0 0 0 0 91 [(6, .int x6)] [] M (fX3_cropOf_b91 a1 M x6) := by
  show GO miX3_cropOf (3) 0 0 0 0 91 [(6, .int x6)] [] M (some (M, .inr (some (.int (if 0 < (if x6 < 99 then x6 else 99) then (if x6 < 99 then x6 else 99) else 0)))))
  refine g_iconst (v := 0) (by decide) dX3_cropOf_91 ?_
  refine g_bipush (v := 99) (by decide) dX3_cropOf_92 ?_
  refine g_iload 0 rfl dX3_cropOf_94 ?_
  refine g_mmin mlX3_107 ms_min mt_Math mc_min (by first | decide | omega) (by decide) (by simp [Value.category]) dX3_cropOf_96 ?_
  refine g_mmax mlX3_111 ms_max mt_Math mc_max (by first | decide | omega) (by decide) (by simp [Value.category]) dX3_cropOf_99 ?_
  exact g_ireturn rfl (by decide) (by decide) dX3_cropOf_102 rfl rfl
def fX3_cropOf (a1 : Nat) (M : Mem) (x2 : Int32) (x3 : Int32) (x4 : Int32) (x5 : Int32) : RS := bI (fX2_hasPlot (isA (gb M 0)) M x4) (fun M1 v2 => if v2 = 0 then some (M1, .inr (some (.int 0))) else bV (fX3_tellValues a1 M1 x2 x3 x4) (fun M3 => bI (fX2_rainIn (isA (gb M3 0)) M3 x5) (fun M5 v6 => wr (si M5 23 5 v6) (fun M7 => wr (si M7 23 6 x5) (fun M8 => bI (fX6_isTold ((isA (gb M8 0)) + 11) M8) (fun M9 v10 => if v10 = 0 then fX3_cropOf_b91 a1 M9 ((gi M8 23 2) + (gi M8 23 5)) else bI (fX6_reckon ((isA (gb M9 0)) + 11) M9) (fun M11 v12 => fX3_cropOf_b91 a1 M11 v12)))))))
theorem SX3_cropOf (a1 : Nat) (h1 : a1 ∈ [39, 62]) (M : Mem) (x2 : Int32) (x3 : Int32) (x4 : Int32) (x5 : Int32) : CTO (3) miX3_cropOf 0 0 [.ref 22, .ref a1, .int x2, .int x3, .int x4, .int x5] M (fX3_cropOf a1 M x2 x3 x4 x5) := by
  refine CTO.of (by decide) (by simp [lg_sl, Value.category]) ?_
  show GO miX3_cropOf (3) 0 0 0 0 0 [(0, .ref 22), (1, .ref a1), (2, .int x2), (3, .int x3), (4, .int x4), (5, .int x5)] [] M (bI (fX2_hasPlot (isA (gb M 0)) M x4) (fun M1 v2 => if v2 = 0 then some (M1, .inr (some (.int 0))) else bV (fX3_tellValues a1 M1 x2 x3 x4) (fun M3 => bI (fX2_rainIn (isA (gb M3 0)) M3 x5) (fun M5 v6 => wr (si M5 23 5 v6) (fun M7 => wr (si M7 23 6 x5) (fun M8 => bI (fX6_isTold ((isA (gb M8 0)) + 11) M8) (fun M9 v10 => if v10 = 0 then fX3_cropOf_b91 a1 M9 ((gi M8 23 2) + (gi M8 23 5)) else bI (fX6_reckon ((isA (gb M9 0)) + 11) M9) (fun M11 v12 => fX3_cropOf_b91 a1 M11 v12))))))))
  refine g_aload_n 0 rfl rfl dX3_cropOf_0 ?_
  refine g_getR (k := 1) (b := (isA (gb M 0))) clX3 kd_22 (by decide) rfl rfl flX3_18 dX3_cropOf_1 ?_
  refine g_iload 4 rfl dX3_cropOf_4 ?_
  refine g_callVI (y := miX2_hasPlot) (As := [.int x4]) (rest := []) clX2 (kv_d3_24_0 _ (isA_dom _)) rfl moX2_hasPlot rfl mlX3_46 (by first | decide | omega) (by decide) (by simp [Value.category]) rfl dX3_cropOf_6 (SX2_hasPlot (isA (gb M 0)) (isA_dom _) M x4) (fun M1 v2 => ?_)
  refine g_if_ne (tgt := 14) rfl dX3_cropOf_9 (fun c => ?_) (fun c => ?_)
  · refine g_aload_n 0 rfl rfl dX3_cropOf_14 ?_
    refine g_aload_n 1 rfl rfl dX3_cropOf_15 ?_
    refine g_iload_n 2 rfl rfl dX3_cropOf_16 ?_
    refine g_iload_n 3 rfl rfl dX3_cropOf_17 ?_
    refine g_iload 4 rfl dX3_cropOf_18 ?_
    refine g_callVV (y := miX3_tellValues) (As := [.ref a1, .int x2, .int x3, .int x4]) (rest := []) clX3 kd_22 rfl moX3_tellValues rfl mlX3_79 (by first | decide | omega) (by decide) (by simp [Value.category]) rfl dX3_cropOf_20 (SX3_tellValues a1 h1 M1 x2 x3 x4) (fun M3 => ?_)
    refine g_aload_n 0 rfl rfl dX3_cropOf_23 ?_
    refine g_getR (k := 0) (b := 23) clX3 kd_22 (by decide) rfl rfl flX3_11 dX3_cropOf_24 ?_
    refine g_iconst (v := 5) (by decide) dX3_cropOf_27 ?_
    refine g_aload_n 0 rfl rfl dX3_cropOf_28 ?_
    refine g_getR (k := 1) (b := (isA (gb M3 0))) clX3 kd_22 (by decide) rfl rfl flX3_18 dX3_cropOf_29 ?_
    refine g_iload 5 rfl dX3_cropOf_32 ?_
    refine g_callVI (y := miX2_rainIn) (As := [.int x5]) (rest := [.int 5, .ref 23]) clX2 (kv_d3_24_0 _ (isA_dom _)) rfl moX2_rainIn rfl mlX3_101 (by first | decide | omega) (by decide) (by simp [Value.category]) rfl dX3_cropOf_34 (SX2_rainIn (isA (gb M3 0)) (isA_dom _) M3 x5) (fun M5 v6 => ?_)
    refine g_astL (j := 5) kd_23 (by decide) (by decide) dX3_cropOf_37 ?_
    refine GO.wr (fun M7 => ?_)
    refine g_aload_n 0 rfl rfl dX3_cropOf_38 ?_
    refine g_getR (k := 0) (b := 23) clX3 kd_22 (by decide) rfl rfl flX3_11 dX3_cropOf_39 ?_
    refine g_bipush (v := 6) (by decide) dX3_cropOf_42 ?_
    refine g_iload 5 rfl dX3_cropOf_44 ?_
    refine g_astL (j := 6) kd_23 (by decide) (by decide) dX3_cropOf_46 ?_
    refine GO.wr (fun M8 => ?_)
    refine g_aload_n 0 rfl rfl dX3_cropOf_47 ?_
    refine g_getR (k := 0) (b := 23) clX3 kd_22 (by decide) rfl rfl flX3_11 dX3_cropOf_48 ?_
    refine g_iconst (v := 2) (by decide) dX3_cropOf_51 ?_
    refine g_aldL (j := 2) kd_23 (by decide) (by decide) dX3_cropOf_52 ?_
    refine g_aload_n 0 rfl rfl dX3_cropOf_53 ?_
    refine g_getR (k := 0) (b := 23) clX3 kd_22 (by decide) rfl rfl flX3_11 dX3_cropOf_54 ?_
    refine g_iconst (v := 5) (by decide) dX3_cropOf_57 ?_
    refine g_aldL (j := 5) kd_23 (by decide) (by decide) dX3_cropOf_58 ?_
    refine g_iadd dX3_cropOf_59 ?_
    refine g_istore (L' := [(6, .int ((gi M8 23 2) + (gi M8 23 5))), (0, .ref 22), (1, .ref a1), (2, .int x2), (3, .int x3), (4, .int x4), (5, .int x5)]) (by decide) rfl dX3_cropOf_60 ?_
    refine g_aload_n 1 rfl rfl dX3_cropOf_62 ?_
    refine g_getR (k := 1) (b := (isA (gb M8 0))) clX3 kd_22 (by decide) rfl rfl flX3_18 dX3_cropOf_63 ?_
    refine g_getR (k := 8) (b := ((isA (gb M8 0)) + 11)) clX2 (kv_d3_24_0 _ (isA_dom _)) (by decide) rfl rfl flX3_104 dX3_cropOf_66 ?_
    refine g_callVI (y := miX6_isTold) (As := []) (rest := []) clX6 (kv_d3_24_11 _ (isA_dom _)) rfl moX6_isTold rfl mlX3_87 (by first | decide | omega) (by decide) (by simp [Value.category]) rfl dX3_cropOf_69 (SX6_isTold ((isA (gb M8 0)) + 11) (sub_d14_35_d11_14_32_35 _ (ku_d3_24_11 _ (isA_dom _))) M8) (fun M9 v10 => ?_)
    refine g_if_eq (tgt := 91) rfl dX3_cropOf_72 (fun c => ?_) (fun c => ?_)
    · exact GO.pick [0] rfl <| SX3_cropOf_b91 a1 h1 M9 ((gi M8 23 2) + (gi M8 23 5))
    · refine g_aload_n 1 rfl rfl dX3_cropOf_75 ?_
      refine g_getR (k := 1) (b := (isA (gb M9 0))) clX3 kd_22 (by decide) rfl rfl flX3_18 dX3_cropOf_76 ?_
      refine g_getR (k := 8) (b := ((isA (gb M9 0)) + 11)) clX2 (kv_d3_24_0 _ (isA_dom _)) (by decide) rfl rfl flX3_104 dX3_cropOf_79 ?_
      refine g_aload_n 1 rfl rfl dX3_cropOf_82 ?_
      refine g_getR (k := 0) (b := 23) clX3 kd_22 (by decide) rfl rfl flX3_11 dX3_cropOf_83 ?_
      refine g_callVI (y := miX6_reckon) (As := [.ref 23]) (rest := []) clX6 (kv_d3_24_11 _ (isA_dom _)) rfl moX6_reckon rfl mlX3_93 (by first | decide | omega) (by decide) (by simp [Value.category]) rfl dX3_cropOf_86 (SX6_reckon ((isA (gb M9 0)) + 11) (sub_d14_35_d11_14_32_35 _ (ku_d3_24_11 _ (isA_dom _))) M9) (fun M11 v12 => ?_)
      refine g_istore (L' := [(6, .int v12), (0, .ref 22), (1, .ref a1), (2, .int x2), (3, .int x3), (4, .int x4), (5, .int x5)]) (by decide) rfl dX3_cropOf_89 ?_
      exact GO.pick [0] rfl <| SX3_cropOf_b91 a1 h1 M11 v12
  · refine g_iconst (v := 0) (by decide) dX3_cropOf_12 ?_
    exact g_ireturn rfl (by decide) (by decide) dX3_cropOf_13 rfl rfl
def fX11_harvest (M : Mem) (x1 : Int32) (x2 : Int32) (x3 : Int32) : RS := bV (fX11_needHouse M x1) (fun M1 => bV (fX11_needPlot M1 x2) (fun M3 => bV (fX11_needWithin M3 x3 0 999) (fun M5 => bI (fX8_lotOf 39 M5 x1) (fun M7 v8 => bI (fX3_cropOf 39 M7 x1 v8 x2 x3) (fun M9 v10 => some (M9, .inr (some (.int v10))))))))
theorem SX11_harvest (M : Mem) (x1 : Int32) (x2 : Int32) (x3 : Int32) : CTO (7) miX11_harvest 3 18 [.ref 0, .int x1, .int x2, .int x3] M (fX11_harvest  M x1 x2 x3) := by
  refine CTO.of (by decide) (by simp [lg_sl, Value.category]) ?_
  show GO miX11_harvest (7) 3 18 0 0 0 [(0, .ref 0), (1, .int x1), (2, .int x2), (3, .int x3)] [] M (bV (fX11_needHouse M x1) (fun M1 => bV (fX11_needPlot M1 x2) (fun M3 => bV (fX11_needWithin M3 x3 0 999) (fun M5 => bI (fX8_lotOf 39 M5 x1) (fun M7 v8 => bI (fX3_cropOf 39 M7 x1 v8 x2 x3) (fun M9 v10 => some (M9, .inr (some (.int v10)))))))))
  refine g_aload_n 0 rfl rfl dX11_harvest_0 ?_
  refine g_iload_n 1 rfl rfl dX11_harvest_1 ?_
  refine g_callVV (y := miX11_needHouse) (As := [.int x1]) (rest := []) clX11 kd_0 rfl moX11_needHouse rfl mlX11_157 (by first | decide | omega) (by decide) (by simp [Value.category]) rfl dX11_harvest_2 (SX11_needHouse  M x1) (fun M1 => ?_)
  refine g_aload_n 0 rfl rfl dX11_harvest_5 ?_
  refine g_iload_n 2 rfl rfl dX11_harvest_6 ?_
  refine g_callVV (y := miX11_needPlot) (As := [.int x2]) (rest := []) clX11 kd_0 rfl moX11_needPlot rfl mlX11_184 (by first | decide | omega) (by decide) (by simp [Value.category]) rfl dX11_harvest_7 (SX11_needPlot  M1 x2) (fun M3 => ?_)
  refine g_aload_n 0 rfl rfl dX11_harvest_10 ?_
  refine g_iload_n 3 rfl rfl dX11_harvest_11 ?_
  refine g_iconst (v := 0) (by decide) dX11_harvest_12 ?_
  refine g_sipush (v := 999) (by decide) dX11_harvest_13 ?_
  refine g_callVV (y := miX11_needWithin) (As := [.int x3, .int 0, .int 999]) (rest := []) clX11 kd_0 rfl moX11_needWithin rfl mlX11_206 (by first | decide | omega) (by decide) (by simp [Value.category]) rfl dX11_harvest_16 (SX11_needWithin  M3 x3 0 999) (fun M5 => ?_)
  refine g_aload_n 0 rfl rfl dX11_harvest_19 ?_
  refine g_getR (k := 2) (b := 22) clX11 kd_0 (by decide) rfl rfl flX11_35 dX11_harvest_20 ?_
  refine g_aload_n 0 rfl rfl dX11_harvest_23 ?_
  refine g_getR (k := 3) (b := 38) clX11 kd_0 (by decide) rfl rfl flX11_42 dX11_harvest_24 ?_
  refine g_getR (k := 0) (b := 39) clX0 kd_38 (by decide) rfl rfl flX11_96 dX11_harvest_27 ?_
  refine g_iload_n 1 rfl rfl dX11_harvest_30 ?_
  refine g_aload_n 0 rfl rfl dX11_harvest_31 ?_
  refine g_getR (k := 3) (b := 38) clX11 kd_0 (by decide) rfl rfl flX11_42 dX11_harvest_32 ?_
  refine g_getR (k := 0) (b := 39) clX0 kd_38 (by decide) rfl rfl flX11_96 dX11_harvest_35 ?_
  refine g_iload_n 1 rfl rfl dX11_harvest_38 ?_
  refine g_callVI (y := miX8_lotOf) (As := [.int x1]) (rest := [.int x1, .ref 39, .ref 22]) clX8 kd_39 rfl moX8_lotOf rfl mlX11_169 (by first | decide | omega) (by decide) (by simp [Value.category]) rfl dX11_harvest_39 (SX8_lotOf 39 (by decide) M5 x1) (fun M7 v8 => ?_)
  refine g_iload_n 2 rfl rfl dX11_harvest_42 ?_
  refine g_iload_n 3 rfl rfl dX11_harvest_43 ?_
  refine g_callVI (y := miX3_cropOf) (As := [.ref 39, .int x1, .int v8, .int x2, .int x3]) (rest := []) clX3 kd_22 rfl moX3_cropOf rfl mlX11_210 (by first | decide | omega) (by decide) (by simp [Value.category]) rfl dX11_harvest_44 (SX3_cropOf 39 (by decide) M7 x1 v8 x2 x3) (fun M9 v10 => ?_)
  exact g_ireturn rfl (by decide) (by decide) dX11_harvest_47 rfl rfl
def fX3_plotsLeft_b41 (rec7 : Mem → Int32 → Int32 → RS) (M : Mem) (x2 : Int32) (x3 : Int32) : RS := rec7 M x2 (x3 + 1)
theorem SX3_plotsLeft_b41 (rec7 : Mem → Int32 → Int32 → RS) (hrec7 : ∀ (M : Mem) (x2 : Int32) (x3 : Int32), GO miX3_plotsLeft (1) 0 0 0 0 7 [(0, .ref 22), (1, .ref 39), (2, .int x2), (3, .int x3)] [] M (rec7 M x2 x3)) (M : Mem) (x2 : Int32) (x3 : Int32) : GO miX3_plotsLeft (1) 0 0 0 0 41 [(0, .ref 22), (1, .ref 39), (2, .int x2), (3, .int x3)] [] M (fX3_plotsLeft_b41 rec7 M x2 x3) := by
  show GO miX3_plotsLeft (1) 0 0 0 0 41 [(0, .ref 22), (1, .ref 39), (2, .int x2), (3, .int x3)] [] M (rec7 M x2 (x3 + 1))
  refine g_iinc (v := x3 + 1) (L' := [(3, .int (x3 + 1)), (0, .ref 22), (1, .ref 39), (2, .int x2)]) 3 rfl rfl (by decide) rfl dX3_plotsLeft_41 ?_
  refine g_goto (tgt := 7) rfl dX3_plotsLeft_44 ?_
  exact GO.pick [1, 2, 3, 0] rfl <| hrec7 M x2 (x3 + 1)
def fX3_plotsLeft_b7 : Nat → Mem → Int32 → Int32 → RS
  | 0 => fun _ _ _ => none
  | n + 1 => fun M x2 x3 => if x3 < (gi M (isA (gb M 0)) 9) then chk (inb x3 8) (if (gi M 41 (ix x3)) = (-1) then fX3_plotsLeft_b41 (fX3_plotsLeft_b7 n) M x2 x3 else chk (inb x3 8) (fX3_plotsLeft_b41 (fX3_plotsLeft_b7 n) M (x2 &&& (((1 : Int32) <<< ((gi M 41 (ix x3)) &&& 31)) ^^^ (-1))) x3)) else some (M, .inr (some (.int x2)))
theorem SX3_plotsLeft_b7 (n : Nat) : ∀ (M : Mem) (x2 : Int32) (x3 : Int32), GO miX3_plotsLeft (1) 0 0 0 0 7 [(0, .ref 22), (1, .ref 39), (2, .int x2), (3, .int x3)] [] M (fX3_plotsLeft_b7 n M x2 x3) := by
  induction n with
  | zero => intro M x2 x3 ; exact GO.none
  | succ n hrec7 =>
    intro M x2 x3 
    show GO miX3_plotsLeft (1) 0 0 0 0 7 [(0, .ref 22), (1, .ref 39), (2, .int x2), (3, .int x3)] [] M (if x3 < (gi M (isA (gb M 0)) 9) then chk (inb x3 8) (if (gi M 41 (ix x3)) = (-1) then fX3_plotsLeft_b41 (fX3_plotsLeft_b7 n) M x2 x3 else chk (inb x3 8) (fX3_plotsLeft_b41 (fX3_plotsLeft_b7 n) M (x2 &&& (((1 : Int32) <<< ((gi M 41 (ix x3)) &&& 31)) ^^^ (-1))) x3)) else some (M, .inr (some (.int x2))))
    refine g_iload_n 3 rfl rfl dX3_plotsLeft_7 ?_
    refine g_aload_n 0 rfl rfl dX3_plotsLeft_8 ?_
    refine g_getR (k := 1) (b := (isA (gb M 0))) clX3 kd_22 (by decide) rfl rfl flX3_18 dX3_plotsLeft_9 ?_
    refine g_getI (k := 9) clX2 (kv_d3_24_0 _ (isA_dom _)) (by decide) rfl flX3_38 dX3_plotsLeft_12 ?_
    refine g_icmp_ge (tgt := 47) rfl dX3_plotsLeft_15 (fun c => ?_) (fun c => ?_)
    · refine g_iload_n 2 rfl rfl dX3_plotsLeft_47 ?_
      exact g_ireturn rfl (by decide) (by decide) dX3_plotsLeft_48 rfl rfl
    · refine g_aload_n 1 rfl rfl dX3_plotsLeft_18 ?_
      refine g_getR (k := 8) (b := 41) clX8 kd_39 (by decide) rfl rfl flX3_65 dX3_plotsLeft_19 ?_
      refine g_iload_n 3 rfl rfl dX3_plotsLeft_22 ?_
      refine g_ald kd_41 dX3_plotsLeft_23 (fun hi3 => ?_)
      refine g_iconst (v := (-1)) (by decide) dX3_plotsLeft_24 ?_
      refine g_icmp_eq (tgt := 41) rfl dX3_plotsLeft_25 (fun c => ?_) (fun c => ?_)
      · exact GO.pick [0, 1, 2, 3] rfl <| SX3_plotsLeft_b41  (fX3_plotsLeft_b7 n) hrec7 M x2 x3
      · refine g_iload_n 2 rfl rfl dX3_plotsLeft_28 ?_
        refine g_iconst (v := 1) (by decide) dX3_plotsLeft_29 ?_
        refine g_aload_n 1 rfl rfl dX3_plotsLeft_30 ?_
        refine g_getR (k := 8) (b := 41) clX8 kd_39 (by decide) rfl rfl flX3_65 dX3_plotsLeft_31 ?_
        refine g_iload_n 3 rfl rfl dX3_plotsLeft_34 ?_
        refine g_ald kd_41 dX3_plotsLeft_35 (fun hi4 => ?_)
        refine g_ishl dX3_plotsLeft_36 ?_
        refine g_iconst (v := (-1)) (by decide) dX3_plotsLeft_37 ?_
        refine g_ixor dX3_plotsLeft_38 ?_
        refine g_iand dX3_plotsLeft_39 ?_
        refine g_istore_n (L' := [(2, .int (x2 &&& (((1 : Int32) <<< ((gi M 41 (ix x3)) &&& 31)) ^^^ (-1)))), (0, .ref 22), (1, .ref 39), (3, .int x3)]) (by decide) rfl rfl dX3_plotsLeft_40 ?_
        exact GO.pick [1, 2, 0, 3] rfl <| SX3_plotsLeft_b41  (fX3_plotsLeft_b7 n) hrec7 M (x2 &&& (((1 : Int32) <<< ((gi M 41 (ix x3)) &&& 31)) ^^^ (-1))) x3
def fX3_plotsLeft (M : Mem)  : RS := bI (fX3_allPlots M) (fun M1 v2 => fX3_plotsLeft_b7  FU M1 v2 0)
theorem SX3_plotsLeft (M : Mem)  : CTO (1) miX3_plotsLeft 0 0 [.ref 22, .ref 39] M (fX3_plotsLeft  M ) := by
  refine CTO.of (by decide) (by simp [lg_sl, Value.category]) ?_
  show GO miX3_plotsLeft (1) 0 0 0 0 0 [(0, .ref 22), (1, .ref 39)] [] M (bI (fX3_allPlots M) (fun M1 v2 => fX3_plotsLeft_b7  FU M1 v2 0))
  refine g_aload_n 0 rfl rfl dX3_plotsLeft_0 ?_
  refine g_callVI (y := miX3_allPlots) (As := []) (rest := []) clX3 kd_22 rfl moX3_allPlots rfl mlX3_121 (by first | decide | omega) (by decide) (by simp [Value.category]) rfl dX3_plotsLeft_1 (SX3_allPlots  M) (fun M1 v2 => ?_)
  refine g_istore_n (L' := [(2, .int v2), (0, .ref 22), (1, .ref 39)]) (by decide) rfl rfl dX3_plotsLeft_4 ?_
  refine g_iconst (v := 0) (by decide) dX3_plotsLeft_5 ?_
  refine g_istore_n (L' := [(3, .int 0), (2, .int v2), (0, .ref 22), (1, .ref 39)]) (by decide) rfl rfl dX3_plotsLeft_6 ?_
  exact GO.pick [2, 3, 1, 0] rfl <| SX3_plotsLeft_b7  FU M1 v2 0

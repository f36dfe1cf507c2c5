def fX0_copyFrom_b35 (a0 : Nat) (a1 : Nat) : Nat → Mem → Int32 → RS
  | 0 => fun _ _ => none
  | n + 1 => fun M x2 => if x2 < 3 then chk (inb x2 3) (chk (inb x2 3) (wr (si M (a0 + 11) (ix x2) (gi M (a1 + 11) (ix x2))) (fun M9 => (fX0_copyFrom_b35 a0 a1 n) M9 (x2 + 1)))) else some (M, .inr none)
theorem SX0_copyFrom_b35 (a0 : Nat) (a1 : Nat) (h0 : a0 ∈ [38, 50]) (h1 : a1 ∈ [38, 50]) (n : Nat) : ∀ (M : Mem) (x2 : Int32), GO miX0_copyFrom (2) 0 0 0 0 35 [(0, .ref a0), (1, .ref a1), (2, .int x2)] [] M (fX0_copyFrom_b35 a0 a1 n M x2) := by
  induction n with
  | zero => intro M x2 ; exact GO.none
  | succ n hrec35 =>
    intro M x2 
    show GO miX0_copyFrom (2) 0 0 0 0 35 [(0, .ref a0), (1, .ref a1), (2, .int x2)] [] M (if x2 < 3 then chk (inb x2 3) (chk (inb x2 3) (wr (si M (a0 + 11) (ix x2) (gi M (a1 + 11) (ix x2))) (fun M9 => (fX0_copyFrom_b35 a0 a1 n) M9 (x2 + 1)))) else some (M, .inr none))
    refine g_iload_n 2 rfl rfl dX0_copyFrom_35 ?_
    refine g_aload_n 0 rfl rfl dX0_copyFrom_36 ?_
    refine g_getR (k := 3) (b := (a0 + 11)) clX0 (kv_d38_50_0 _ h0) (by decide) rfl rfl flX0_30 dX0_copyFrom_37 ?_
    refine g_alen (v := 3) (kv_d38_50_11 _ h0) (by decide) (by decide) dX0_copyFrom_40 ?_
    refine g_icmp_ge (tgt := 62) rfl dX0_copyFrom_41 (fun c => ?_) (fun c => ?_)
    · exact g_vreturn rfl (by decide) (by decide) dX0_copyFrom_62
    · refine g_aload_n 0 rfl rfl dX0_copyFrom_44 ?_
      refine g_getR (k := 3) (b := (a0 + 11)) clX0 (kv_d38_50_0 _ h0) (by decide) rfl rfl flX0_30 dX0_copyFrom_45 ?_
      refine g_iload_n 2 rfl rfl dX0_copyFrom_48 ?_
      refine g_aload_n 1 rfl rfl dX0_copyFrom_49 ?_
      refine g_getR (k := 3) (b := (a1 + 11)) clX0 (kv_d38_50_0 _ h1) (by decide) rfl rfl flX0_30 dX0_copyFrom_50 ?_
      refine g_iload_n 2 rfl rfl dX0_copyFrom_53 ?_
      refine g_ald (kv_d38_50_11 _ h1) dX0_copyFrom_54 (fun hi7 => ?_)
      refine g_ast (kv_d38_50_11 _ h0) dX0_copyFrom_55 (fun hi8 => ?_)
      refine GO.wr (fun M9 => ?_)
      refine g_iinc (v := x2 + 1) (L' := [(2, .int (x2 + 1)), (0, .ref a0), (1, .ref a1)]) 2 rfl rfl (by decide) rfl dX0_copyFrom_56 ?_
      refine g_goto (tgt := 35) rfl dX0_copyFrom_59 ?_
      exact GO.pick [1, 2, 0] rfl <| hrec35 M9 (x2 + 1)
def fX0_copyFrom (a0 : Nat) (a1 : Nat) (M : Mem)  : RS := bV (fX8_copyFrom (a0 + 1) (a1 + 1) M) (fun M1 => bV (fX1_copyFrom (a0 + 5) (a1 + 5) M1) (fun M3 => bV (fX7_copyFrom (a0 + 7) (a1 + 7) M3) (fun M5 => fX0_copyFrom_b35 a0 a1 FU M5 0)))
theorem SX0_copyFrom (a0 : Nat) (a1 : Nat) (h0 : a0 ∈ [38, 50]) (h1 : a1 ∈ [38, 50]) (M : Mem)  : CTO (2) miX0_copyFrom 0 0 [.ref a0, .ref a1] M (fX0_copyFrom a0 a1 M ) := by
  refine CTO.of (by decide) (by simp [lg_sl, Value.category]) ?_
  show GO miX0_copyFrom (2) 0 0 0 0 0 [(0, .ref a0), (1, .ref a1)] [] M (bV (fX8_copyFrom (a0 + 1) (a1 + 1) M) (fun M1 => bV (fX1_copyFrom (a0 + 5) (a1 + 5) M1) (fun M3 => bV (fX7_copyFrom (a0 + 7) (a1 + 7) M3) (fun M5 => fX0_copyFrom_b35 a0 a1 FU M5 0))))
  refine g_aload_n 0 rfl rfl dX0_copyFrom_0 ?_
  refine g_getR (k := 0) (b := (a0 + 1)) clX0 (kv_d38_50_0 _ h0) (by decide) rfl rfl flX0_10 dX0_copyFrom_1 ?_
  refine g_aload_n 1 rfl rfl dX0_copyFrom_4 ?_
  refine g_getR (k := 0) (b := (a1 + 1)) clX0 (kv_d38_50_0 _ h1) (by decide) rfl rfl flX0_10 dX0_copyFrom_5 ?_
  refine g_callVV (y := miX8_copyFrom) (As := [.ref (a1 + 1)]) (rest := []) clX8 (kv_d38_50_1 _ h0) rfl moX8_copyFrom rfl mlX0_45 (by first | decide | omega) (by decide) (by simp [Value.category]) rfl dX0_copyFrom_8 (SX8_copyFrom (a0 + 1) (a1 + 1) (sub_d39_51_d39_51_62 _ (ku_d38_50_1 _ h0)) (ku_d38_50_1 _ h1) M) (fun M1 => ?_)
  refine g_aload_n 0 rfl rfl dX0_copyFrom_11 ?_
  refine g_getR (k := 1) (b := (a0 + 5)) clX0 (kv_d38_50_0 _ h0) (by decide) rfl rfl flX0_19 dX0_copyFrom_12 ?_
  refine g_aload_n 1 rfl rfl dX0_copyFrom_15 ?_
  refine g_getR (k := 1) (b := (a1 + 5)) clX0 (kv_d38_50_0 _ h1) (by decide) rfl rfl flX0_19 dX0_copyFrom_16 ?_
  refine g_callVV (y := miX1_copyFrom) (As := [.ref (a1 + 5)]) (rest := []) clX1 (kv_d38_50_5 _ h0) rfl moX1_copyFrom rfl mlX0_49 (by first | decide | omega) (by decide) (by simp [Value.category]) rfl dX0_copyFrom_19 (SX1_copyFrom (a0 + 5) (a1 + 5) (ku_d38_50_5 _ h0) (ku_d38_50_5 _ h1) M1) (fun M3 => ?_)
  refine g_aload_n 0 rfl rfl dX0_copyFrom_22 ?_
  refine g_getR (k := 2) (b := (a0 + 7)) clX0 (kv_d38_50_0 _ h0) (by decide) rfl rfl flX0_26 dX0_copyFrom_23 ?_
  refine g_aload_n 1 rfl rfl dX0_copyFrom_26 ?_
  refine g_getR (k := 2) (b := (a1 + 7)) clX0 (kv_d38_50_0 _ h1) (by decide) rfl rfl flX0_26 dX0_copyFrom_27 ?_
  refine g_callVV (y := miX7_copyFrom) (As := [.ref (a1 + 7)]) (rest := []) clX7 (kv_d38_50_7 _ h0) rfl moX7_copyFrom rfl mlX0_52 (by first | decide | omega) (by decide) (by simp [Value.category]) rfl dX0_copyFrom_30 (SX7_copyFrom (a0 + 7) (a1 + 7) (ku_d38_50_7 _ h0) (ku_d38_50_7 _ h1) M3) (fun M5 => ?_)
  refine g_iconst (v := 0) (by decide) dX0_copyFrom_33 ?_
  refine g_istore_n (L' := [(2, .int 0), (0, .ref a0), (1, .ref a1)]) (by decide) rfl rfl dX0_copyFrom_34 ?_
  exact GO.pick [1, 2, 0] rfl <| SX0_copyFrom_b35 a0 a1 h0 h1 FU M5 0
def fX11_image (M : Mem)  : RS := bV (fX0_copyFrom 50 38 M) (fun M1 => wr (si M1 0 9 1) (fun M3 => some (M3, .inr none)))
theorem SX11_image (M : Mem)  : CTO (3) miX11_image 0 0 [.ref 0] M (fX11_image  M ) := by
  refine CTO.of (by decide) (by simp [lg_sl, Value.category]) ?_
  show GO miX11_image (3) 0 0 0 0 0 [(0, .ref 0)] [] M (bV (fX0_copyFrom 50 38 M) (fun M1 => wr (si M1 0 9 1) (fun M3 => some (M3, .inr none))))
  refine g_aload_n 0 rfl rfl dX11_image_0 ?_
  refine g_getR (k := 4) (b := 50) clX11 kd_0 (by decide) rfl rfl flX11_46 dX11_image_1 ?_
  refine g_aload_n 0 rfl rfl dX11_image_4 ?_
  refine g_getR (k := 3) (b := 38) clX11 kd_0 (by decide) rfl rfl flX11_42 dX11_image_5 ?_
  refine g_callVV (y := miX0_copyFrom) (As := [.ref 38]) (rest := []) clX0 kd_50 rfl moX0_copyFrom rfl mlX11_366 (by first | decide | omega) (by decide) (by simp [Value.category]) rfl dX11_image_8 (SX0_copyFrom 50 38 (by decide) (by decide) M) (fun M1 => ?_)
  refine g_aload_n 0 rfl rfl dX11_image_11 ?_
  refine g_iconst (v := 1) (by decide) dX11_image_12 ?_
  refine g_putZ (k := 9) clX11 kd_0 (by decide) rfl (by decide) rfl (by decide) flX11_67 dX11_image_13 ?_
  refine GO.wr (fun M3 => ?_)
  exact g_vreturn rfl (by decide) (by decide) dX11_image_16
def fX11_restore (M : Mem)  : RS := if (gi M 0 9) = 0 then some (M, .inr (some (.int 0))) else bV (fX0_copyFrom 38 50 M) (fun M1 => some (M1, .inr (some (.int 1))))
theorem SX11_restore (M : Mem)  : CTO (3) miX11_restore 0 0 [.ref 0] M (fX11_restore  M ) := by
  refine CTO.of (by decide) (by simp [lg_sl, Value.category]) ?_
  show GO miX11_restore (3) 0 0 0 0 0 [(0, .ref 0)] [] M (if (gi M 0 9) = 0 then some (M, .inr (some (.int 0))) else bV (fX0_copyFrom 38 50 M) (fun M1 => some (M1, .inr (some (.int 1)))))
  refine g_aload_n 0 rfl rfl dX11_restore_0 ?_
  refine g_getI (k := 9) clX11 kd_0 (by decide) rfl flX11_67 dX11_restore_1 ?_
  refine g_if_ne (tgt := 9) rfl dX11_restore_4 (fun c => ?_) (fun c => ?_)
  · refine g_aload_n 0 rfl rfl dX11_restore_9 ?_
    refine g_getR (k := 3) (b := 38) clX11 kd_0 (by decide) rfl rfl flX11_42 dX11_restore_10 ?_
    refine g_aload_n 0 rfl rfl dX11_restore_13 ?_
    refine g_getR (k := 4) (b := 50) clX11 kd_0 (by decide) rfl rfl flX11_46 dX11_restore_14 ?_
    refine g_callVV (y := miX0_copyFrom) (As := [.ref 50]) (rest := []) clX0 kd_38 rfl moX0_copyFrom rfl mlX11_366 (by first | decide | omega) (by decide) (by simp [Value.category]) rfl dX11_restore_17 (SX0_copyFrom 38 50 (by decide) (by decide) M) (fun M1 => ?_)
    refine g_iconst (v := 1) (by decide) dX11_restore_20 ?_
    exact g_zreturn rfl (by decide) (by decide) dX11_restore_21 (by decide)
  · refine g_iconst (v := 0) (by decide) dX11_restore_7 ?_
    exact g_zreturn rfl (by decide) (by decide) dX11_restore_8 (by decide)

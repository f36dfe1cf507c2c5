theorem bdJ6_bitCount_0f7a4_0 : (decode cJ6_bitCount_0f7a4 0 = .ok (.iload_n 0, 1)) ∧ (decode cJ6_bitCount_0f7a4 1 = .ok (.iload_n 0, 1)) ∧ (decode cJ6_bitCount_0f7a4 2 = .ok (.iconst 1, 1)) ∧ (decode cJ6_bitCount_0f7a4 3 = .ok (.iushr, 1)) ∧ (decode cJ6_bitCount_0f7a4 4 = .ok (.ldc_w 265, 3)) ∧ (decode cJ6_bitCount_0f7a4 7 = .ok (.iand, 1)) ∧ (decode cJ6_bitCount_0f7a4 8 = .ok (.isub, 1)) ∧ (decode cJ6_bitCount_0f7a4 9 = .ok (.istore_n 0, 1)) ∧ (decode cJ6_bitCount_0f7a4 10 = .ok (.iload_n 0, 1)) ∧ (decode cJ6_bitCount_0f7a4 11 = .ok (.ldc_w 266, 3)) := by decide +kernel
theorem dJ6_bitCount_0f7a4_0 : decode cJ6_bitCount_0f7a4 0 = .ok (.iload_n 0, 1) := bdJ6_bitCount_0f7a4_0.1
theorem dJ6_bitCount_0f7a4_1 : decode cJ6_bitCount_0f7a4 1 = .ok (.iload_n 0, 1) := bdJ6_bitCount_0f7a4_0.2.1
theorem dJ6_bitCount_0f7a4_2 : decode cJ6_bitCount_0f7a4 2 = .ok (.iconst 1, 1) := bdJ6_bitCount_0f7a4_0.2.2.1
theorem dJ6_bitCount_0f7a4_3 : decode cJ6_bitCount_0f7a4 3 = .ok (.iushr, 1) := bdJ6_bitCount_0f7a4_0.2.2.2.1
theorem dJ6_bitCount_0f7a4_4 : decode cJ6_bitCount_0f7a4 4 = .ok (.ldc_w 265, 3) := bdJ6_bitCount_0f7a4_0.2.2.2.2.1
theorem dJ6_bitCount_0f7a4_7 : decode cJ6_bitCount_0f7a4 7 = .ok (.iand, 1) := bdJ6_bitCount_0f7a4_0.2.2.2.2.2.1
theorem dJ6_bitCount_0f7a4_8 : decode cJ6_bitCount_0f7a4 8 = .ok (.isub, 1) := bdJ6_bitCount_0f7a4_0.2.2.2.2.2.2.1
theorem dJ6_bitCount_0f7a4_9 : decode cJ6_bitCount_0f7a4 9 = .ok (.istore_n 0, 1) := bdJ6_bitCount_0f7a4_0.2.2.2.2.2.2.2.1
theorem dJ6_bitCount_0f7a4_10 : decode cJ6_bitCount_0f7a4 10 = .ok (.iload_n 0, 1) := bdJ6_bitCount_0f7a4_0.2.2.2.2.2.2.2.2.1
theorem dJ6_bitCount_0f7a4_11 : decode cJ6_bitCount_0f7a4 11 = .ok (.ldc_w 266, 3) := bdJ6_bitCount_0f7a4_0.2.2.2.2.2.2.2.2.2
theorem bdJ6_bitCount_0f7a4_14 : (decode cJ6_bitCount_0f7a4 14 = .ok (.iand, 1)) ∧ (decode cJ6_bitCount_0f7a4 15 = .ok (.iload_n 0, 1)) ∧ (decode cJ6_bitCount_0f7a4 16 = .ok (.iconst 2, 1)) ∧ (decode cJ6_bitCount_0f7a4 17 = .ok (.iushr, 1)) ∧ (decode cJ6_bitCount_0f7a4 18 = .ok (.ldc_w 266, 3)) ∧ (decode cJ6_bitCount_0f7a4 21 = .ok (.iand, 1)) ∧ (decode cJ6_bitCount_0f7a4 22 = .ok (.iadd, 1)) ∧ (decode cJ6_bitCount_0f7a4 23 = .ok (.istore_n 0, 1)) ∧ (decode cJ6_bitCount_0f7a4 24 = .ok (.iload_n 0, 1)) ∧ (decode cJ6_bitCount_0f7a4 25 = .ok (.iload_n 0, 1)) := by decide +kernel
theorem dJ6_bitCount_0f7a4_14 : decode cJ6_bitCount_0f7a4 14 = .ok (.iand, 1) := bdJ6_bitCount_0f7a4_14.1
theorem dJ6_bitCount_0f7a4_15 : decode cJ6_bitCount_0f7a4 15 = .ok (.iload_n 0, 1) := bdJ6_bitCount_0f7a4_14.2.1
theorem dJ6_bitCount_0f7a4_16 : decode cJ6_bitCount_0f7a4 16 = .ok (.iconst 2, 1) := bdJ6_bitCount_0f7a4_14.2.2.1
theorem dJ6_bitCount_0f7a4_17 : decode cJ6_bitCount_0f7a4 17 = .ok (.iushr, 1) := bdJ6_bitCount_0f7a4_14.2.2.2.1
theorem dJ6_bitCount_0f7a4_18 : decode cJ6_bitCount_0f7a4 18 = .ok (.ldc_w 266, 3) := bdJ6_bitCount_0f7a4_14.2.2.2.2.1
theorem dJ6_bitCount_0f7a4_21 : decode cJ6_bitCount_0f7a4 21 = .ok (.iand, 1) := bdJ6_bitCount_0f7a4_14.2.2.2.2.2.1
theorem dJ6_bitCount_0f7a4_22 : decode cJ6_bitCount_0f7a4 22 = .ok (.iadd, 1) := bdJ6_bitCount_0f7a4_14.2.2.2.2.2.2.1
theorem dJ6_bitCount_0f7a4_23 : decode cJ6_bitCount_0f7a4 23 = .ok (.istore_n 0, 1) := bdJ6_bitCount_0f7a4_14.2.2.2.2.2.2.2.1
theorem dJ6_bitCount_0f7a4_24 : decode cJ6_bitCount_0f7a4 24 = .ok (.iload_n 0, 1) := bdJ6_bitCount_0f7a4_14.2.2.2.2.2.2.2.2.1
theorem dJ6_bitCount_0f7a4_25 : decode cJ6_bitCount_0f7a4 25 = .ok (.iload_n 0, 1) := bdJ6_bitCount_0f7a4_14.2.2.2.2.2.2.2.2.2
theorem bdJ6_bitCount_0f7a4_26 : (decode cJ6_bitCount_0f7a4 26 = .ok (.iconst 4, 1)) ∧ (decode cJ6_bitCount_0f7a4 27 = .ok (.iushr, 1)) ∧ (decode cJ6_bitCount_0f7a4 28 = .ok (.iadd, 1)) ∧ (decode cJ6_bitCount_0f7a4 29 = .ok (.ldc_w 267, 3)) ∧ (decode cJ6_bitCount_0f7a4 32 = .ok (.iand, 1)) ∧ (decode cJ6_bitCount_0f7a4 33 = .ok (.istore_n 0, 1)) ∧ (decode cJ6_bitCount_0f7a4 34 = .ok (.iload_n 0, 1)) ∧ (decode cJ6_bitCount_0f7a4 35 = .ok (.iload_n 0, 1)) ∧ (decode cJ6_bitCount_0f7a4 36 = .ok (.bipush 8, 2)) ∧ (decode cJ6_bitCount_0f7a4 38 = .ok (.iushr, 1)) := by decide +kernel
theorem dJ6_bitCount_0f7a4_26 : decode cJ6_bitCount_0f7a4 26 = .ok (.iconst 4, 1) := bdJ6_bitCount_0f7a4_26.1
theorem dJ6_bitCount_0f7a4_27 : decode cJ6_bitCount_0f7a4 27 = .ok (.iushr, 1) := bdJ6_bitCount_0f7a4_26.2.1
theorem dJ6_bitCount_0f7a4_28 : decode cJ6_bitCount_0f7a4 28 = .ok (.iadd, 1) := bdJ6_bitCount_0f7a4_26.2.2.1
theorem dJ6_bitCount_0f7a4_29 : decode cJ6_bitCount_0f7a4 29 = .ok (.ldc_w 267, 3) := bdJ6_bitCount_0f7a4_26.2.2.2.1
theorem dJ6_bitCount_0f7a4_32 : decode cJ6_bitCount_0f7a4 32 = .ok (.iand, 1) := bdJ6_bitCount_0f7a4_26.2.2.2.2.1
theorem dJ6_bitCount_0f7a4_33 : decode cJ6_bitCount_0f7a4 33 = .ok (.istore_n 0, 1) := bdJ6_bitCount_0f7a4_26.2.2.2.2.2.1
theorem dJ6_bitCount_0f7a4_34 : decode cJ6_bitCount_0f7a4 34 = .ok (.iload_n 0, 1) := bdJ6_bitCount_0f7a4_26.2.2.2.2.2.2.1
theorem dJ6_bitCount_0f7a4_35 : decode cJ6_bitCount_0f7a4 35 = .ok (.iload_n 0, 1) := bdJ6_bitCount_0f7a4_26.2.2.2.2.2.2.2.1
theorem dJ6_bitCount_0f7a4_36 : decode cJ6_bitCount_0f7a4 36 = .ok (.bipush 8, 2) := bdJ6_bitCount_0f7a4_26.2.2.2.2.2.2.2.2.1
theorem dJ6_bitCount_0f7a4_38 : decode cJ6_bitCount_0f7a4 38 = .ok (.iushr, 1) := bdJ6_bitCount_0f7a4_26.2.2.2.2.2.2.2.2.2
theorem bdJ6_bitCount_0f7a4_39 : (decode cJ6_bitCount_0f7a4 39 = .ok (.iadd, 1)) ∧ (decode cJ6_bitCount_0f7a4 40 = .ok (.istore_n 0, 1)) ∧ (decode cJ6_bitCount_0f7a4 41 = .ok (.iload_n 0, 1)) ∧ (decode cJ6_bitCount_0f7a4 42 = .ok (.iload_n 0, 1)) ∧ (decode cJ6_bitCount_0f7a4 43 = .ok (.bipush 16, 2)) ∧ (decode cJ6_bitCount_0f7a4 45 = .ok (.iushr, 1)) ∧ (decode cJ6_bitCount_0f7a4 46 = .ok (.iadd, 1)) ∧ (decode cJ6_bitCount_0f7a4 47 = .ok (.istore_n 0, 1)) ∧ (decode cJ6_bitCount_0f7a4 48 = .ok (.iload_n 0, 1)) ∧ (decode cJ6_bitCount_0f7a4 49 = .ok (.bipush 63, 2)) := by decide +kernel
theorem dJ6_bitCount_0f7a4_39 : decode cJ6_bitCount_0f7a4 39 = .ok (.iadd, 1) := bdJ6_bitCount_0f7a4_39.1
theorem dJ6_bitCount_0f7a4_40 : decode cJ6_bitCount_0f7a4 40 = .ok (.istore_n 0, 1) := bdJ6_bitCount_0f7a4_39.2.1
theorem dJ6_bitCount_0f7a4_41 : decode cJ6_bitCount_0f7a4 41 = .ok (.iload_n 0, 1) := bdJ6_bitCount_0f7a4_39.2.2.1
theorem dJ6_bitCount_0f7a4_42 : decode cJ6_bitCount_0f7a4 42 = .ok (.iload_n 0, 1) := bdJ6_bitCount_0f7a4_39.2.2.2.1
theorem dJ6_bitCount_0f7a4_43 : decode cJ6_bitCount_0f7a4 43 = .ok (.bipush 16, 2) := bdJ6_bitCount_0f7a4_39.2.2.2.2.1
theorem dJ6_bitCount_0f7a4_45 : decode cJ6_bitCount_0f7a4 45 = .ok (.iushr, 1) := bdJ6_bitCount_0f7a4_39.2.2.2.2.2.1
theorem dJ6_bitCount_0f7a4_46 : decode cJ6_bitCount_0f7a4 46 = .ok (.iadd, 1) := bdJ6_bitCount_0f7a4_39.2.2.2.2.2.2.1
theorem dJ6_bitCount_0f7a4_47 : decode cJ6_bitCount_0f7a4 47 = .ok (.istore_n 0, 1) := bdJ6_bitCount_0f7a4_39.2.2.2.2.2.2.2.1
theorem dJ6_bitCount_0f7a4_48 : decode cJ6_bitCount_0f7a4 48 = .ok (.iload_n 0, 1) := bdJ6_bitCount_0f7a4_39.2.2.2.2.2.2.2.2.1
theorem dJ6_bitCount_0f7a4_49 : decode cJ6_bitCount_0f7a4 49 = .ok (.bipush 63, 2) := bdJ6_bitCount_0f7a4_39.2.2.2.2.2.2.2.2.2
theorem bdJ6_bitCount_0f7a4_51 : (decode cJ6_bitCount_0f7a4 51 = .ok (.iand, 1)) ∧ (decode cJ6_bitCount_0f7a4 52 = .ok (.ireturn, 1)) := by decide +kernel
theorem dJ6_bitCount_0f7a4_51 : decode cJ6_bitCount_0f7a4 51 = .ok (.iand, 1) := bdJ6_bitCount_0f7a4_51.1
theorem dJ6_bitCount_0f7a4_52 : decode cJ6_bitCount_0f7a4 52 = .ok (.ireturn, 1) := bdJ6_bitCount_0f7a4_51.2
theorem bdJ9_floorMod_7cf53_0 : (decode cJ9_floorMod_7cf53 0 = .ok (.iload_n 0, 1)) ∧ (decode cJ9_floorMod_7cf53 1 = .ok (.iload_n 1, 1)) ∧ (decode cJ9_floorMod_7cf53 2 = .ok (.irem, 1)) ∧ (decode cJ9_floorMod_7cf53 3 = .ok (.istore_n 2, 1)) ∧ (decode cJ9_floorMod_7cf53 4 = .ok (.iload_n 0, 1)) ∧ (decode cJ9_floorMod_7cf53 5 = .ok (.iload_n 1, 1)) ∧ (decode cJ9_floorMod_7cf53 6 = .ok (.ixor, 1)) ∧ (decode cJ9_floorMod_7cf53 7 = .ok (.ifCond .ge 11, 3)) ∧ (decode cJ9_floorMod_7cf53 10 = .ok (.iload_n 2, 1)) ∧ (decode cJ9_floorMod_7cf53 11 = .ok (.ifCond .eq 7, 3)) := by decide +kernel
theorem dJ9_floorMod_7cf53_0 : decode cJ9_floorMod_7cf53 0 = .ok (.iload_n 0, 1) := bdJ9_floorMod_7cf53_0.1
theorem dJ9_floorMod_7cf53_1 : decode cJ9_floorMod_7cf53 1 = .ok (.iload_n 1, 1) := bdJ9_floorMod_7cf53_0.2.1
theorem dJ9_floorMod_7cf53_2 : decode cJ9_floorMod_7cf53 2 = .ok (.irem, 1) := bdJ9_floorMod_7cf53_0.2.2.1
theorem dJ9_floorMod_7cf53_3 : decode cJ9_floorMod_7cf53 3 = .ok (.istore_n 2, 1) := bdJ9_floorMod_7cf53_0.2.2.2.1
theorem dJ9_floorMod_7cf53_4 : decode cJ9_floorMod_7cf53 4 = .ok (.iload_n 0, 1) := bdJ9_floorMod_7cf53_0.2.2.2.2.1
theorem dJ9_floorMod_7cf53_5 : decode cJ9_floorMod_7cf53 5 = .ok (.iload_n 1, 1) := bdJ9_floorMod_7cf53_0.2.2.2.2.2.1
theorem dJ9_floorMod_7cf53_6 : decode cJ9_floorMod_7cf53 6 = .ok (.ixor, 1) := bdJ9_floorMod_7cf53_0.2.2.2.2.2.2.1
theorem dJ9_floorMod_7cf53_7 : decode cJ9_floorMod_7cf53 7 = .ok (.ifCond .ge 11, 3) := bdJ9_floorMod_7cf53_0.2.2.2.2.2.2.2.1
theorem dJ9_floorMod_7cf53_10 : decode cJ9_floorMod_7cf53 10 = .ok (.iload_n 2, 1) := bdJ9_floorMod_7cf53_0.2.2.2.2.2.2.2.2.1
theorem dJ9_floorMod_7cf53_11 : decode cJ9_floorMod_7cf53 11 = .ok (.ifCond .eq 7, 3) := bdJ9_floorMod_7cf53_0.2.2.2.2.2.2.2.2.2
theorem bdJ9_floorMod_7cf53_14 : (decode cJ9_floorMod_7cf53 14 = .ok (.iload_n 2, 1)) ∧ (decode cJ9_floorMod_7cf53 15 = .ok (.iload_n 1, 1)) ∧ (decode cJ9_floorMod_7cf53 16 = .ok (.iadd, 1)) ∧ (decode cJ9_floorMod_7cf53 17 = .ok (.ireturn, 1)) ∧ (decode cJ9_floorMod_7cf53 18 = .ok (.iload_n 2, 1)) ∧ (decode cJ9_floorMod_7cf53 19 = .ok (.ireturn, 1)) := by decide +kernel
theorem dJ9_floorMod_7cf53_14 : decode cJ9_floorMod_7cf53 14 = .ok (.iload_n 2, 1) := bdJ9_floorMod_7cf53_14.1
theorem dJ9_floorMod_7cf53_15 : decode cJ9_floorMod_7cf53 15 = .ok (.iload_n 1, 1) := bdJ9_floorMod_7cf53_14.2.1
theorem dJ9_floorMod_7cf53_16 : decode cJ9_floorMod_7cf53 16 = .ok (.iadd, 1) := bdJ9_floorMod_7cf53_14.2.2.1
theorem dJ9_floorMod_7cf53_17 : decode cJ9_floorMod_7cf53 17 = .ok (.ireturn, 1) := bdJ9_floorMod_7cf53_14.2.2.2.1
theorem dJ9_floorMod_7cf53_18 : decode cJ9_floorMod_7cf53 18 = .ok (.iload_n 2, 1) := bdJ9_floorMod_7cf53_14.2.2.2.2.1
theorem dJ9_floorMod_7cf53_19 : decode cJ9_floorMod_7cf53 19 = .ok (.ireturn, 1) := bdJ9_floorMod_7cf53_14.2.2.2.2.2
theorem bdJ9_abs_0f7a4_0 : (decode cJ9_abs_0f7a4 0 = .ok (.iload_n 0, 1)) ∧ (decode cJ9_abs_0f7a4 1 = .ok (.ifCond .ge 8, 3)) ∧ (decode cJ9_abs_0f7a4 4 = .ok (.iload_n 0, 1)) ∧ (decode cJ9_abs_0f7a4 5 = .ok (.ineg, 1)) ∧ (decode cJ9_abs_0f7a4 6 = .ok (.goto 4, 3)) ∧ (decode cJ9_abs_0f7a4 9 = .ok (.iload_n 0, 1)) ∧ (decode cJ9_abs_0f7a4 10 = .ok (.ireturn, 1)) := by decide +kernel
theorem dJ9_abs_0f7a4_0 : decode cJ9_abs_0f7a4 0 = .ok (.iload_n 0, 1) := bdJ9_abs_0f7a4_0.1
theorem dJ9_abs_0f7a4_1 : decode cJ9_abs_0f7a4 1 = .ok (.ifCond .ge 8, 3) := bdJ9_abs_0f7a4_0.2.1
theorem dJ9_abs_0f7a4_4 : decode cJ9_abs_0f7a4 4 = .ok (.iload_n 0, 1) := bdJ9_abs_0f7a4_0.2.2.1
theorem dJ9_abs_0f7a4_5 : decode cJ9_abs_0f7a4 5 = .ok (.ineg, 1) := bdJ9_abs_0f7a4_0.2.2.2.1
theorem dJ9_abs_0f7a4_6 : decode cJ9_abs_0f7a4 6 = .ok (.goto 4, 3) := bdJ9_abs_0f7a4_0.2.2.2.2.1
theorem dJ9_abs_0f7a4_9 : decode cJ9_abs_0f7a4 9 = .ok (.iload_n 0, 1) := bdJ9_abs_0f7a4_0.2.2.2.2.2.1
theorem dJ9_abs_0f7a4_10 : decode cJ9_abs_0f7a4 10 = .ok (.ireturn, 1) := bdJ9_abs_0f7a4_0.2.2.2.2.2.2
theorem bdJ9_max_7cf53_0 : (decode cJ9_max_7cf53 0 = .ok (.iload_n 0, 1)) ∧ (decode cJ9_max_7cf53 1 = .ok (.iload_n 1, 1)) ∧ (decode cJ9_max_7cf53 2 = .ok (.if_icmp .lt 7, 3)) ∧ (decode cJ9_max_7cf53 5 = .ok (.iload_n 0, 1)) ∧ (decode cJ9_max_7cf53 6 = .ok (.goto 4, 3)) ∧ (decode cJ9_max_7cf53 9 = .ok (.iload_n 1, 1)) ∧ (decode cJ9_max_7cf53 10 = .ok (.ireturn, 1)) := by decide +kernel
theorem dJ9_max_7cf53_0 : decode cJ9_max_7cf53 0 = .ok (.iload_n 0, 1) := bdJ9_max_7cf53_0.1
theorem dJ9_max_7cf53_1 : decode cJ9_max_7cf53 1 = .ok (.iload_n 1, 1) := bdJ9_max_7cf53_0.2.1
theorem dJ9_max_7cf53_2 : decode cJ9_max_7cf53 2 = .ok (.if_icmp .lt 7, 3) := bdJ9_max_7cf53_0.2.2.1
theorem dJ9_max_7cf53_5 : decode cJ9_max_7cf53 5 = .ok (.iload_n 0, 1) := bdJ9_max_7cf53_0.2.2.2.1
theorem dJ9_max_7cf53_6 : decode cJ9_max_7cf53 6 = .ok (.goto 4, 3) := bdJ9_max_7cf53_0.2.2.2.2.1
theorem dJ9_max_7cf53_9 : decode cJ9_max_7cf53 9 = .ok (.iload_n 1, 1) := bdJ9_max_7cf53_0.2.2.2.2.2.1
theorem dJ9_max_7cf53_10 : decode cJ9_max_7cf53 10 = .ok (.ireturn, 1) := bdJ9_max_7cf53_0.2.2.2.2.2.2
theorem bdJ9_max_f86c9_0 : (decode cJ9_max_f86c9 0 = .ok (.lload_n 0, 1)) ∧ (decode cJ9_max_f86c9 1 = .ok (.lload_n 2, 1)) ∧ (decode cJ9_max_f86c9 2 = .ok (.lcmp, 1)) ∧ (decode cJ9_max_f86c9 3 = .ok (.ifCond .lt 7, 3)) ∧ (decode cJ9_max_f86c9 6 = .ok (.lload_n 0, 1)) ∧ (decode cJ9_max_f86c9 7 = .ok (.goto 4, 3)) ∧ (decode cJ9_max_f86c9 10 = .ok (.lload_n 2, 1)) ∧ (decode cJ9_max_f86c9 11 = .ok (.lreturn, 1)) := by decide +kernel
theorem dJ9_max_f86c9_0 : decode cJ9_max_f86c9 0 = .ok (.lload_n 0, 1) := bdJ9_max_f86c9_0.1
theorem dJ9_max_f86c9_1 : decode cJ9_max_f86c9 1 = .ok (.lload_n 2, 1) := bdJ9_max_f86c9_0.2.1
theorem dJ9_max_f86c9_2 : decode cJ9_max_f86c9 2 = .ok (.lcmp, 1) := bdJ9_max_f86c9_0.2.2.1
theorem dJ9_max_f86c9_3 : decode cJ9_max_f86c9 3 = .ok (.ifCond .lt 7, 3) := bdJ9_max_f86c9_0.2.2.2.1
theorem dJ9_max_f86c9_6 : decode cJ9_max_f86c9 6 = .ok (.lload_n 0, 1) := bdJ9_max_f86c9_0.2.2.2.2.1
theorem dJ9_max_f86c9_7 : decode cJ9_max_f86c9 7 = .ok (.goto 4, 3) := bdJ9_max_f86c9_0.2.2.2.2.2.1
theorem dJ9_max_f86c9_10 : decode cJ9_max_f86c9 10 = .ok (.lload_n 2, 1) := bdJ9_max_f86c9_0.2.2.2.2.2.2.1
theorem dJ9_max_f86c9_11 : decode cJ9_max_f86c9 11 = .ok (.lreturn, 1) := bdJ9_max_f86c9_0.2.2.2.2.2.2.2
theorem bdJ9_min_7cf53_0 : (decode cJ9_min_7cf53 0 = .ok (.iload_n 0, 1)) ∧ (decode cJ9_min_7cf53 1 = .ok (.iload_n 1, 1)) ∧ (decode cJ9_min_7cf53 2 = .ok (.if_icmp .gt 7, 3)) ∧ (decode cJ9_min_7cf53 5 = .ok (.iload_n 0, 1)) ∧ (decode cJ9_min_7cf53 6 = .ok (.goto 4, 3)) ∧ (decode cJ9_min_7cf53 9 = .ok (.iload_n 1, 1)) ∧ (decode cJ9_min_7cf53 10 = .ok (.ireturn, 1)) := by decide +kernel
theorem dJ9_min_7cf53_0 : decode cJ9_min_7cf53 0 = .ok (.iload_n 0, 1) := bdJ9_min_7cf53_0.1
theorem dJ9_min_7cf53_1 : decode cJ9_min_7cf53 1 = .ok (.iload_n 1, 1) := bdJ9_min_7cf53_0.2.1
theorem dJ9_min_7cf53_2 : decode cJ9_min_7cf53 2 = .ok (.if_icmp .gt 7, 3) := bdJ9_min_7cf53_0.2.2.1
theorem dJ9_min_7cf53_5 : decode cJ9_min_7cf53 5 = .ok (.iload_n 0, 1) := bdJ9_min_7cf53_0.2.2.2.1
theorem dJ9_min_7cf53_6 : decode cJ9_min_7cf53 6 = .ok (.goto 4, 3) := bdJ9_min_7cf53_0.2.2.2.2.1
theorem dJ9_min_7cf53_9 : decode cJ9_min_7cf53 9 = .ok (.iload_n 1, 1) := bdJ9_min_7cf53_0.2.2.2.2.2.1
theorem dJ9_min_7cf53_10 : decode cJ9_min_7cf53 10 = .ok (.ireturn, 1) := bdJ9_min_7cf53_0.2.2.2.2.2.2
theorem bdJ9_min_f86c9_0 : (decode cJ9_min_f86c9 0 = .ok (.lload_n 0, 1)) ∧ (decode cJ9_min_f86c9 1 = .ok (.lload_n 2, 1)) ∧ (decode cJ9_min_f86c9 2 = .ok (.lcmp, 1)) ∧ (decode cJ9_min_f86c9 3 = .ok (.ifCond .gt 7, 3)) ∧ (decode cJ9_min_f86c9 6 = .ok (.lload_n 0, 1)) ∧ (decode cJ9_min_f86c9 7 = .ok (.goto 4, 3)) ∧ (decode cJ9_min_f86c9 10 = .ok (.lload_n 2, 1)) ∧ (decode cJ9_min_f86c9 11 = .ok (.lreturn, 1)) := by decide +kernel
theorem dJ9_min_f86c9_0 : decode cJ9_min_f86c9 0 = .ok (.lload_n 0, 1) := bdJ9_min_f86c9_0.1
theorem dJ9_min_f86c9_1 : decode cJ9_min_f86c9 1 = .ok (.lload_n 2, 1) := bdJ9_min_f86c9_0.2.1
theorem dJ9_min_f86c9_2 : decode cJ9_min_f86c9 2 = .ok (.lcmp, 1) := bdJ9_min_f86c9_0.2.2.1
theorem dJ9_min_f86c9_3 : decode cJ9_min_f86c9 3 = .ok (.ifCond .gt 7, 3) := bdJ9_min_f86c9_0.2.2.2.1
theorem dJ9_min_f86c9_6 : decode cJ9_min_f86c9 6 = .ok (.lload_n 0, 1) := bdJ9_min_f86c9_0.2.2.2.2.1
theorem dJ9_min_f86c9_7 : decode cJ9_min_f86c9 7 = .ok (.goto 4, 3) := bdJ9_min_f86c9_0.2.2.2.2.2.1
theorem dJ9_min_f86c9_10 : decode cJ9_min_f86c9 10 = .ok (.lload_n 2, 1) := bdJ9_min_f86c9_0.2.2.2.2.2.2.1
theorem dJ9_min_f86c9_11 : decode cJ9_min_f86c9 11 = .ok (.lreturn, 1) := bdJ9_min_f86c9_0.2.2.2.2.2.2.2
theorem bdJ0_length_8abf5_0 : (decode cJ0_length_8abf5 0 = .ok (.aload_n 0, 1)) ∧ (decode cJ0_length_8abf5 1 = .ok (.getfield 9, 3)) ∧ (decode cJ0_length_8abf5 4 = .ok (.arraylength, 1)) ∧ (decode cJ0_length_8abf5 5 = .ok (.aload_n 0, 1)) ∧ (decode cJ0_length_8abf5 6 = .ok (.invokevirtual 335, 3)) ∧ (decode cJ0_length_8abf5 9 = .ok (.ishr, 1)) ∧ (decode cJ0_length_8abf5 10 = .ok (.ireturn, 1)) := by decide +kernel
theorem dJ0_length_8abf5_0 : decode cJ0_length_8abf5 0 = .ok (.aload_n 0, 1) := bdJ0_length_8abf5_0.1
theorem dJ0_length_8abf5_1 : decode cJ0_length_8abf5 1 = .ok (.getfield 9, 3) := bdJ0_length_8abf5_0.2.1
theorem dJ0_length_8abf5_4 : decode cJ0_length_8abf5 4 = .ok (.arraylength, 1) := bdJ0_length_8abf5_0.2.2.1
theorem dJ0_length_8abf5_5 : decode cJ0_length_8abf5 5 = .ok (.aload_n 0, 1) := bdJ0_length_8abf5_0.2.2.2.1
theorem dJ0_length_8abf5_6 : decode cJ0_length_8abf5 6 = .ok (.invokevirtual 335, 3) := bdJ0_length_8abf5_0.2.2.2.2.1
theorem dJ0_length_8abf5_9 : decode cJ0_length_8abf5 9 = .ok (.ishr, 1) := bdJ0_length_8abf5_0.2.2.2.2.2.1
theorem dJ0_length_8abf5_10 : decode cJ0_length_8abf5 10 = .ok (.ireturn, 1) := bdJ0_length_8abf5_0.2.2.2.2.2.2
theorem bdJ0_charAt_5068e_0 : (decode cJ0_charAt_5068e 0 = .ok (.aload_n 0, 1)) ∧ (decode cJ0_charAt_5068e 1 = .ok (.invokevirtual 492, 3)) ∧ (decode cJ0_charAt_5068e 4 = .ok (.ifCond .eq 12, 3)) ∧ (decode cJ0_charAt_5068e 7 = .ok (.aload_n 0, 1)) ∧ (decode cJ0_charAt_5068e 8 = .ok (.getfield 9, 3)) ∧ (decode cJ0_charAt_5068e 11 = .ok (.iload_n 1, 1)) ∧ (decode cJ0_charAt_5068e 12 = .ok (.invokestatic 495, 3)) ∧ (decode cJ0_charAt_5068e 15 = .ok (.ireturn, 1)) ∧ (decode cJ0_charAt_5068e 16 = .ok (.aload_n 0, 1)) ∧ (decode cJ0_charAt_5068e 17 = .ok (.getfield 9, 3)) := by decide +kernel
theorem dJ0_charAt_5068e_0 : decode cJ0_charAt_5068e 0 = .ok (.aload_n 0, 1) := bdJ0_charAt_5068e_0.1
theorem dJ0_charAt_5068e_1 : decode cJ0_charAt_5068e 1 = .ok (.invokevirtual 492, 3) := bdJ0_charAt_5068e_0.2.1
theorem dJ0_charAt_5068e_4 : decode cJ0_charAt_5068e 4 = .ok (.ifCond .eq 12, 3) := bdJ0_charAt_5068e_0.2.2.1
theorem dJ0_charAt_5068e_7 : decode cJ0_charAt_5068e 7 = .ok (.aload_n 0, 1) := bdJ0_charAt_5068e_0.2.2.2.1
theorem dJ0_charAt_5068e_8 : decode cJ0_charAt_5068e 8 = .ok (.getfield 9, 3) := bdJ0_charAt_5068e_0.2.2.2.2.1
theorem dJ0_charAt_5068e_11 : decode cJ0_charAt_5068e 11 = .ok (.iload_n 1, 1) := bdJ0_charAt_5068e_0.2.2.2.2.2.1
theorem dJ0_charAt_5068e_12 : decode cJ0_charAt_5068e 12 = .ok (.invokestatic 495, 3) := bdJ0_charAt_5068e_0.2.2.2.2.2.2.1
theorem dJ0_charAt_5068e_15 : decode cJ0_charAt_5068e 15 = .ok (.ireturn, 1) := bdJ0_charAt_5068e_0.2.2.2.2.2.2.2.1
theorem dJ0_charAt_5068e_16 : decode cJ0_charAt_5068e 16 = .ok (.aload_n 0, 1) := bdJ0_charAt_5068e_0.2.2.2.2.2.2.2.2.1
theorem dJ0_charAt_5068e_17 : decode cJ0_charAt_5068e 17 = .ok (.getfield 9, 3) := bdJ0_charAt_5068e_0.2.2.2.2.2.2.2.2.2
theorem bdJ0_charAt_5068e_20 : (decode cJ0_charAt_5068e 20 = .ok (.iload_n 1, 1)) ∧ (decode cJ0_charAt_5068e 21 = .ok (.invokestatic 498, 3)) ∧ (decode cJ0_charAt_5068e 24 = .ok (.ireturn, 1)) := by decide +kernel
theorem dJ0_charAt_5068e_20 : decode cJ0_charAt_5068e 20 = .ok (.iload_n 1, 1) := bdJ0_charAt_5068e_20.1
theorem dJ0_charAt_5068e_21 : decode cJ0_charAt_5068e 21 = .ok (.invokestatic 498, 3) := bdJ0_charAt_5068e_20.2.1
theorem dJ0_charAt_5068e_24 : decode cJ0_charAt_5068e 24 = .ok (.ireturn, 1) := bdJ0_charAt_5068e_20.2.2
theorem bdJ0_coder_7d493_0 : (decode cJ0_coder_7d493 0 = .ok (.getstatic 38, 3)) ∧ (decode cJ0_coder_7d493 3 = .ok (.ifCond .eq 10, 3)) ∧ (decode cJ0_coder_7d493 6 = .ok (.aload_n 0, 1)) ∧ (decode cJ0_coder_7d493 7 = .ok (.getfield 15, 3)) ∧ (decode cJ0_coder_7d493 10 = .ok (.goto 4, 3)) ∧ (decode cJ0_coder_7d493 13 = .ok (.iconst 1, 1)) ∧ (decode cJ0_coder_7d493 14 = .ok (.ireturn, 1)) := by decide +kernel
theorem dJ0_coder_7d493_0 : decode cJ0_coder_7d493 0 = .ok (.getstatic 38, 3) := bdJ0_coder_7d493_0.1
theorem dJ0_coder_7d493_3 : decode cJ0_coder_7d493 3 = .ok (.ifCond .eq 10, 3) := bdJ0_coder_7d493_0.2.1
theorem dJ0_coder_7d493_6 : decode cJ0_coder_7d493 6 = .ok (.aload_n 0, 1) := bdJ0_coder_7d493_0.2.2.1
theorem dJ0_coder_7d493_7 : decode cJ0_coder_7d493 7 = .ok (.getfield 15, 3) := bdJ0_coder_7d493_0.2.2.2.1
theorem dJ0_coder_7d493_10 : decode cJ0_coder_7d493 10 = .ok (.goto 4, 3) := bdJ0_coder_7d493_0.2.2.2.2.1
theorem dJ0_coder_7d493_13 : decode cJ0_coder_7d493 13 = .ok (.iconst 1, 1) := bdJ0_coder_7d493_0.2.2.2.2.2.1
theorem dJ0_coder_7d493_14 : decode cJ0_coder_7d493 14 = .ok (.ireturn, 1) := bdJ0_coder_7d493_0.2.2.2.2.2.2
theorem bdJ0_isLatin1_aae02_0 : (decode cJ0_isLatin1_aae02 0 = .ok (.getstatic 38, 3)) ∧ (decode cJ0_isLatin1_aae02 3 = .ok (.ifCond .eq 14, 3)) ∧ (decode cJ0_isLatin1_aae02 6 = .ok (.aload_n 0, 1)) ∧ (decode cJ0_isLatin1_aae02 7 = .ok (.getfield 15, 3)) ∧ (decode cJ0_isLatin1_aae02 10 = .ok (.ifCond .ne 7, 3)) ∧ (decode cJ0_isLatin1_aae02 13 = .ok (.iconst 1, 1)) ∧ (decode cJ0_isLatin1_aae02 14 = .ok (.goto 4, 3)) ∧ (decode cJ0_isLatin1_aae02 17 = .ok (.iconst 0, 1)) ∧ (decode cJ0_isLatin1_aae02 18 = .ok (.ireturn, 1)) := by decide +kernel
theorem dJ0_isLatin1_aae02_0 : decode cJ0_isLatin1_aae02 0 = .ok (.getstatic 38, 3) := bdJ0_isLatin1_aae02_0.1
theorem dJ0_isLatin1_aae02_3 : decode cJ0_isLatin1_aae02 3 = .ok (.ifCond .eq 14, 3) := bdJ0_isLatin1_aae02_0.2.1
theorem dJ0_isLatin1_aae02_6 : decode cJ0_isLatin1_aae02 6 = .ok (.aload_n 0, 1) := bdJ0_isLatin1_aae02_0.2.2.1
theorem dJ0_isLatin1_aae02_7 : decode cJ0_isLatin1_aae02 7 = .ok (.getfield 15, 3) := bdJ0_isLatin1_aae02_0.2.2.2.1
theorem dJ0_isLatin1_aae02_10 : decode cJ0_isLatin1_aae02 10 = .ok (.ifCond .ne 7, 3) := bdJ0_isLatin1_aae02_0.2.2.2.2.1
theorem dJ0_isLatin1_aae02_13 : decode cJ0_isLatin1_aae02 13 = .ok (.iconst 1, 1) := bdJ0_isLatin1_aae02_0.2.2.2.2.2.1
theorem dJ0_isLatin1_aae02_14 : decode cJ0_isLatin1_aae02 14 = .ok (.goto 4, 3) := bdJ0_isLatin1_aae02_0.2.2.2.2.2.2.1
theorem dJ0_isLatin1_aae02_17 : decode cJ0_isLatin1_aae02 17 = .ok (.iconst 0, 1) := bdJ0_isLatin1_aae02_0.2.2.2.2.2.2.2.1
theorem dJ0_isLatin1_aae02_18 : decode cJ0_isLatin1_aae02 18 = .ok (.ireturn, 1) := bdJ0_isLatin1_aae02_0.2.2.2.2.2.2.2.2
theorem bdJ0_checkIndex_df160_0 : (decode cJ0_checkIndex_df160 0 = .ok (.iload_n 0, 1)) ∧ (decode cJ0_checkIndex_df160 1 = .ok (.iload_n 1, 1)) ∧ (decode cJ0_checkIndex_df160 2 = .ok (.getstatic 1053, 3)) ∧ (decode cJ0_checkIndex_df160 5 = .ok (.invokestatic 1059, 3)) ∧ (decode cJ0_checkIndex_df160 8 = .ok (.pop, 1)) ∧ (decode cJ0_checkIndex_df160 9 = .ok (.return_, 1)) := by decide +kernel
theorem dJ0_checkIndex_df160_0 : decode cJ0_checkIndex_df160 0 = .ok (.iload_n 0, 1) := bdJ0_checkIndex_df160_0.1
theorem dJ0_checkIndex_df160_1 : decode cJ0_checkIndex_df160 1 = .ok (.iload_n 1, 1) := bdJ0_checkIndex_df160_0.2.1
theorem dJ0_checkIndex_df160_2 : decode cJ0_checkIndex_df160 2 = .ok (.getstatic 1053, 3) := bdJ0_checkIndex_df160_0.2.2.1
theorem dJ0_checkIndex_df160_5 : decode cJ0_checkIndex_df160 5 = .ok (.invokestatic 1059, 3) := bdJ0_checkIndex_df160_0.2.2.2.1
theorem dJ0_checkIndex_df160_8 : decode cJ0_checkIndex_df160 8 = .ok (.pop, 1) := bdJ0_checkIndex_df160_0.2.2.2.2.1
theorem dJ0_checkIndex_df160_9 : decode cJ0_checkIndex_df160 9 = .ok (.return_, 1) := bdJ0_checkIndex_df160_0.2.2.2.2.2
theorem bdJ1_charAt_3b067_0 : (decode cJ1_charAt_3b067 0 = .ok (.iload_n 1, 1)) ∧ (decode cJ1_charAt_3b067 1 = .ok (.aload_n 0, 1)) ∧ (decode cJ1_charAt_3b067 2 = .ok (.arraylength, 1)) ∧ (decode cJ1_charAt_3b067 3 = .ok (.invokestatic 9, 3)) ∧ (decode cJ1_charAt_3b067 6 = .ok (.aload_n 0, 1)) ∧ (decode cJ1_charAt_3b067 7 = .ok (.iload_n 1, 1)) ∧ (decode cJ1_charAt_3b067 8 = .ok (.baload, 1)) ∧ (decode cJ1_charAt_3b067 9 = .ok (.sipush 255, 3)) ∧ (decode cJ1_charAt_3b067 12 = .ok (.iand, 1)) ∧ (decode cJ1_charAt_3b067 13 = .ok (.i2c, 1)) := by decide +kernel
theorem dJ1_charAt_3b067_0 : decode cJ1_charAt_3b067 0 = .ok (.iload_n 1, 1) := bdJ1_charAt_3b067_0.1
theorem dJ1_charAt_3b067_1 : decode cJ1_charAt_3b067 1 = .ok (.aload_n 0, 1) := bdJ1_charAt_3b067_0.2.1
theorem dJ1_charAt_3b067_2 : decode cJ1_charAt_3b067 2 = .ok (.arraylength, 1) := bdJ1_charAt_3b067_0.2.2.1
theorem dJ1_charAt_3b067_3 : decode cJ1_charAt_3b067 3 = .ok (.invokestatic 9, 3) := bdJ1_charAt_3b067_0.2.2.2.1
theorem dJ1_charAt_3b067_6 : decode cJ1_charAt_3b067 6 = .ok (.aload_n 0, 1) := bdJ1_charAt_3b067_0.2.2.2.2.1
theorem dJ1_charAt_3b067_7 : decode cJ1_charAt_3b067 7 = .ok (.iload_n 1, 1) := bdJ1_charAt_3b067_0.2.2.2.2.2.1
theorem dJ1_charAt_3b067_8 : decode cJ1_charAt_3b067 8 = .ok (.baload, 1) := bdJ1_charAt_3b067_0.2.2.2.2.2.2.1
theorem dJ1_charAt_3b067_9 : decode cJ1_charAt_3b067 9 = .ok (.sipush 255, 3) := bdJ1_charAt_3b067_0.2.2.2.2.2.2.2.1
theorem dJ1_charAt_3b067_12 : decode cJ1_charAt_3b067 12 = .ok (.iand, 1) := bdJ1_charAt_3b067_0.2.2.2.2.2.2.2.2.1
theorem dJ1_charAt_3b067_13 : decode cJ1_charAt_3b067 13 = .ok (.i2c, 1) := bdJ1_charAt_3b067_0.2.2.2.2.2.2.2.2.2
theorem bdJ1_charAt_3b067_14 : (decode cJ1_charAt_3b067 14 = .ok (.ireturn, 1)) := by decide +kernel
theorem dJ1_charAt_3b067_14 : decode cJ1_charAt_3b067 14 = .ok (.ireturn, 1) := bdJ1_charAt_3b067_14
theorem bdJ2_getChar_3b067_0 : (decode cJ2_getChar_3b067 0 = .ok (.getstatic 44, 3)) ∧ (decode cJ2_getChar_3b067 3 = .ok (.ifCond .ne 25, 3)) ∧ (decode cJ2_getChar_3b067 6 = .ok (.iload_n 1, 1)) ∧ (decode cJ2_getChar_3b067 7 = .ok (.ifCond .lt 11, 3)) ∧ (decode cJ2_getChar_3b067 10 = .ok (.iload_n 1, 1)) ∧ (decode cJ2_getChar_3b067 11 = .ok (.aload_n 0, 1)) ∧ (decode cJ2_getChar_3b067 12 = .ok (.invokestatic 48, 3)) ∧ (decode cJ2_getChar_3b067 15 = .ok (.if_icmp .lt 13, 3)) ∧ (decode cJ2_getChar_3b067 18 = .ok (.new 52, 3)) ∧ (decode cJ2_getChar_3b067 21 = .ok (.dup, 1)) := by decide +kernel
theorem dJ2_getChar_3b067_0 : decode cJ2_getChar_3b067 0 = .ok (.getstatic 44, 3) := bdJ2_getChar_3b067_0.1
theorem dJ2_getChar_3b067_3 : decode cJ2_getChar_3b067 3 = .ok (.ifCond .ne 25, 3) := bdJ2_getChar_3b067_0.2.1
theorem dJ2_getChar_3b067_6 : decode cJ2_getChar_3b067 6 = .ok (.iload_n 1, 1) := bdJ2_getChar_3b067_0.2.2.1
theorem dJ2_getChar_3b067_7 : decode cJ2_getChar_3b067 7 = .ok (.ifCond .lt 11, 3) := bdJ2_getChar_3b067_0.2.2.2.1
theorem dJ2_getChar_3b067_10 : decode cJ2_getChar_3b067 10 = .ok (.iload_n 1, 1) := bdJ2_getChar_3b067_0.2.2.2.2.1
theorem dJ2_getChar_3b067_11 : decode cJ2_getChar_3b067 11 = .ok (.aload_n 0, 1) := bdJ2_getChar_3b067_0.2.2.2.2.2.1
theorem dJ2_getChar_3b067_12 : decode cJ2_getChar_3b067 12 = .ok (.invokestatic 48, 3) := bdJ2_getChar_3b067_0.2.2.2.2.2.2.1
theorem dJ2_getChar_3b067_15 : decode cJ2_getChar_3b067 15 = .ok (.if_icmp .lt 13, 3) := bdJ2_getChar_3b067_0.2.2.2.2.2.2.2.1
theorem dJ2_getChar_3b067_18 : decode cJ2_getChar_3b067 18 = .ok (.new 52, 3) := bdJ2_getChar_3b067_0.2.2.2.2.2.2.2.2.1
theorem dJ2_getChar_3b067_21 : decode cJ2_getChar_3b067 21 = .ok (.dup, 1) := bdJ2_getChar_3b067_0.2.2.2.2.2.2.2.2.2
theorem bdJ2_getChar_3b067_22 : (decode cJ2_getChar_3b067 22 = .ok (.ldc 54, 2)) ∧ (decode cJ2_getChar_3b067 24 = .ok (.invokespecial 56, 3)) ∧ (decode cJ2_getChar_3b067 27 = .ok (.athrow, 1)) ∧ (decode cJ2_getChar_3b067 28 = .ok (.iload_n 1, 1)) ∧ (decode cJ2_getChar_3b067 29 = .ok (.iconst 1, 1)) ∧ (decode cJ2_getChar_3b067 30 = .ok (.ishl, 1)) ∧ (decode cJ2_getChar_3b067 31 = .ok (.istore_n 1, 1)) ∧ (decode cJ2_getChar_3b067 32 = .ok (.aload_n 0, 1)) ∧ (decode cJ2_getChar_3b067 33 = .ok (.iload_n 1, 1)) ∧ (decode cJ2_getChar_3b067 34 = .ok (.iinc 1 1, 3)) := by decide +kernel
theorem dJ2_getChar_3b067_22 : decode cJ2_getChar_3b067 22 = .ok (.ldc 54, 2) := bdJ2_getChar_3b067_22.1
theorem dJ2_getChar_3b067_24 : decode cJ2_getChar_3b067 24 = .ok (.invokespecial 56, 3) := bdJ2_getChar_3b067_22.2.1
theorem dJ2_getChar_3b067_27 : decode cJ2_getChar_3b067 27 = .ok (.athrow, 1) := bdJ2_getChar_3b067_22.2.2.1
theorem dJ2_getChar_3b067_28 : decode cJ2_getChar_3b067 28 = .ok (.iload_n 1, 1) := bdJ2_getChar_3b067_22.2.2.2.1
theorem dJ2_getChar_3b067_29 : decode cJ2_getChar_3b067 29 = .ok (.iconst 1, 1) := bdJ2_getChar_3b067_22.2.2.2.2.1
theorem dJ2_getChar_3b067_30 : decode cJ2_getChar_3b067 30 = .ok (.ishl, 1) := bdJ2_getChar_3b067_22.2.2.2.2.2.1
theorem dJ2_getChar_3b067_31 : decode cJ2_getChar_3b067 31 = .ok (.istore_n 1, 1) := bdJ2_getChar_3b067_22.2.2.2.2.2.2.1
theorem dJ2_getChar_3b067_32 : decode cJ2_getChar_3b067 32 = .ok (.aload_n 0, 1) := bdJ2_getChar_3b067_22.2.2.2.2.2.2.2.1
theorem dJ2_getChar_3b067_33 : decode cJ2_getChar_3b067 33 = .ok (.iload_n 1, 1) := bdJ2_getChar_3b067_22.2.2.2.2.2.2.2.2.1
theorem dJ2_getChar_3b067_34 : decode cJ2_getChar_3b067 34 = .ok (.iinc 1 1, 3) := bdJ2_getChar_3b067_22.2.2.2.2.2.2.2.2.2
theorem bdJ2_getChar_3b067_37 : (decode cJ2_getChar_3b067 37 = .ok (.baload, 1)) ∧ (decode cJ2_getChar_3b067 38 = .ok (.sipush 255, 3)) ∧ (decode cJ2_getChar_3b067 41 = .ok (.iand, 1)) ∧ (decode cJ2_getChar_3b067 42 = .ok (.getstatic 59, 3)) ∧ (decode cJ2_getChar_3b067 45 = .ok (.ishl, 1)) ∧ (decode cJ2_getChar_3b067 46 = .ok (.aload_n 0, 1)) ∧ (decode cJ2_getChar_3b067 47 = .ok (.iload_n 1, 1)) ∧ (decode cJ2_getChar_3b067 48 = .ok (.baload, 1)) ∧ (decode cJ2_getChar_3b067 49 = .ok (.sipush 255, 3)) ∧ (decode cJ2_getChar_3b067 52 = .ok (.iand, 1)) := by decide +kernel
theorem dJ2_getChar_3b067_37 : decode cJ2_getChar_3b067 37 = .ok (.baload, 1) := bdJ2_getChar_3b067_37.1
theorem dJ2_getChar_3b067_38 : decode cJ2_getChar_3b067 38 = .ok (.sipush 255, 3) := bdJ2_getChar_3b067_37.2.1
theorem dJ2_getChar_3b067_41 : decode cJ2_getChar_3b067 41 = .ok (.iand, 1) := bdJ2_getChar_3b067_37.2.2.1
theorem dJ2_getChar_3b067_42 : decode cJ2_getChar_3b067 42 = .ok (.getstatic 59, 3) := bdJ2_getChar_3b067_37.2.2.2.1
theorem dJ2_getChar_3b067_45 : decode cJ2_getChar_3b067 45 = .ok (.ishl, 1) := bdJ2_getChar_3b067_37.2.2.2.2.1
theorem dJ2_getChar_3b067_46 : decode cJ2_getChar_3b067 46 = .ok (.aload_n 0, 1) := bdJ2_getChar_3b067_37.2.2.2.2.2.1
theorem dJ2_getChar_3b067_47 : decode cJ2_getChar_3b067 47 = .ok (.iload_n 1, 1) := bdJ2_getChar_3b067_37.2.2.2.2.2.2.1
theorem dJ2_getChar_3b067_48 : decode cJ2_getChar_3b067 48 = .ok (.baload, 1) := bdJ2_getChar_3b067_37.2.2.2.2.2.2.2.1
theorem dJ2_getChar_3b067_49 : decode cJ2_getChar_3b067 49 = .ok (.sipush 255, 3) := bdJ2_getChar_3b067_37.2.2.2.2.2.2.2.2.1
theorem dJ2_getChar_3b067_52 : decode cJ2_getChar_3b067 52 = .ok (.iand, 1) := bdJ2_getChar_3b067_37.2.2.2.2.2.2.2.2.2
theorem bdJ2_getChar_3b067_53 : (decode cJ2_getChar_3b067 53 = .ok (.getstatic 63, 3)) ∧ (decode cJ2_getChar_3b067 56 = .ok (.ishl, 1)) ∧ (decode cJ2_getChar_3b067 57 = .ok (.ior, 1)) ∧ (decode cJ2_getChar_3b067 58 = .ok (.i2c, 1)) ∧ (decode cJ2_getChar_3b067 59 = .ok (.ireturn, 1)) := by decide +kernel
theorem dJ2_getChar_3b067_53 : decode cJ2_getChar_3b067 53 = .ok (.getstatic 63, 3) := bdJ2_getChar_3b067_53.1
theorem dJ2_getChar_3b067_56 : decode cJ2_getChar_3b067 56 = .ok (.ishl, 1) := bdJ2_getChar_3b067_53.2.1
theorem dJ2_getChar_3b067_57 : decode cJ2_getChar_3b067 57 = .ok (.ior, 1) := bdJ2_getChar_3b067_53.2.2.1
theorem dJ2_getChar_3b067_58 : decode cJ2_getChar_3b067 58 = .ok (.i2c, 1) := bdJ2_getChar_3b067_53.2.2.2.1
theorem dJ2_getChar_3b067_59 : decode cJ2_getChar_3b067 59 = .ok (.ireturn, 1) := bdJ2_getChar_3b067_53.2.2.2.2
theorem bdJ2_length_9d52b_0 : (decode cJ2_length_9d52b 0 = .ok (.aload_n 0, 1)) ∧ (decode cJ2_length_9d52b 1 = .ok (.arraylength, 1)) ∧ (decode cJ2_length_9d52b 2 = .ok (.iconst 1, 1)) ∧ (decode cJ2_length_9d52b 3 = .ok (.ishr, 1)) ∧ (decode cJ2_length_9d52b 4 = .ok (.ireturn, 1)) := by decide +kernel
theorem dJ2_length_9d52b_0 : decode cJ2_length_9d52b 0 = .ok (.aload_n 0, 1) := bdJ2_length_9d52b_0.1
theorem dJ2_length_9d52b_1 : decode cJ2_length_9d52b 1 = .ok (.arraylength, 1) := bdJ2_length_9d52b_0.2.1
theorem dJ2_length_9d52b_2 : decode cJ2_length_9d52b 2 = .ok (.iconst 1, 1) := bdJ2_length_9d52b_0.2.2.1
theorem dJ2_length_9d52b_3 : decode cJ2_length_9d52b 3 = .ok (.ishr, 1) := bdJ2_length_9d52b_0.2.2.2.1
theorem dJ2_length_9d52b_4 : decode cJ2_length_9d52b 4 = .ok (.ireturn, 1) := bdJ2_length_9d52b_0.2.2.2.2
theorem bdJ2_charAt_3b067_0 : (decode cJ2_charAt_3b067 0 = .ok (.iload_n 1, 1)) ∧ (decode cJ2_charAt_3b067 1 = .ok (.aload_n 0, 1)) ∧ (decode cJ2_charAt_3b067 2 = .ok (.invokestatic 67, 3)) ∧ (decode cJ2_charAt_3b067 5 = .ok (.aload_n 0, 1)) ∧ (decode cJ2_charAt_3b067 6 = .ok (.iload_n 1, 1)) ∧ (decode cJ2_charAt_3b067 7 = .ok (.invokestatic 71, 3)) ∧ (decode cJ2_charAt_3b067 10 = .ok (.ireturn, 1)) := by decide +kernel
theorem dJ2_charAt_3b067_0 : decode cJ2_charAt_3b067 0 = .ok (.iload_n 1, 1) := bdJ2_charAt_3b067_0.1
theorem dJ2_charAt_3b067_1 : decode cJ2_charAt_3b067 1 = .ok (.aload_n 0, 1) := bdJ2_charAt_3b067_0.2.1
theorem dJ2_charAt_3b067_2 : decode cJ2_charAt_3b067 2 = .ok (.invokestatic 67, 3) := bdJ2_charAt_3b067_0.2.2.1
theorem dJ2_charAt_3b067_5 : decode cJ2_charAt_3b067 5 = .ok (.aload_n 0, 1) := bdJ2_charAt_3b067_0.2.2.2.1
theorem dJ2_charAt_3b067_6 : decode cJ2_charAt_3b067 6 = .ok (.iload_n 1, 1) := bdJ2_charAt_3b067_0.2.2.2.2.1
theorem dJ2_charAt_3b067_7 : decode cJ2_charAt_3b067 7 = .ok (.invokestatic 71, 3) := bdJ2_charAt_3b067_0.2.2.2.2.2.1
theorem dJ2_charAt_3b067_10 : decode cJ2_charAt_3b067 10 = .ok (.ireturn, 1) := bdJ2_charAt_3b067_0.2.2.2.2.2.2
theorem bdJ2_checkIndex_2214a_0 : (decode cJ2_checkIndex_2214a 0 = .ok (.iload_n 0, 1)) ∧ (decode cJ2_checkIndex_2214a 1 = .ok (.aload_n 1, 1)) ∧ (decode cJ2_checkIndex_2214a 2 = .ok (.invokestatic 48, 3)) ∧ (decode cJ2_checkIndex_2214a 5 = .ok (.invokestatic 414, 3)) ∧ (decode cJ2_checkIndex_2214a 8 = .ok (.return_, 1)) := by decide +kernel
theorem dJ2_checkIndex_2214a_0 : decode cJ2_checkIndex_2214a 0 = .ok (.iload_n 0, 1) := bdJ2_checkIndex_2214a_0.1
theorem dJ2_checkIndex_2214a_1 : decode cJ2_checkIndex_2214a 1 = .ok (.aload_n 1, 1) := bdJ2_checkIndex_2214a_0.2.1
theorem dJ2_checkIndex_2214a_2 : decode cJ2_checkIndex_2214a 2 = .ok (.invokestatic 48, 3) := bdJ2_checkIndex_2214a_0.2.2.1
theorem dJ2_checkIndex_2214a_5 : decode cJ2_checkIndex_2214a 5 = .ok (.invokestatic 414, 3) := bdJ2_checkIndex_2214a_0.2.2.2.1
theorem dJ2_checkIndex_2214a_8 : decode cJ2_checkIndex_2214a 8 = .ok (.return_, 1) := bdJ2_checkIndex_2214a_0.2.2.2.2
theorem bdJ3_checkIndex_8e157_0 : (decode cJ3_checkIndex_8e157 0 = .ok (.iload_n 0, 1)) ∧ (decode cJ3_checkIndex_8e157 1 = .ok (.ifCond .lt 8, 3)) ∧ (decode cJ3_checkIndex_8e157 4 = .ok (.iload_n 0, 1)) ∧ (decode cJ3_checkIndex_8e157 5 = .ok (.iload_n 1, 1)) ∧ (decode cJ3_checkIndex_8e157 6 = .ok (.if_icmp .lt 10, 3)) ∧ (decode cJ3_checkIndex_8e157 9 = .ok (.aload_n 2, 1)) ∧ (decode cJ3_checkIndex_8e157 10 = .ok (.iload_n 0, 1)) ∧ (decode cJ3_checkIndex_8e157 11 = .ok (.iload_n 1, 1)) ∧ (decode cJ3_checkIndex_8e157 12 = .ok (.invokestatic 95, 3)) ∧ (decode cJ3_checkIndex_8e157 15 = .ok (.athrow, 1)) := by decide +kernel
theorem dJ3_checkIndex_8e157_0 : decode cJ3_checkIndex_8e157 0 = .ok (.iload_n 0, 1) := bdJ3_checkIndex_8e157_0.1
theorem dJ3_checkIndex_8e157_1 : decode cJ3_checkIndex_8e157 1 = .ok (.ifCond .lt 8, 3) := bdJ3_checkIndex_8e157_0.2.1
theorem dJ3_checkIndex_8e157_4 : decode cJ3_checkIndex_8e157 4 = .ok (.iload_n 0, 1) := bdJ3_checkIndex_8e157_0.2.2.1
theorem dJ3_checkIndex_8e157_5 : decode cJ3_checkIndex_8e157 5 = .ok (.iload_n 1, 1) := bdJ3_checkIndex_8e157_0.2.2.2.1
theorem dJ3_checkIndex_8e157_6 : decode cJ3_checkIndex_8e157 6 = .ok (.if_icmp .lt 10, 3) := bdJ3_checkIndex_8e157_0.2.2.2.2.1
theorem dJ3_checkIndex_8e157_9 : decode cJ3_checkIndex_8e157 9 = .ok (.aload_n 2, 1) := bdJ3_checkIndex_8e157_0.2.2.2.2.2.1
theorem dJ3_checkIndex_8e157_10 : decode cJ3_checkIndex_8e157 10 = .ok (.iload_n 0, 1) := bdJ3_checkIndex_8e157_0.2.2.2.2.2.2.1
theorem dJ3_checkIndex_8e157_11 : decode cJ3_checkIndex_8e157 11 = .ok (.iload_n 1, 1) := bdJ3_checkIndex_8e157_0.2.2.2.2.2.2.2.1
theorem dJ3_checkIndex_8e157_12 : decode cJ3_checkIndex_8e157 12 = .ok (.invokestatic 95, 3) := bdJ3_checkIndex_8e157_0.2.2.2.2.2.2.2.2.1
theorem dJ3_checkIndex_8e157_15 : decode cJ3_checkIndex_8e157 15 = .ok (.athrow, 1) := bdJ3_checkIndex_8e157_0.2.2.2.2.2.2.2.2.2
theorem bdJ3_checkIndex_8e157_16 : (decode cJ3_checkIndex_8e157 16 = .ok (.iload_n 0, 1)) ∧ (decode cJ3_checkIndex_8e157 17 = .ok (.ireturn, 1)) := by decide +kernel
theorem dJ3_checkIndex_8e157_16 : decode cJ3_checkIndex_8e157 16 = .ok (.iload_n 0, 1) := bdJ3_checkIndex_8e157_16.1
theorem dJ3_checkIndex_8e157_17 : decode cJ3_checkIndex_8e157 17 = .ok (.ireturn, 1) := bdJ3_checkIndex_8e157_16.2
theorem bdL_island_0 : (decode cL_island 0 = .ok (.aload_n 2, 1)) ∧ (decode cL_island 1 = .ok (.iconst 0, 1)) ∧ (decode cL_island 2 = .ok (.aload_n 0, 1)) ∧ (decode cL_island 3 = .ok (.iload_n 1, 1)) ∧ (decode cL_island 4 = .ok (.invokevirtual 7, 3)) ∧ (decode cL_island 7 = .ok (.i2l, 1)) ∧ (decode cL_island 8 = .ok (.lastore, 1)) ∧ (decode cL_island 9 = .ok (.goto 6, 3)) ∧ (decode cL_island 12 = .ok (.astore_n 3, 1)) ∧ (decode cL_island 13 = .ok (.iconst 1, 1)) := by decide +kernel
theorem dL_island_0 : decode cL_island 0 = .ok (.aload_n 2, 1) := bdL_island_0.1
theorem dL_island_1 : decode cL_island 1 = .ok (.iconst 0, 1) := bdL_island_0.2.1
theorem dL_island_2 : decode cL_island 2 = .ok (.aload_n 0, 1) := bdL_island_0.2.2.1
theorem dL_island_3 : decode cL_island 3 = .ok (.iload_n 1, 1) := bdL_island_0.2.2.2.1
theorem dL_island_4 : decode cL_island 4 = .ok (.invokevirtual 7, 3) := bdL_island_0.2.2.2.2.1
theorem dL_island_7 : decode cL_island 7 = .ok (.i2l, 1) := bdL_island_0.2.2.2.2.2.1
theorem dL_island_8 : decode cL_island 8 = .ok (.lastore, 1) := bdL_island_0.2.2.2.2.2.2.1
theorem dL_island_9 : decode cL_island 9 = .ok (.goto 6, 3) := bdL_island_0.2.2.2.2.2.2.2.1
theorem dL_island_12 : decode cL_island 12 = .ok (.astore_n 3, 1) := bdL_island_0.2.2.2.2.2.2.2.2.1
theorem dL_island_13 : decode cL_island 13 = .ok (.iconst 1, 1) := bdL_island_0.2.2.2.2.2.2.2.2.2
theorem bdL_island_14 : (decode cL_island 14 = .ok (.ireturn, 1)) ∧ (decode cL_island 15 = .ok (.iconst 0, 1)) ∧ (decode cL_island 16 = .ok (.ireturn, 1)) := by decide +kernel
theorem dL_island_14 : decode cL_island 14 = .ok (.ireturn, 1) := bdL_island_14.1
theorem dL_island_15 : decode cL_island 15 = .ok (.iconst 0, 1) := bdL_island_14.2.1
theorem dL_island_16 : decode cL_island 16 = .ok (.ireturn, 1) := bdL_island_14.2.2
theorem bdL_count_0 : (decode cL_count 0 = .ok (.aload_n 2, 1)) ∧ (decode cL_count 1 = .ok (.iconst 0, 1)) ∧ (decode cL_count 2 = .ok (.aload_n 0, 1)) ∧ (decode cL_count 3 = .ok (.iload_n 1, 1)) ∧ (decode cL_count 4 = .ok (.invokevirtual 15, 3)) ∧ (decode cL_count 7 = .ok (.i2l, 1)) ∧ (decode cL_count 8 = .ok (.lastore, 1)) ∧ (decode cL_count 9 = .ok (.goto 6, 3)) ∧ (decode cL_count 12 = .ok (.astore_n 3, 1)) ∧ (decode cL_count 13 = .ok (.iconst 1, 1)) := by decide +kernel
theorem dL_count_0 : decode cL_count 0 = .ok (.aload_n 2, 1) := bdL_count_0.1
theorem dL_count_1 : decode cL_count 1 = .ok (.iconst 0, 1) := bdL_count_0.2.1
theorem dL_count_2 : decode cL_count 2 = .ok (.aload_n 0, 1) := bdL_count_0.2.2.1
theorem dL_count_3 : decode cL_count 3 = .ok (.iload_n 1, 1) := bdL_count_0.2.2.2.1
theorem dL_count_4 : decode cL_count 4 = .ok (.invokevirtual 15, 3) := bdL_count_0.2.2.2.2.1
theorem dL_count_7 : decode cL_count 7 = .ok (.i2l, 1) := bdL_count_0.2.2.2.2.2.1
theorem dL_count_8 : decode cL_count 8 = .ok (.lastore, 1) := bdL_count_0.2.2.2.2.2.2.1
theorem dL_count_9 : decode cL_count 9 = .ok (.goto 6, 3) := bdL_count_0.2.2.2.2.2.2.2.1
theorem dL_count_12 : decode cL_count 12 = .ok (.astore_n 3, 1) := bdL_count_0.2.2.2.2.2.2.2.2.1
theorem dL_count_13 : decode cL_count 13 = .ok (.iconst 1, 1) := bdL_count_0.2.2.2.2.2.2.2.2.2
theorem bdL_count_14 : (decode cL_count 14 = .ok (.ireturn, 1)) ∧ (decode cL_count 15 = .ok (.iconst 0, 1)) ∧ (decode cL_count 16 = .ok (.ireturn, 1)) := by decide +kernel
theorem dL_count_14 : decode cL_count 14 = .ok (.ireturn, 1) := bdL_count_14.1
theorem dL_count_15 : decode cL_count 15 = .ok (.iconst 0, 1) := bdL_count_14.2.1
theorem dL_count_16 : decode cL_count 16 = .ok (.ireturn, 1) := bdL_count_14.2.2
theorem bdL_house_0 : (decode cL_house 0 = .ok (.aload_n 3, 1)) ∧ (decode cL_house 1 = .ok (.iconst 0, 1)) ∧ (decode cL_house 2 = .ok (.aload_n 0, 1)) ∧ (decode cL_house 3 = .ok (.iload_n 1, 1)) ∧ (decode cL_house 4 = .ok (.iload_n 2, 1)) ∧ (decode cL_house 5 = .ok (.invokevirtual 20, 3)) ∧ (decode cL_house 8 = .ok (.i2l, 1)) ∧ (decode cL_house 9 = .ok (.lastore, 1)) ∧ (decode cL_house 10 = .ok (.goto 7, 3)) ∧ (decode cL_house 13 = .ok (.astore 4, 2)) := by decide +kernel
theorem dL_house_0 : decode cL_house 0 = .ok (.aload_n 3, 1) := bdL_house_0.1
theorem dL_house_1 : decode cL_house 1 = .ok (.iconst 0, 1) := bdL_house_0.2.1
theorem dL_house_2 : decode cL_house 2 = .ok (.aload_n 0, 1) := bdL_house_0.2.2.1
theorem dL_house_3 : decode cL_house 3 = .ok (.iload_n 1, 1) := bdL_house_0.2.2.2.1
theorem dL_house_4 : decode cL_house 4 = .ok (.iload_n 2, 1) := bdL_house_0.2.2.2.2.1
theorem dL_house_5 : decode cL_house 5 = .ok (.invokevirtual 20, 3) := bdL_house_0.2.2.2.2.2.1
theorem dL_house_8 : decode cL_house 8 = .ok (.i2l, 1) := bdL_house_0.2.2.2.2.2.2.1
theorem dL_house_9 : decode cL_house 9 = .ok (.lastore, 1) := bdL_house_0.2.2.2.2.2.2.2.1
theorem dL_house_10 : decode cL_house 10 = .ok (.goto 7, 3) := bdL_house_0.2.2.2.2.2.2.2.2.1
theorem dL_house_13 : decode cL_house 13 = .ok (.astore 4, 2) := bdL_house_0.2.2.2.2.2.2.2.2.2
theorem bdL_house_15 : (decode cL_house 15 = .ok (.iconst 1, 1)) ∧ (decode cL_house 16 = .ok (.ireturn, 1)) ∧ (decode cL_house 17 = .ok (.iconst 0, 1)) ∧ (decode cL_house 18 = .ok (.ireturn, 1)) := by decide +kernel
theorem dL_house_15 : decode cL_house 15 = .ok (.iconst 1, 1) := bdL_house_15.1
theorem dL_house_16 : decode cL_house 16 = .ok (.ireturn, 1) := bdL_house_15.2.1
theorem dL_house_17 : decode cL_house 17 = .ok (.iconst 0, 1) := bdL_house_15.2.2.1
theorem dL_house_18 : decode cL_house 18 = .ok (.ireturn, 1) := bdL_house_15.2.2.2
theorem bdL_plot_0 : (decode cL_plot 0 = .ok (.aload_n 3, 1)) ∧ (decode cL_plot 1 = .ok (.iconst 0, 1)) ∧ (decode cL_plot 2 = .ok (.aload_n 0, 1)) ∧ (decode cL_plot 3 = .ok (.iload_n 1, 1)) ∧ (decode cL_plot 4 = .ok (.iload_n 2, 1)) ∧ (decode cL_plot 5 = .ok (.invokevirtual 24, 3)) ∧ (decode cL_plot 8 = .ok (.i2l, 1)) ∧ (decode cL_plot 9 = .ok (.lastore, 1)) ∧ (decode cL_plot 10 = .ok (.goto 7, 3)) ∧ (decode cL_plot 13 = .ok (.astore 4, 2)) := by decide +kernel
theorem dL_plot_0 : decode cL_plot 0 = .ok (.aload_n 3, 1) := bdL_plot_0.1
theorem dL_plot_1 : decode cL_plot 1 = .ok (.iconst 0, 1) := bdL_plot_0.2.1
theorem dL_plot_2 : decode cL_plot 2 = .ok (.aload_n 0, 1) := bdL_plot_0.2.2.1
theorem dL_plot_3 : decode cL_plot 3 = .ok (.iload_n 1, 1) := bdL_plot_0.2.2.2.1
theorem dL_plot_4 : decode cL_plot 4 = .ok (.iload_n 2, 1) := bdL_plot_0.2.2.2.2.1
theorem dL_plot_5 : decode cL_plot 5 = .ok (.invokevirtual 24, 3) := bdL_plot_0.2.2.2.2.2.1
theorem dL_plot_8 : decode cL_plot 8 = .ok (.i2l, 1) := bdL_plot_0.2.2.2.2.2.2.1
theorem dL_plot_9 : decode cL_plot 9 = .ok (.lastore, 1) := bdL_plot_0.2.2.2.2.2.2.2.1
theorem dL_plot_10 : decode cL_plot 10 = .ok (.goto 7, 3) := bdL_plot_0.2.2.2.2.2.2.2.2.1
theorem dL_plot_13 : decode cL_plot 13 = .ok (.astore 4, 2) := bdL_plot_0.2.2.2.2.2.2.2.2.2
theorem bdL_plot_15 : (decode cL_plot 15 = .ok (.iconst 1, 1)) ∧ (decode cL_plot 16 = .ok (.ireturn, 1)) ∧ (decode cL_plot 17 = .ok (.iconst 0, 1)) ∧ (decode cL_plot 18 = .ok (.ireturn, 1)) := by decide +kernel
theorem dL_plot_15 : decode cL_plot 15 = .ok (.iconst 1, 1) := bdL_plot_15.1
theorem dL_plot_16 : decode cL_plot 16 = .ok (.ireturn, 1) := bdL_plot_15.2.1
theorem dL_plot_17 : decode cL_plot 17 = .ok (.iconst 0, 1) := bdL_plot_15.2.2.1
theorem dL_plot_18 : decode cL_plot 18 = .ok (.ireturn, 1) := bdL_plot_15.2.2.2
theorem bdL_worth_0 : (decode cL_worth 0 = .ok (.aload_n 3, 1)) ∧ (decode cL_worth 1 = .ok (.iconst 0, 1)) ∧ (decode cL_worth 2 = .ok (.aload_n 0, 1)) ∧ (decode cL_worth 3 = .ok (.iload_n 1, 1)) ∧ (decode cL_worth 4 = .ok (.iload_n 2, 1)) ∧ (decode cL_worth 5 = .ok (.invokevirtual 27, 3)) ∧ (decode cL_worth 8 = .ok (.i2l, 1)) ∧ (decode cL_worth 9 = .ok (.lastore, 1)) ∧ (decode cL_worth 10 = .ok (.goto 7, 3)) ∧ (decode cL_worth 13 = .ok (.astore 4, 2)) := by decide +kernel
theorem dL_worth_0 : decode cL_worth 0 = .ok (.aload_n 3, 1) := bdL_worth_0.1
theorem dL_worth_1 : decode cL_worth 1 = .ok (.iconst 0, 1) := bdL_worth_0.2.1
theorem dL_worth_2 : decode cL_worth 2 = .ok (.aload_n 0, 1) := bdL_worth_0.2.2.1
theorem dL_worth_3 : decode cL_worth 3 = .ok (.iload_n 1, 1) := bdL_worth_0.2.2.2.1
theorem dL_worth_4 : decode cL_worth 4 = .ok (.iload_n 2, 1) := bdL_worth_0.2.2.2.2.1
theorem dL_worth_5 : decode cL_worth 5 = .ok (.invokevirtual 27, 3) := bdL_worth_0.2.2.2.2.2.1
theorem dL_worth_8 : decode cL_worth 8 = .ok (.i2l, 1) := bdL_worth_0.2.2.2.2.2.2.1
theorem dL_worth_9 : decode cL_worth 9 = .ok (.lastore, 1) := bdL_worth_0.2.2.2.2.2.2.2.1
theorem dL_worth_10 : decode cL_worth 10 = .ok (.goto 7, 3) := bdL_worth_0.2.2.2.2.2.2.2.2.1
theorem dL_worth_13 : decode cL_worth 13 = .ok (.astore 4, 2) := bdL_worth_0.2.2.2.2.2.2.2.2.2
theorem bdL_worth_15 : (decode cL_worth 15 = .ok (.iconst 1, 1)) ∧ (decode cL_worth 16 = .ok (.ireturn, 1)) ∧ (decode cL_worth 17 = .ok (.iconst 0, 1)) ∧ (decode cL_worth 18 = .ok (.ireturn, 1)) := by decide +kernel
theorem dL_worth_15 : decode cL_worth 15 = .ok (.iconst 1, 1) := bdL_worth_15.1
theorem dL_worth_16 : decode cL_worth 16 = .ok (.ireturn, 1) := bdL_worth_15.2.1
theorem dL_worth_17 : decode cL_worth 17 = .ok (.iconst 0, 1) := bdL_worth_15.2.2.1
theorem dL_worth_18 : decode cL_worth 18 = .ok (.ireturn, 1) := bdL_worth_15.2.2.2
theorem bdL_harvest_0 : (decode cL_harvest 0 = .ok (.aload 4, 2)) ∧ (decode cL_harvest 2 = .ok (.iconst 0, 1)) ∧ (decode cL_harvest 3 = .ok (.aload_n 0, 1)) ∧ (decode cL_harvest 4 = .ok (.iload_n 1, 1)) ∧ (decode cL_harvest 5 = .ok (.iload_n 2, 1)) ∧ (decode cL_harvest 6 = .ok (.iload_n 3, 1)) ∧ (decode cL_harvest 7 = .ok (.invokevirtual 30, 3)) ∧ (decode cL_harvest 10 = .ok (.i2l, 1)) ∧ (decode cL_harvest 11 = .ok (.lastore, 1)) ∧ (decode cL_harvest 12 = .ok (.goto 11, 3)) := by decide +kernel
theorem dL_harvest_0 : decode cL_harvest 0 = .ok (.aload 4, 2) := bdL_harvest_0.1
theorem dL_harvest_2 : decode cL_harvest 2 = .ok (.iconst 0, 1) := bdL_harvest_0.2.1
theorem dL_harvest_3 : decode cL_harvest 3 = .ok (.aload_n 0, 1) := bdL_harvest_0.2.2.1
theorem dL_harvest_4 : decode cL_harvest 4 = .ok (.iload_n 1, 1) := bdL_harvest_0.2.2.2.1
theorem dL_harvest_5 : decode cL_harvest 5 = .ok (.iload_n 2, 1) := bdL_harvest_0.2.2.2.2.1
theorem dL_harvest_6 : decode cL_harvest 6 = .ok (.iload_n 3, 1) := bdL_harvest_0.2.2.2.2.2.1
theorem dL_harvest_7 : decode cL_harvest 7 = .ok (.invokevirtual 30, 3) := bdL_harvest_0.2.2.2.2.2.2.1
theorem dL_harvest_10 : decode cL_harvest 10 = .ok (.i2l, 1) := bdL_harvest_0.2.2.2.2.2.2.2.1
theorem dL_harvest_11 : decode cL_harvest 11 = .ok (.lastore, 1) := bdL_harvest_0.2.2.2.2.2.2.2.2.1
theorem dL_harvest_12 : decode cL_harvest 12 = .ok (.goto 11, 3) := bdL_harvest_0.2.2.2.2.2.2.2.2.2
theorem bdL_harvest_15 : (decode cL_harvest 15 = .ok (.astore 5, 2)) ∧ (decode cL_harvest 17 = .ok (.iconst 1, 1)) ∧ (decode cL_harvest 18 = .ok (.ireturn, 1)) ∧ (decode cL_harvest 19 = .ok (.astore 5, 2)) ∧ (decode cL_harvest 21 = .ok (.iconst 2, 1)) ∧ (decode cL_harvest 22 = .ok (.ireturn, 1)) ∧ (decode cL_harvest 23 = .ok (.iconst 0, 1)) ∧ (decode cL_harvest 24 = .ok (.ireturn, 1)) := by decide +kernel
theorem dL_harvest_15 : decode cL_harvest 15 = .ok (.astore 5, 2) := bdL_harvest_15.1
theorem dL_harvest_17 : decode cL_harvest 17 = .ok (.iconst 1, 1) := bdL_harvest_15.2.1
theorem dL_harvest_18 : decode cL_harvest 18 = .ok (.ireturn, 1) := bdL_harvest_15.2.2.1
theorem dL_harvest_19 : decode cL_harvest 19 = .ok (.astore 5, 2) := bdL_harvest_15.2.2.2.1
theorem dL_harvest_21 : decode cL_harvest 21 = .ok (.iconst 2, 1) := bdL_harvest_15.2.2.2.2.1
theorem dL_harvest_22 : decode cL_harvest 22 = .ok (.ireturn, 1) := bdL_harvest_15.2.2.2.2.2.1
theorem dL_harvest_23 : decode cL_harvest 23 = .ok (.iconst 0, 1) := bdL_harvest_15.2.2.2.2.2.2.1
theorem dL_harvest_24 : decode cL_harvest 24 = .ok (.ireturn, 1) := bdL_harvest_15.2.2.2.2.2.2.2
theorem bdL_turn_0 : (decode cL_turn 0 = .ok (.aload_n 2, 1)) ∧ (decode cL_turn 1 = .ok (.iconst 0, 1)) ∧ (decode cL_turn 2 = .ok (.aload_n 0, 1)) ∧ (decode cL_turn 3 = .ok (.iload_n 1, 1)) ∧ (decode cL_turn 4 = .ok (.invokevirtual 34, 3)) ∧ (decode cL_turn 7 = .ok (.i2l, 1)) ∧ (decode cL_turn 8 = .ok (.lastore, 1)) ∧ (decode cL_turn 9 = .ok (.goto 6, 3)) ∧ (decode cL_turn 12 = .ok (.astore_n 3, 1)) ∧ (decode cL_turn 13 = .ok (.iconst 1, 1)) := by decide +kernel
theorem dL_turn_0 : decode cL_turn 0 = .ok (.aload_n 2, 1) := bdL_turn_0.1
theorem dL_turn_1 : decode cL_turn 1 = .ok (.iconst 0, 1) := bdL_turn_0.2.1
theorem dL_turn_2 : decode cL_turn 2 = .ok (.aload_n 0, 1) := bdL_turn_0.2.2.1
theorem dL_turn_3 : decode cL_turn 3 = .ok (.iload_n 1, 1) := bdL_turn_0.2.2.2.1
theorem dL_turn_4 : decode cL_turn 4 = .ok (.invokevirtual 34, 3) := bdL_turn_0.2.2.2.2.1
theorem dL_turn_7 : decode cL_turn 7 = .ok (.i2l, 1) := bdL_turn_0.2.2.2.2.2.1
theorem dL_turn_8 : decode cL_turn 8 = .ok (.lastore, 1) := bdL_turn_0.2.2.2.2.2.2.1
theorem dL_turn_9 : decode cL_turn 9 = .ok (.goto 6, 3) := bdL_turn_0.2.2.2.2.2.2.2.1
theorem dL_turn_12 : decode cL_turn 12 = .ok (.astore_n 3, 1) := bdL_turn_0.2.2.2.2.2.2.2.2.1
theorem dL_turn_13 : decode cL_turn 13 = .ok (.iconst 1, 1) := bdL_turn_0.2.2.2.2.2.2.2.2.2
theorem bdL_turn_14 : (decode cL_turn 14 = .ok (.ireturn, 1)) ∧ (decode cL_turn 15 = .ok (.iconst 0, 1)) ∧ (decode cL_turn 16 = .ok (.ireturn, 1)) := by decide +kernel
theorem dL_turn_14 : decode cL_turn 14 = .ok (.ireturn, 1) := bdL_turn_14.1
theorem dL_turn_15 : decode cL_turn 15 = .ok (.iconst 0, 1) := bdL_turn_14.2.1
theorem dL_turn_16 : decode cL_turn 16 = .ok (.ireturn, 1) := bdL_turn_14.2.2
theorem bdL_order_0 : (decode cL_order 0 = .ok (.aload_n 3, 1)) ∧ (decode cL_order 1 = .ok (.iconst 0, 1)) ∧ (decode cL_order 2 = .ok (.aload_n 0, 1)) ∧ (decode cL_order 3 = .ok (.iload_n 1, 1)) ∧ (decode cL_order 4 = .ok (.iload_n 2, 1)) ∧ (decode cL_order 5 = .ok (.invokevirtual 37, 3)) ∧ (decode cL_order 8 = .ok (.i2l, 1)) ∧ (decode cL_order 9 = .ok (.lastore, 1)) ∧ (decode cL_order 10 = .ok (.goto 7, 3)) ∧ (decode cL_order 13 = .ok (.astore 4, 2)) := by decide +kernel
theorem dL_order_0 : decode cL_order 0 = .ok (.aload_n 3, 1) := bdL_order_0.1
theorem dL_order_1 : decode cL_order 1 = .ok (.iconst 0, 1) := bdL_order_0.2.1
theorem dL_order_2 : decode cL_order 2 = .ok (.aload_n 0, 1) := bdL_order_0.2.2.1
theorem dL_order_3 : decode cL_order 3 = .ok (.iload_n 1, 1) := bdL_order_0.2.2.2.1
theorem dL_order_4 : decode cL_order 4 = .ok (.iload_n 2, 1) := bdL_order_0.2.2.2.2.1
theorem dL_order_5 : decode cL_order 5 = .ok (.invokevirtual 37, 3) := bdL_order_0.2.2.2.2.2.1
theorem dL_order_8 : decode cL_order 8 = .ok (.i2l, 1) := bdL_order_0.2.2.2.2.2.2.1
theorem dL_order_9 : decode cL_order 9 = .ok (.lastore, 1) := bdL_order_0.2.2.2.2.2.2.2.1
theorem dL_order_10 : decode cL_order 10 = .ok (.goto 7, 3) := bdL_order_0.2.2.2.2.2.2.2.2.1
theorem dL_order_13 : decode cL_order 13 = .ok (.astore 4, 2) := bdL_order_0.2.2.2.2.2.2.2.2.2
theorem bdL_order_15 : (decode cL_order 15 = .ok (.iconst 1, 1)) ∧ (decode cL_order 16 = .ok (.ireturn, 1)) ∧ (decode cL_order 17 = .ok (.iconst 0, 1)) ∧ (decode cL_order 18 = .ok (.ireturn, 1)) := by decide +kernel
theorem dL_order_15 : decode cL_order 15 = .ok (.iconst 1, 1) := bdL_order_15.1
theorem dL_order_16 : decode cL_order 16 = .ok (.ireturn, 1) := bdL_order_15.2.1
theorem dL_order_17 : decode cL_order 17 = .ok (.iconst 0, 1) := bdL_order_15.2.2.1
theorem dL_order_18 : decode cL_order 18 = .ok (.ireturn, 1) := bdL_order_15.2.2.2
theorem bdL_exchange_0 : (decode cL_exchange 0 = .ok (.aload_n 3, 1)) ∧ (decode cL_exchange 1 = .ok (.iconst 0, 1)) ∧ (decode cL_exchange 2 = .ok (.aload_n 0, 1)) ∧ (decode cL_exchange 3 = .ok (.iload_n 1, 1)) ∧ (decode cL_exchange 4 = .ok (.iload_n 2, 1)) ∧ (decode cL_exchange 5 = .ok (.invokevirtual 40, 3)) ∧ (decode cL_exchange 8 = .ok (.ifCond .eq 7, 3)) ∧ (decode cL_exchange 11 = .ok (.lconst 1, 1)) ∧ (decode cL_exchange 12 = .ok (.goto 4, 3)) ∧ (decode cL_exchange 15 = .ok (.lconst 0, 1)) := by decide +kernel
theorem dL_exchange_0 : decode cL_exchange 0 = .ok (.aload_n 3, 1) := bdL_exchange_0.1
theorem dL_exchange_1 : decode cL_exchange 1 = .ok (.iconst 0, 1) := bdL_exchange_0.2.1
theorem dL_exchange_2 : decode cL_exchange 2 = .ok (.aload_n 0, 1) := bdL_exchange_0.2.2.1
theorem dL_exchange_3 : decode cL_exchange 3 = .ok (.iload_n 1, 1) := bdL_exchange_0.2.2.2.1
theorem dL_exchange_4 : decode cL_exchange 4 = .ok (.iload_n 2, 1) := bdL_exchange_0.2.2.2.2.1
theorem dL_exchange_5 : decode cL_exchange 5 = .ok (.invokevirtual 40, 3) := bdL_exchange_0.2.2.2.2.2.1
theorem dL_exchange_8 : decode cL_exchange 8 = .ok (.ifCond .eq 7, 3) := bdL_exchange_0.2.2.2.2.2.2.1
theorem dL_exchange_11 : decode cL_exchange 11 = .ok (.lconst 1, 1) := bdL_exchange_0.2.2.2.2.2.2.2.1
theorem dL_exchange_12 : decode cL_exchange 12 = .ok (.goto 4, 3) := bdL_exchange_0.2.2.2.2.2.2.2.2.1
theorem dL_exchange_15 : decode cL_exchange 15 = .ok (.lconst 0, 1) := bdL_exchange_0.2.2.2.2.2.2.2.2.2
theorem bdL_exchange_16 : (decode cL_exchange 16 = .ok (.lastore, 1)) ∧ (decode cL_exchange 17 = .ok (.goto 7, 3)) ∧ (decode cL_exchange 20 = .ok (.astore 4, 2)) ∧ (decode cL_exchange 22 = .ok (.iconst 1, 1)) ∧ (decode cL_exchange 23 = .ok (.ireturn, 1)) ∧ (decode cL_exchange 24 = .ok (.iconst 0, 1)) ∧ (decode cL_exchange 25 = .ok (.ireturn, 1)) := by decide +kernel
theorem dL_exchange_16 : decode cL_exchange 16 = .ok (.lastore, 1) := bdL_exchange_16.1
theorem dL_exchange_17 : decode cL_exchange 17 = .ok (.goto 7, 3) := bdL_exchange_16.2.1
theorem dL_exchange_20 : decode cL_exchange 20 = .ok (.astore 4, 2) := bdL_exchange_16.2.2.1
theorem dL_exchange_22 : decode cL_exchange 22 = .ok (.iconst 1, 1) := bdL_exchange_16.2.2.2.1
theorem dL_exchange_23 : decode cL_exchange 23 = .ok (.ireturn, 1) := bdL_exchange_16.2.2.2.2.1
theorem dL_exchange_24 : decode cL_exchange 24 = .ok (.iconst 0, 1) := bdL_exchange_16.2.2.2.2.2.1
theorem dL_exchange_25 : decode cL_exchange 25 = .ok (.ireturn, 1) := bdL_exchange_16.2.2.2.2.2.2
theorem bdL_best_0 : (decode cL_best 0 = .ok (.aload_n 2, 1)) ∧ (decode cL_best 1 = .ok (.iconst 0, 1)) ∧ (decode cL_best 2 = .ok (.aload_n 0, 1)) ∧ (decode cL_best 3 = .ok (.iload_n 1, 1)) ∧ (decode cL_best 4 = .ok (.invokevirtual 44, 3)) ∧ (decode cL_best 7 = .ok (.lastore, 1)) ∧ (decode cL_best 8 = .ok (.goto 6, 3)) ∧ (decode cL_best 11 = .ok (.astore_n 3, 1)) ∧ (decode cL_best 12 = .ok (.iconst 1, 1)) ∧ (decode cL_best 13 = .ok (.ireturn, 1)) := by decide +kernel
theorem dL_best_0 : decode cL_best 0 = .ok (.aload_n 2, 1) := bdL_best_0.1
theorem dL_best_1 : decode cL_best 1 = .ok (.iconst 0, 1) := bdL_best_0.2.1
theorem dL_best_2 : decode cL_best 2 = .ok (.aload_n 0, 1) := bdL_best_0.2.2.1
theorem dL_best_3 : decode cL_best 3 = .ok (.iload_n 1, 1) := bdL_best_0.2.2.2.1
theorem dL_best_4 : decode cL_best 4 = .ok (.invokevirtual 44, 3) := bdL_best_0.2.2.2.2.1
theorem dL_best_7 : decode cL_best 7 = .ok (.lastore, 1) := bdL_best_0.2.2.2.2.2.1
theorem dL_best_8 : decode cL_best 8 = .ok (.goto 6, 3) := bdL_best_0.2.2.2.2.2.2.1
theorem dL_best_11 : decode cL_best 11 = .ok (.astore_n 3, 1) := bdL_best_0.2.2.2.2.2.2.2.1
theorem dL_best_12 : decode cL_best 12 = .ok (.iconst 1, 1) := bdL_best_0.2.2.2.2.2.2.2.2.1
theorem dL_best_13 : decode cL_best 13 = .ok (.ireturn, 1) := bdL_best_0.2.2.2.2.2.2.2.2.2
theorem bdL_best_14 : (decode cL_best 14 = .ok (.iconst 0, 1)) ∧ (decode cL_best 15 = .ok (.ireturn, 1)) := by decide +kernel
theorem dL_best_14 : decode cL_best 14 = .ok (.iconst 0, 1) := bdL_best_14.1
theorem dL_best_15 : decode cL_best 15 = .ok (.ireturn, 1) := bdL_best_14.2
theorem bdL_fairest_0 : (decode cL_fairest 0 = .ok (.aload_n 2, 1)) ∧ (decode cL_fairest 1 = .ok (.iconst 0, 1)) ∧ (decode cL_fairest 2 = .ok (.aload_n 0, 1)) ∧ (decode cL_fairest 3 = .ok (.iload_n 1, 1)) ∧ (decode cL_fairest 4 = .ok (.invokevirtual 48, 3)) ∧ (decode cL_fairest 7 = .ok (.i2l, 1)) ∧ (decode cL_fairest 8 = .ok (.lastore, 1)) ∧ (decode cL_fairest 9 = .ok (.goto 6, 3)) ∧ (decode cL_fairest 12 = .ok (.astore_n 3, 1)) ∧ (decode cL_fairest 13 = .ok (.iconst 1, 1)) := by decide +kernel
theorem dL_fairest_0 : decode cL_fairest 0 = .ok (.aload_n 2, 1) := bdL_fairest_0.1
theorem dL_fairest_1 : decode cL_fairest 1 = .ok (.iconst 0, 1) := bdL_fairest_0.2.1
theorem dL_fairest_2 : decode cL_fairest 2 = .ok (.aload_n 0, 1) := bdL_fairest_0.2.2.1
theorem dL_fairest_3 : decode cL_fairest 3 = .ok (.iload_n 1, 1) := bdL_fairest_0.2.2.2.1
theorem dL_fairest_4 : decode cL_fairest 4 = .ok (.invokevirtual 48, 3) := bdL_fairest_0.2.2.2.2.1
theorem dL_fairest_7 : decode cL_fairest 7 = .ok (.i2l, 1) := bdL_fairest_0.2.2.2.2.2.1
theorem dL_fairest_8 : decode cL_fairest 8 = .ok (.lastore, 1) := bdL_fairest_0.2.2.2.2.2.2.1
theorem dL_fairest_9 : decode cL_fairest 9 = .ok (.goto 6, 3) := bdL_fairest_0.2.2.2.2.2.2.2.1
theorem dL_fairest_12 : decode cL_fairest 12 = .ok (.astore_n 3, 1) := bdL_fairest_0.2.2.2.2.2.2.2.2.1
theorem dL_fairest_13 : decode cL_fairest 13 = .ok (.iconst 1, 1) := bdL_fairest_0.2.2.2.2.2.2.2.2.2
theorem bdL_fairest_14 : (decode cL_fairest 14 = .ok (.ireturn, 1)) ∧ (decode cL_fairest 15 = .ok (.iconst 0, 1)) ∧ (decode cL_fairest 16 = .ok (.ireturn, 1)) := by decide +kernel
theorem dL_fairest_14 : decode cL_fairest 14 = .ok (.ireturn, 1) := bdL_fairest_14.1
theorem dL_fairest_15 : decode cL_fairest 15 = .ok (.iconst 0, 1) := bdL_fairest_14.2.1
theorem dL_fairest_16 : decode cL_fairest 16 = .ok (.ireturn, 1) := bdL_fairest_14.2.2
theorem bdL_then_0 : (decode cL_then 0 = .ok (.aload_n 3, 1)) ∧ (decode cL_then 1 = .ok (.iconst 0, 1)) ∧ (decode cL_then 2 = .ok (.aload_n 0, 1)) ∧ (decode cL_then 3 = .ok (.iload_n 1, 1)) ∧ (decode cL_then 4 = .ok (.iload_n 2, 1)) ∧ (decode cL_then 5 = .ok (.invokevirtual 51, 3)) ∧ (decode cL_then 8 = .ok (.i2l, 1)) ∧ (decode cL_then 9 = .ok (.lastore, 1)) ∧ (decode cL_then 10 = .ok (.goto 11, 3)) ∧ (decode cL_then 13 = .ok (.astore 4, 2)) := by decide +kernel
theorem dL_then_0 : decode cL_then 0 = .ok (.aload_n 3, 1) := bdL_then_0.1
theorem dL_then_1 : decode cL_then 1 = .ok (.iconst 0, 1) := bdL_then_0.2.1
theorem dL_then_2 : decode cL_then 2 = .ok (.aload_n 0, 1) := bdL_then_0.2.2.1
theorem dL_then_3 : decode cL_then 3 = .ok (.iload_n 1, 1) := bdL_then_0.2.2.2.1
theorem dL_then_4 : decode cL_then 4 = .ok (.iload_n 2, 1) := bdL_then_0.2.2.2.2.1
theorem dL_then_5 : decode cL_then 5 = .ok (.invokevirtual 51, 3) := bdL_then_0.2.2.2.2.2.1
theorem dL_then_8 : decode cL_then 8 = .ok (.i2l, 1) := bdL_then_0.2.2.2.2.2.2.1
theorem dL_then_9 : decode cL_then 9 = .ok (.lastore, 1) := bdL_then_0.2.2.2.2.2.2.2.1
theorem dL_then_10 : decode cL_then 10 = .ok (.goto 11, 3) := bdL_then_0.2.2.2.2.2.2.2.2.1
theorem dL_then_13 : decode cL_then 13 = .ok (.astore 4, 2) := bdL_then_0.2.2.2.2.2.2.2.2.2
theorem bdL_then_15 : (decode cL_then 15 = .ok (.iconst 1, 1)) ∧ (decode cL_then 16 = .ok (.ireturn, 1)) ∧ (decode cL_then 17 = .ok (.astore 4, 2)) ∧ (decode cL_then 19 = .ok (.iconst 2, 1)) ∧ (decode cL_then 20 = .ok (.ireturn, 1)) ∧ (decode cL_then 21 = .ok (.iconst 0, 1)) ∧ (decode cL_then 22 = .ok (.ireturn, 1)) := by decide +kernel
theorem dL_then_15 : decode cL_then 15 = .ok (.iconst 1, 1) := bdL_then_15.1
theorem dL_then_16 : decode cL_then 16 = .ok (.ireturn, 1) := bdL_then_15.2.1
theorem dL_then_17 : decode cL_then 17 = .ok (.astore 4, 2) := bdL_then_15.2.2.1
theorem dL_then_19 : decode cL_then 19 = .ok (.iconst 2, 1) := bdL_then_15.2.2.2.1
theorem dL_then_20 : decode cL_then 20 = .ok (.ireturn, 1) := bdL_then_15.2.2.2.2.1
theorem dL_then_21 : decode cL_then 21 = .ok (.iconst 0, 1) := bdL_then_15.2.2.2.2.2.1
theorem dL_then_22 : decode cL_then 22 = .ok (.ireturn, 1) := bdL_then_15.2.2.2.2.2.2
theorem bdL_starves_0 : (decode cL_starves 0 = .ok (.aload_n 2, 1)) ∧ (decode cL_starves 1 = .ok (.iconst 0, 1)) ∧ (decode cL_starves 2 = .ok (.aload_n 0, 1)) ∧ (decode cL_starves 3 = .ok (.iload_n 1, 1)) ∧ (decode cL_starves 4 = .ok (.invokevirtual 54, 3)) ∧ (decode cL_starves 7 = .ok (.i2l, 1)) ∧ (decode cL_starves 8 = .ok (.lastore, 1)) ∧ (decode cL_starves 9 = .ok (.goto 6, 3)) ∧ (decode cL_starves 12 = .ok (.astore_n 3, 1)) ∧ (decode cL_starves 13 = .ok (.iconst 1, 1)) := by decide +kernel
theorem dL_starves_0 : decode cL_starves 0 = .ok (.aload_n 2, 1) := bdL_starves_0.1
theorem dL_starves_1 : decode cL_starves 1 = .ok (.iconst 0, 1) := bdL_starves_0.2.1
theorem dL_starves_2 : decode cL_starves 2 = .ok (.aload_n 0, 1) := bdL_starves_0.2.2.1
theorem dL_starves_3 : decode cL_starves 3 = .ok (.iload_n 1, 1) := bdL_starves_0.2.2.2.1
theorem dL_starves_4 : decode cL_starves 4 = .ok (.invokevirtual 54, 3) := bdL_starves_0.2.2.2.2.1
theorem dL_starves_7 : decode cL_starves 7 = .ok (.i2l, 1) := bdL_starves_0.2.2.2.2.2.1
theorem dL_starves_8 : decode cL_starves 8 = .ok (.lastore, 1) := bdL_starves_0.2.2.2.2.2.2.1
theorem dL_starves_9 : decode cL_starves 9 = .ok (.goto 6, 3) := bdL_starves_0.2.2.2.2.2.2.2.1
theorem dL_starves_12 : decode cL_starves 12 = .ok (.astore_n 3, 1) := bdL_starves_0.2.2.2.2.2.2.2.2.1
theorem dL_starves_13 : decode cL_starves 13 = .ok (.iconst 1, 1) := bdL_starves_0.2.2.2.2.2.2.2.2.2
theorem bdL_starves_14 : (decode cL_starves 14 = .ok (.ireturn, 1)) ∧ (decode cL_starves 15 = .ok (.iconst 0, 1)) ∧ (decode cL_starves 16 = .ok (.ireturn, 1)) := by decide +kernel
theorem dL_starves_14 : decode cL_starves 14 = .ok (.ireturn, 1) := bdL_starves_14.1
theorem dL_starves_15 : decode cL_starves 15 = .ok (.iconst 0, 1) := bdL_starves_14.2.1
theorem dL_starves_16 : decode cL_starves 16 = .ok (.ireturn, 1) := bdL_starves_14.2.2
theorem bdL_tithes_0 : (decode cL_tithes 0 = .ok (.aload_n 2, 1)) ∧ (decode cL_tithes 1 = .ok (.iconst 0, 1)) ∧ (decode cL_tithes 2 = .ok (.aload_n 0, 1)) ∧ (decode cL_tithes 3 = .ok (.iload_n 1, 1)) ∧ (decode cL_tithes 4 = .ok (.invokevirtual 57, 3)) ∧ (decode cL_tithes 7 = .ok (.i2l, 1)) ∧ (decode cL_tithes 8 = .ok (.lastore, 1)) ∧ (decode cL_tithes 9 = .ok (.goto 6, 3)) ∧ (decode cL_tithes 12 = .ok (.astore_n 3, 1)) ∧ (decode cL_tithes 13 = .ok (.iconst 1, 1)) := by decide +kernel
theorem dL_tithes_0 : decode cL_tithes 0 = .ok (.aload_n 2, 1) := bdL_tithes_0.1
theorem dL_tithes_1 : decode cL_tithes 1 = .ok (.iconst 0, 1) := bdL_tithes_0.2.1
theorem dL_tithes_2 : decode cL_tithes 2 = .ok (.aload_n 0, 1) := bdL_tithes_0.2.2.1
theorem dL_tithes_3 : decode cL_tithes 3 = .ok (.iload_n 1, 1) := bdL_tithes_0.2.2.2.1
theorem dL_tithes_4 : decode cL_tithes 4 = .ok (.invokevirtual 57, 3) := bdL_tithes_0.2.2.2.2.1
theorem dL_tithes_7 : decode cL_tithes 7 = .ok (.i2l, 1) := bdL_tithes_0.2.2.2.2.2.1
theorem dL_tithes_8 : decode cL_tithes 8 = .ok (.lastore, 1) := bdL_tithes_0.2.2.2.2.2.2.1
theorem dL_tithes_9 : decode cL_tithes 9 = .ok (.goto 6, 3) := bdL_tithes_0.2.2.2.2.2.2.2.1
theorem dL_tithes_12 : decode cL_tithes 12 = .ok (.astore_n 3, 1) := bdL_tithes_0.2.2.2.2.2.2.2.2.1
theorem dL_tithes_13 : decode cL_tithes 13 = .ok (.iconst 1, 1) := bdL_tithes_0.2.2.2.2.2.2.2.2.2
theorem bdL_tithes_14 : (decode cL_tithes 14 = .ok (.ireturn, 1)) ∧ (decode cL_tithes 15 = .ok (.iconst 0, 1)) ∧ (decode cL_tithes 16 = .ok (.ireturn, 1)) := by decide +kernel
theorem dL_tithes_14 : decode cL_tithes 14 = .ok (.ireturn, 1) := bdL_tithes_14.1
theorem dL_tithes_15 : decode cL_tithes 15 = .ok (.iconst 0, 1) := bdL_tithes_14.2.1
theorem dL_tithes_16 : decode cL_tithes 16 = .ok (.ireturn, 1) := bdL_tithes_14.2.2
theorem bdL_lotsFor_0 : (decode cL_lotsFor 0 = .ok (.aload_n 3, 1)) ∧ (decode cL_lotsFor 1 = .ok (.iconst 0, 1)) ∧ (decode cL_lotsFor 2 = .ok (.aload_n 0, 1)) ∧ (decode cL_lotsFor 3 = .ok (.iload_n 1, 1)) ∧ (decode cL_lotsFor 4 = .ok (.iload_n 2, 1)) ∧ (decode cL_lotsFor 5 = .ok (.invokevirtual 60, 3)) ∧ (decode cL_lotsFor 8 = .ok (.i2l, 1)) ∧ (decode cL_lotsFor 9 = .ok (.lastore, 1)) ∧ (decode cL_lotsFor 10 = .ok (.goto 11, 3)) ∧ (decode cL_lotsFor 13 = .ok (.astore 4, 2)) := by decide +kernel
theorem dL_lotsFor_0 : decode cL_lotsFor 0 = .ok (.aload_n 3, 1) := bdL_lotsFor_0.1
theorem dL_lotsFor_1 : decode cL_lotsFor 1 = .ok (.iconst 0, 1) := bdL_lotsFor_0.2.1
theorem dL_lotsFor_2 : decode cL_lotsFor 2 = .ok (.aload_n 0, 1) := bdL_lotsFor_0.2.2.1
theorem dL_lotsFor_3 : decode cL_lotsFor 3 = .ok (.iload_n 1, 1) := bdL_lotsFor_0.2.2.2.1
theorem dL_lotsFor_4 : decode cL_lotsFor 4 = .ok (.iload_n 2, 1) := bdL_lotsFor_0.2.2.2.2.1
theorem dL_lotsFor_5 : decode cL_lotsFor 5 = .ok (.invokevirtual 60, 3) := bdL_lotsFor_0.2.2.2.2.2.1
theorem dL_lotsFor_8 : decode cL_lotsFor 8 = .ok (.i2l, 1) := bdL_lotsFor_0.2.2.2.2.2.2.1
theorem dL_lotsFor_9 : decode cL_lotsFor 9 = .ok (.lastore, 1) := bdL_lotsFor_0.2.2.2.2.2.2.2.1
theorem dL_lotsFor_10 : decode cL_lotsFor 10 = .ok (.goto 11, 3) := bdL_lotsFor_0.2.2.2.2.2.2.2.2.1
theorem dL_lotsFor_13 : decode cL_lotsFor 13 = .ok (.astore 4, 2) := bdL_lotsFor_0.2.2.2.2.2.2.2.2.2
theorem bdL_lotsFor_15 : (decode cL_lotsFor 15 = .ok (.iconst 1, 1)) ∧ (decode cL_lotsFor 16 = .ok (.ireturn, 1)) ∧ (decode cL_lotsFor 17 = .ok (.astore 4, 2)) ∧ (decode cL_lotsFor 19 = .ok (.iconst 2, 1)) ∧ (decode cL_lotsFor 20 = .ok (.ireturn, 1)) ∧ (decode cL_lotsFor 21 = .ok (.iconst 0, 1)) ∧ (decode cL_lotsFor 22 = .ok (.ireturn, 1)) := by decide +kernel
theorem dL_lotsFor_15 : decode cL_lotsFor 15 = .ok (.iconst 1, 1) := bdL_lotsFor_15.1
theorem dL_lotsFor_16 : decode cL_lotsFor 16 = .ok (.ireturn, 1) := bdL_lotsFor_15.2.1
theorem dL_lotsFor_17 : decode cL_lotsFor 17 = .ok (.astore 4, 2) := bdL_lotsFor_15.2.2.1
theorem dL_lotsFor_19 : decode cL_lotsFor 19 = .ok (.iconst 2, 1) := bdL_lotsFor_15.2.2.2.1
theorem dL_lotsFor_20 : decode cL_lotsFor 20 = .ok (.ireturn, 1) := bdL_lotsFor_15.2.2.2.2.1
theorem dL_lotsFor_21 : decode cL_lotsFor 21 = .ok (.iconst 0, 1) := bdL_lotsFor_15.2.2.2.2.2.1
theorem dL_lotsFor_22 : decode cL_lotsFor 22 = .ok (.ireturn, 1) := bdL_lotsFor_15.2.2.2.2.2.2
theorem bdL_change_0 : (decode cL_change 0 = .ok (.aload_n 2, 1)) ∧ (decode cL_change 1 = .ok (.iconst 0, 1)) ∧ (decode cL_change 2 = .ok (.aload_n 0, 1)) ∧ (decode cL_change 3 = .ok (.iload_n 1, 1)) ∧ (decode cL_change 4 = .ok (.invokevirtual 63, 3)) ∧ (decode cL_change 7 = .ok (.i2l, 1)) ∧ (decode cL_change 8 = .ok (.lastore, 1)) ∧ (decode cL_change 9 = .ok (.goto 6, 3)) ∧ (decode cL_change 12 = .ok (.astore_n 3, 1)) ∧ (decode cL_change 13 = .ok (.iconst 1, 1)) := by decide +kernel
theorem dL_change_0 : decode cL_change 0 = .ok (.aload_n 2, 1) := bdL_change_0.1
theorem dL_change_1 : decode cL_change 1 = .ok (.iconst 0, 1) := bdL_change_0.2.1
theorem dL_change_2 : decode cL_change 2 = .ok (.aload_n 0, 1) := bdL_change_0.2.2.1
theorem dL_change_3 : decode cL_change 3 = .ok (.iload_n 1, 1) := bdL_change_0.2.2.2.1
theorem dL_change_4 : decode cL_change 4 = .ok (.invokevirtual 63, 3) := bdL_change_0.2.2.2.2.1
theorem dL_change_7 : decode cL_change 7 = .ok (.i2l, 1) := bdL_change_0.2.2.2.2.2.1
theorem dL_change_8 : decode cL_change 8 = .ok (.lastore, 1) := bdL_change_0.2.2.2.2.2.2.1
theorem dL_change_9 : decode cL_change 9 = .ok (.goto 6, 3) := bdL_change_0.2.2.2.2.2.2.2.1
theorem dL_change_12 : decode cL_change 12 = .ok (.astore_n 3, 1) := bdL_change_0.2.2.2.2.2.2.2.2.1
theorem dL_change_13 : decode cL_change 13 = .ok (.iconst 1, 1) := bdL_change_0.2.2.2.2.2.2.2.2.2
theorem bdL_change_14 : (decode cL_change 14 = .ok (.ireturn, 1)) ∧ (decode cL_change 15 = .ok (.iconst 0, 1)) ∧ (decode cL_change 16 = .ok (.ireturn, 1)) := by decide +kernel
theorem dL_change_14 : decode cL_change 14 = .ok (.ireturn, 1) := bdL_change_14.1
theorem dL_change_15 : decode cL_change 15 = .ok (.iconst 0, 1) := bdL_change_14.2.1
theorem dL_change_16 : decode cL_change 16 = .ok (.ireturn, 1) := bdL_change_14.2.2
theorem bdL_envied_0 : (decode cL_envied 0 = .ok (.aload_n 2, 1)) ∧ (decode cL_envied 1 = .ok (.iconst 0, 1)) ∧ (decode cL_envied 2 = .ok (.aload_n 0, 1)) ∧ (decode cL_envied 3 = .ok (.iload_n 1, 1)) ∧ (decode cL_envied 4 = .ok (.invokevirtual 66, 3)) ∧ (decode cL_envied 7 = .ok (.i2l, 1)) ∧ (decode cL_envied 8 = .ok (.lastore, 1)) ∧ (decode cL_envied 9 = .ok (.goto 6, 3)) ∧ (decode cL_envied 12 = .ok (.astore_n 3, 1)) ∧ (decode cL_envied 13 = .ok (.iconst 1, 1)) := by decide +kernel
theorem dL_envied_0 : decode cL_envied 0 = .ok (.aload_n 2, 1) := bdL_envied_0.1
theorem dL_envied_1 : decode cL_envied 1 = .ok (.iconst 0, 1) := bdL_envied_0.2.1
theorem dL_envied_2 : decode cL_envied 2 = .ok (.aload_n 0, 1) := bdL_envied_0.2.2.1
theorem dL_envied_3 : decode cL_envied 3 = .ok (.iload_n 1, 1) := bdL_envied_0.2.2.2.1
theorem dL_envied_4 : decode cL_envied 4 = .ok (.invokevirtual 66, 3) := bdL_envied_0.2.2.2.2.1
theorem dL_envied_7 : decode cL_envied 7 = .ok (.i2l, 1) := bdL_envied_0.2.2.2.2.2.1
theorem dL_envied_8 : decode cL_envied 8 = .ok (.lastore, 1) := bdL_envied_0.2.2.2.2.2.2.1
theorem dL_envied_9 : decode cL_envied 9 = .ok (.goto 6, 3) := bdL_envied_0.2.2.2.2.2.2.2.1
theorem dL_envied_12 : decode cL_envied 12 = .ok (.astore_n 3, 1) := bdL_envied_0.2.2.2.2.2.2.2.2.1
theorem dL_envied_13 : decode cL_envied 13 = .ok (.iconst 1, 1) := bdL_envied_0.2.2.2.2.2.2.2.2.2
theorem bdL_envied_14 : (decode cL_envied 14 = .ok (.ireturn, 1)) ∧ (decode cL_envied 15 = .ok (.iconst 0, 1)) ∧ (decode cL_envied 16 = .ok (.ireturn, 1)) := by decide +kernel
theorem dL_envied_14 : decode cL_envied 14 = .ok (.ireturn, 1) := bdL_envied_14.1
theorem dL_envied_15 : decode cL_envied 15 = .ok (.iconst 0, 1) := bdL_envied_14.2.1
theorem dL_envied_16 : decode cL_envied 16 = .ok (.ireturn, 1) := bdL_envied_14.2.2
theorem bdL_without_0 : (decode cL_without 0 = .ok (.aload_n 3, 1)) ∧ (decode cL_without 1 = .ok (.iconst 0, 1)) ∧ (decode cL_without 2 = .ok (.aload_n 0, 1)) ∧ (decode cL_without 3 = .ok (.iload_n 1, 1)) ∧ (decode cL_without 4 = .ok (.iload_n 2, 1)) ∧ (decode cL_without 5 = .ok (.invokevirtual 69, 3)) ∧ (decode cL_without 8 = .ok (.i2l, 1)) ∧ (decode cL_without 9 = .ok (.lastore, 1)) ∧ (decode cL_without 10 = .ok (.goto 11, 3)) ∧ (decode cL_without 13 = .ok (.astore 4, 2)) := by decide +kernel
theorem dL_without_0 : decode cL_without 0 = .ok (.aload_n 3, 1) := bdL_without_0.1
theorem dL_without_1 : decode cL_without 1 = .ok (.iconst 0, 1) := bdL_without_0.2.1
theorem dL_without_2 : decode cL_without 2 = .ok (.aload_n 0, 1) := bdL_without_0.2.2.1
theorem dL_without_3 : decode cL_without 3 = .ok (.iload_n 1, 1) := bdL_without_0.2.2.2.1
theorem dL_without_4 : decode cL_without 4 = .ok (.iload_n 2, 1) := bdL_without_0.2.2.2.2.1
theorem dL_without_5 : decode cL_without 5 = .ok (.invokevirtual 69, 3) := bdL_without_0.2.2.2.2.2.1
theorem dL_without_8 : decode cL_without 8 = .ok (.i2l, 1) := bdL_without_0.2.2.2.2.2.2.1
theorem dL_without_9 : decode cL_without 9 = .ok (.lastore, 1) := bdL_without_0.2.2.2.2.2.2.2.1
theorem dL_without_10 : decode cL_without 10 = .ok (.goto 11, 3) := bdL_without_0.2.2.2.2.2.2.2.2.1
theorem dL_without_13 : decode cL_without 13 = .ok (.astore 4, 2) := bdL_without_0.2.2.2.2.2.2.2.2.2
theorem bdL_without_15 : (decode cL_without 15 = .ok (.iconst 1, 1)) ∧ (decode cL_without 16 = .ok (.ireturn, 1)) ∧ (decode cL_without 17 = .ok (.astore 4, 2)) ∧ (decode cL_without 19 = .ok (.iconst 2, 1)) ∧ (decode cL_without 20 = .ok (.ireturn, 1)) ∧ (decode cL_without 21 = .ok (.iconst 0, 1)) ∧ (decode cL_without 22 = .ok (.ireturn, 1)) := by decide +kernel
theorem dL_without_15 : decode cL_without 15 = .ok (.iconst 1, 1) := bdL_without_15.1
theorem dL_without_16 : decode cL_without 16 = .ok (.ireturn, 1) := bdL_without_15.2.1
theorem dL_without_17 : decode cL_without 17 = .ok (.astore 4, 2) := bdL_without_15.2.2.1
theorem dL_without_19 : decode cL_without 19 = .ok (.iconst 2, 1) := bdL_without_15.2.2.2.1
theorem dL_without_20 : decode cL_without 20 = .ok (.ireturn, 1) := bdL_without_15.2.2.2.2.1
theorem dL_without_21 : decode cL_without 21 = .ok (.iconst 0, 1) := bdL_without_15.2.2.2.2.2.1
theorem dL_without_22 : decode cL_without 22 = .ok (.ireturn, 1) := bdL_without_15.2.2.2.2.2.2
theorem bdL_lastPlace_0 : (decode cL_lastPlace 0 = .ok (.aload_n 2, 1)) ∧ (decode cL_lastPlace 1 = .ok (.iconst 0, 1)) ∧ (decode cL_lastPlace 2 = .ok (.aload_n 0, 1)) ∧ (decode cL_lastPlace 3 = .ok (.iload_n 1, 1)) ∧ (decode cL_lastPlace 4 = .ok (.invokevirtual 72, 3)) ∧ (decode cL_lastPlace 7 = .ok (.i2l, 1)) ∧ (decode cL_lastPlace 8 = .ok (.lastore, 1)) ∧ (decode cL_lastPlace 9 = .ok (.goto 6, 3)) ∧ (decode cL_lastPlace 12 = .ok (.astore_n 3, 1)) ∧ (decode cL_lastPlace 13 = .ok (.iconst 1, 1)) := by decide +kernel
theorem dL_lastPlace_0 : decode cL_lastPlace 0 = .ok (.aload_n 2, 1) := bdL_lastPlace_0.1
theorem dL_lastPlace_1 : decode cL_lastPlace 1 = .ok (.iconst 0, 1) := bdL_lastPlace_0.2.1
theorem dL_lastPlace_2 : decode cL_lastPlace 2 = .ok (.aload_n 0, 1) := bdL_lastPlace_0.2.2.1
theorem dL_lastPlace_3 : decode cL_lastPlace 3 = .ok (.iload_n 1, 1) := bdL_lastPlace_0.2.2.2.1
theorem dL_lastPlace_4 : decode cL_lastPlace 4 = .ok (.invokevirtual 72, 3) := bdL_lastPlace_0.2.2.2.2.1
theorem dL_lastPlace_7 : decode cL_lastPlace 7 = .ok (.i2l, 1) := bdL_lastPlace_0.2.2.2.2.2.1
theorem dL_lastPlace_8 : decode cL_lastPlace 8 = .ok (.lastore, 1) := bdL_lastPlace_0.2.2.2.2.2.2.1
theorem dL_lastPlace_9 : decode cL_lastPlace 9 = .ok (.goto 6, 3) := bdL_lastPlace_0.2.2.2.2.2.2.2.1
theorem dL_lastPlace_12 : decode cL_lastPlace 12 = .ok (.astore_n 3, 1) := bdL_lastPlace_0.2.2.2.2.2.2.2.2.1
theorem dL_lastPlace_13 : decode cL_lastPlace 13 = .ok (.iconst 1, 1) := bdL_lastPlace_0.2.2.2.2.2.2.2.2.2
theorem bdL_lastPlace_14 : (decode cL_lastPlace 14 = .ok (.ireturn, 1)) ∧ (decode cL_lastPlace 15 = .ok (.iconst 0, 1)) ∧ (decode cL_lastPlace 16 = .ok (.ireturn, 1)) := by decide +kernel
theorem dL_lastPlace_14 : decode cL_lastPlace 14 = .ok (.ireturn, 1) := bdL_lastPlace_14.1
theorem dL_lastPlace_15 : decode cL_lastPlace 15 = .ok (.iconst 0, 1) := bdL_lastPlace_14.2.1
theorem dL_lastPlace_16 : decode cL_lastPlace 16 = .ok (.ireturn, 1) := bdL_lastPlace_14.2.2
theorem bdL_famine_0 : (decode cL_famine 0 = .ok (.aload_n 2, 1)) ∧ (decode cL_famine 1 = .ok (.iconst 0, 1)) ∧ (decode cL_famine 2 = .ok (.aload_n 0, 1)) ∧ (decode cL_famine 3 = .ok (.iload_n 1, 1)) ∧ (decode cL_famine 4 = .ok (.invokevirtual 75, 3)) ∧ (decode cL_famine 7 = .ok (.i2l, 1)) ∧ (decode cL_famine 8 = .ok (.lastore, 1)) ∧ (decode cL_famine 9 = .ok (.goto 6, 3)) ∧ (decode cL_famine 12 = .ok (.astore_n 3, 1)) ∧ (decode cL_famine 13 = .ok (.iconst 1, 1)) := by decide +kernel
theorem dL_famine_0 : decode cL_famine 0 = .ok (.aload_n 2, 1) := bdL_famine_0.1
theorem dL_famine_1 : decode cL_famine 1 = .ok (.iconst 0, 1) := bdL_famine_0.2.1
theorem dL_famine_2 : decode cL_famine 2 = .ok (.aload_n 0, 1) := bdL_famine_0.2.2.1
theorem dL_famine_3 : decode cL_famine 3 = .ok (.iload_n 1, 1) := bdL_famine_0.2.2.2.1
theorem dL_famine_4 : decode cL_famine 4 = .ok (.invokevirtual 75, 3) := bdL_famine_0.2.2.2.2.1
theorem dL_famine_7 : decode cL_famine 7 = .ok (.i2l, 1) := bdL_famine_0.2.2.2.2.2.1
theorem dL_famine_8 : decode cL_famine 8 = .ok (.lastore, 1) := bdL_famine_0.2.2.2.2.2.2.1
theorem dL_famine_9 : decode cL_famine 9 = .ok (.goto 6, 3) := bdL_famine_0.2.2.2.2.2.2.2.1
theorem dL_famine_12 : decode cL_famine 12 = .ok (.astore_n 3, 1) := bdL_famine_0.2.2.2.2.2.2.2.2.1
theorem dL_famine_13 : decode cL_famine 13 = .ok (.iconst 1, 1) := bdL_famine_0.2.2.2.2.2.2.2.2.2
theorem bdL_famine_14 : (decode cL_famine 14 = .ok (.ireturn, 1)) ∧ (decode cL_famine 15 = .ok (.iconst 0, 1)) ∧ (decode cL_famine 16 = .ok (.ireturn, 1)) := by decide +kernel
theorem dL_famine_14 : decode cL_famine 14 = .ok (.ireturn, 1) := bdL_famine_14.1
theorem dL_famine_15 : decode cL_famine 15 = .ok (.iconst 0, 1) := bdL_famine_14.2.1
theorem dL_famine_16 : decode cL_famine 16 = .ok (.ireturn, 1) := bdL_famine_14.2.2
theorem bdL_bushels_0 : (decode cL_bushels 0 = .ok (.aload_n 3, 1)) ∧ (decode cL_bushels 1 = .ok (.iconst 0, 1)) ∧ (decode cL_bushels 2 = .ok (.aload_n 0, 1)) ∧ (decode cL_bushels 3 = .ok (.iload_n 1, 1)) ∧ (decode cL_bushels 4 = .ok (.iload_n 2, 1)) ∧ (decode cL_bushels 5 = .ok (.invokevirtual 78, 3)) ∧ (decode cL_bushels 8 = .ok (.i2l, 1)) ∧ (decode cL_bushels 9 = .ok (.lastore, 1)) ∧ (decode cL_bushels 10 = .ok (.goto 11, 3)) ∧ (decode cL_bushels 13 = .ok (.astore 4, 2)) := by decide +kernel
theorem dL_bushels_0 : decode cL_bushels 0 = .ok (.aload_n 3, 1) := bdL_bushels_0.1
theorem dL_bushels_1 : decode cL_bushels 1 = .ok (.iconst 0, 1) := bdL_bushels_0.2.1
theorem dL_bushels_2 : decode cL_bushels 2 = .ok (.aload_n 0, 1) := bdL_bushels_0.2.2.1
theorem dL_bushels_3 : decode cL_bushels 3 = .ok (.iload_n 1, 1) := bdL_bushels_0.2.2.2.1
theorem dL_bushels_4 : decode cL_bushels 4 = .ok (.iload_n 2, 1) := bdL_bushels_0.2.2.2.2.1
theorem dL_bushels_5 : decode cL_bushels 5 = .ok (.invokevirtual 78, 3) := bdL_bushels_0.2.2.2.2.2.1
theorem dL_bushels_8 : decode cL_bushels 8 = .ok (.i2l, 1) := bdL_bushels_0.2.2.2.2.2.2.1
theorem dL_bushels_9 : decode cL_bushels 9 = .ok (.lastore, 1) := bdL_bushels_0.2.2.2.2.2.2.2.1
theorem dL_bushels_10 : decode cL_bushels 10 = .ok (.goto 11, 3) := bdL_bushels_0.2.2.2.2.2.2.2.2.1
theorem dL_bushels_13 : decode cL_bushels 13 = .ok (.astore 4, 2) := bdL_bushels_0.2.2.2.2.2.2.2.2.2
theorem bdL_bushels_15 : (decode cL_bushels 15 = .ok (.iconst 1, 1)) ∧ (decode cL_bushels 16 = .ok (.ireturn, 1)) ∧ (decode cL_bushels 17 = .ok (.astore 4, 2)) ∧ (decode cL_bushels 19 = .ok (.iconst 2, 1)) ∧ (decode cL_bushels 20 = .ok (.ireturn, 1)) ∧ (decode cL_bushels 21 = .ok (.iconst 0, 1)) ∧ (decode cL_bushels 22 = .ok (.ireturn, 1)) := by decide +kernel
theorem dL_bushels_15 : decode cL_bushels 15 = .ok (.iconst 1, 1) := bdL_bushels_15.1
theorem dL_bushels_16 : decode cL_bushels 16 = .ok (.ireturn, 1) := bdL_bushels_15.2.1
theorem dL_bushels_17 : decode cL_bushels 17 = .ok (.astore 4, 2) := bdL_bushels_15.2.2.1
theorem dL_bushels_19 : decode cL_bushels 19 = .ok (.iconst 2, 1) := bdL_bushels_15.2.2.2.1
theorem dL_bushels_20 : decode cL_bushels 20 = .ok (.ireturn, 1) := bdL_bushels_15.2.2.2.2.1
theorem dL_bushels_21 : decode cL_bushels 21 = .ok (.iconst 0, 1) := bdL_bushels_15.2.2.2.2.2.1
theorem dL_bushels_22 : decode cL_bushels 22 = .ok (.ireturn, 1) := bdL_bushels_15.2.2.2.2.2.2
theorem bdL_richest_0 : (decode cL_richest 0 = .ok (.aload_n 2, 1)) ∧ (decode cL_richest 1 = .ok (.iconst 0, 1)) ∧ (decode cL_richest 2 = .ok (.aload_n 0, 1)) ∧ (decode cL_richest 3 = .ok (.iload_n 1, 1)) ∧ (decode cL_richest 4 = .ok (.invokevirtual 81, 3)) ∧ (decode cL_richest 7 = .ok (.i2l, 1)) ∧ (decode cL_richest 8 = .ok (.lastore, 1)) ∧ (decode cL_richest 9 = .ok (.goto 6, 3)) ∧ (decode cL_richest 12 = .ok (.astore_n 3, 1)) ∧ (decode cL_richest 13 = .ok (.iconst 1, 1)) := by decide +kernel
theorem dL_richest_0 : decode cL_richest 0 = .ok (.aload_n 2, 1) := bdL_richest_0.1
theorem dL_richest_1 : decode cL_richest 1 = .ok (.iconst 0, 1) := bdL_richest_0.2.1
theorem dL_richest_2 : decode cL_richest 2 = .ok (.aload_n 0, 1) := bdL_richest_0.2.2.1
theorem dL_richest_3 : decode cL_richest 3 = .ok (.iload_n 1, 1) := bdL_richest_0.2.2.2.1
theorem dL_richest_4 : decode cL_richest 4 = .ok (.invokevirtual 81, 3) := bdL_richest_0.2.2.2.2.1
theorem dL_richest_7 : decode cL_richest 7 = .ok (.i2l, 1) := bdL_richest_0.2.2.2.2.2.1
theorem dL_richest_8 : decode cL_richest 8 = .ok (.lastore, 1) := bdL_richest_0.2.2.2.2.2.2.1
theorem dL_richest_9 : decode cL_richest 9 = .ok (.goto 6, 3) := bdL_richest_0.2.2.2.2.2.2.2.1
theorem dL_richest_12 : decode cL_richest 12 = .ok (.astore_n 3, 1) := bdL_richest_0.2.2.2.2.2.2.2.2.1
theorem dL_richest_13 : decode cL_richest 13 = .ok (.iconst 1, 1) := bdL_richest_0.2.2.2.2.2.2.2.2.2
theorem bdL_richest_14 : (decode cL_richest 14 = .ok (.ireturn, 1)) ∧ (decode cL_richest 15 = .ok (.iconst 0, 1)) ∧ (decode cL_richest 16 = .ok (.ireturn, 1)) := by decide +kernel
theorem dL_richest_14 : decode cL_richest 14 = .ok (.ireturn, 1) := bdL_richest_14.1
theorem dL_richest_15 : decode cL_richest 15 = .ok (.iconst 0, 1) := bdL_richest_14.2.1
theorem dL_richest_16 : decode cL_richest 16 = .ok (.ireturn, 1) := bdL_richest_14.2.2
theorem bdL_see_0 : (decode cL_see 0 = .ok (.aload 4, 2)) ∧ (decode cL_see 2 = .ok (.iconst 0, 1)) ∧ (decode cL_see 3 = .ok (.aload_n 0, 1)) ∧ (decode cL_see 4 = .ok (.iload_n 1, 1)) ∧ (decode cL_see 5 = .ok (.iload_n 2, 1)) ∧ (decode cL_see 6 = .ok (.iload_n 3, 1)) ∧ (decode cL_see 7 = .ok (.invokevirtual 84, 3)) ∧ (decode cL_see 10 = .ok (.i2l, 1)) ∧ (decode cL_see 11 = .ok (.lastore, 1)) ∧ (decode cL_see 12 = .ok (.goto 7, 3)) := by decide +kernel
theorem dL_see_0 : decode cL_see 0 = .ok (.aload 4, 2) := bdL_see_0.1
theorem dL_see_2 : decode cL_see 2 = .ok (.iconst 0, 1) := bdL_see_0.2.1
theorem dL_see_3 : decode cL_see 3 = .ok (.aload_n 0, 1) := bdL_see_0.2.2.1
theorem dL_see_4 : decode cL_see 4 = .ok (.iload_n 1, 1) := bdL_see_0.2.2.2.1
theorem dL_see_5 : decode cL_see 5 = .ok (.iload_n 2, 1) := bdL_see_0.2.2.2.2.1
theorem dL_see_6 : decode cL_see 6 = .ok (.iload_n 3, 1) := bdL_see_0.2.2.2.2.2.1
theorem dL_see_7 : decode cL_see 7 = .ok (.invokevirtual 84, 3) := bdL_see_0.2.2.2.2.2.2.1
theorem dL_see_10 : decode cL_see 10 = .ok (.i2l, 1) := bdL_see_0.2.2.2.2.2.2.2.1
theorem dL_see_11 : decode cL_see 11 = .ok (.lastore, 1) := bdL_see_0.2.2.2.2.2.2.2.2.1
theorem dL_see_12 : decode cL_see 12 = .ok (.goto 7, 3) := bdL_see_0.2.2.2.2.2.2.2.2.2
theorem bdL_see_15 : (decode cL_see 15 = .ok (.astore 5, 2)) ∧ (decode cL_see 17 = .ok (.iconst 1, 1)) ∧ (decode cL_see 18 = .ok (.ireturn, 1)) ∧ (decode cL_see 19 = .ok (.iconst 0, 1)) ∧ (decode cL_see 20 = .ok (.ireturn, 1)) := by decide +kernel
theorem dL_see_15 : decode cL_see 15 = .ok (.astore 5, 2) := bdL_see_15.1
theorem dL_see_17 : decode cL_see 17 = .ok (.iconst 1, 1) := bdL_see_15.2.1
theorem dL_see_18 : decode cL_see 18 = .ok (.ireturn, 1) := bdL_see_15.2.2.1
theorem dL_see_19 : decode cL_see 19 = .ok (.iconst 0, 1) := bdL_see_15.2.2.2.1
theorem dL_see_20 : decode cL_see 20 = .ok (.ireturn, 1) := bdL_see_15.2.2.2.2
theorem bdL_look_0 : (decode cL_look 0 = .ok (.aload_n 3, 1)) ∧ (decode cL_look 1 = .ok (.iconst 0, 1)) ∧ (decode cL_look 2 = .ok (.aload_n 0, 1)) ∧ (decode cL_look 3 = .ok (.iload_n 1, 1)) ∧ (decode cL_look 4 = .ok (.iload_n 2, 1)) ∧ (decode cL_look 5 = .ok (.invokevirtual 87, 3)) ∧ (decode cL_look 8 = .ok (.i2l, 1)) ∧ (decode cL_look 9 = .ok (.lastore, 1)) ∧ (decode cL_look 10 = .ok (.goto 7, 3)) ∧ (decode cL_look 13 = .ok (.astore 4, 2)) := by decide +kernel
theorem dL_look_0 : decode cL_look 0 = .ok (.aload_n 3, 1) := bdL_look_0.1
theorem dL_look_1 : decode cL_look 1 = .ok (.iconst 0, 1) := bdL_look_0.2.1
theorem dL_look_2 : decode cL_look 2 = .ok (.aload_n 0, 1) := bdL_look_0.2.2.1
theorem dL_look_3 : decode cL_look 3 = .ok (.iload_n 1, 1) := bdL_look_0.2.2.2.1
theorem dL_look_4 : decode cL_look 4 = .ok (.iload_n 2, 1) := bdL_look_0.2.2.2.2.1
theorem dL_look_5 : decode cL_look 5 = .ok (.invokevirtual 87, 3) := bdL_look_0.2.2.2.2.2.1
theorem dL_look_8 : decode cL_look 8 = .ok (.i2l, 1) := bdL_look_0.2.2.2.2.2.2.1
theorem dL_look_9 : decode cL_look 9 = .ok (.lastore, 1) := bdL_look_0.2.2.2.2.2.2.2.1
theorem dL_look_10 : decode cL_look 10 = .ok (.goto 7, 3) := bdL_look_0.2.2.2.2.2.2.2.2.1
theorem dL_look_13 : decode cL_look 13 = .ok (.astore 4, 2) := bdL_look_0.2.2.2.2.2.2.2.2.2
theorem bdL_look_15 : (decode cL_look 15 = .ok (.iconst 1, 1)) ∧ (decode cL_look 16 = .ok (.ireturn, 1)) ∧ (decode cL_look 17 = .ok (.iconst 0, 1)) ∧ (decode cL_look 18 = .ok (.ireturn, 1)) := by decide +kernel
theorem dL_look_15 : decode cL_look 15 = .ok (.iconst 1, 1) := bdL_look_15.1
theorem dL_look_16 : decode cL_look 16 = .ok (.ireturn, 1) := bdL_look_15.2.1
theorem dL_look_17 : decode cL_look 17 = .ok (.iconst 0, 1) := bdL_look_15.2.2.1
theorem dL_look_18 : decode cL_look 18 = .ok (.ireturn, 1) := bdL_look_15.2.2.2
theorem bdL_game_0 : (decode cL_game 0 = .ok (.aload 5, 2)) ∧ (decode cL_game 2 = .ok (.iconst 0, 1)) ∧ (decode cL_game 3 = .ok (.aload_n 0, 1)) ∧ (decode cL_game 4 = .ok (.iload_n 1, 1)) ∧ (decode cL_game 5 = .ok (.iload_n 2, 1)) ∧ (decode cL_game 6 = .ok (.iload_n 3, 1)) ∧ (decode cL_game 7 = .ok (.iload 4, 2)) ∧ (decode cL_game 9 = .ok (.invokevirtual 90, 3)) ∧ (decode cL_game 12 = .ok (.i2l, 1)) ∧ (decode cL_game 13 = .ok (.lastore, 1)) := by decide +kernel
theorem dL_game_0 : decode cL_game 0 = .ok (.aload 5, 2) := bdL_game_0.1
theorem dL_game_2 : decode cL_game 2 = .ok (.iconst 0, 1) := bdL_game_0.2.1
theorem dL_game_3 : decode cL_game 3 = .ok (.aload_n 0, 1) := bdL_game_0.2.2.1
theorem dL_game_4 : decode cL_game 4 = .ok (.iload_n 1, 1) := bdL_game_0.2.2.2.1
theorem dL_game_5 : decode cL_game 5 = .ok (.iload_n 2, 1) := bdL_game_0.2.2.2.2.1
theorem dL_game_6 : decode cL_game 6 = .ok (.iload_n 3, 1) := bdL_game_0.2.2.2.2.2.1
theorem dL_game_7 : decode cL_game 7 = .ok (.iload 4, 2) := bdL_game_0.2.2.2.2.2.2.1
theorem dL_game_9 : decode cL_game 9 = .ok (.invokevirtual 90, 3) := bdL_game_0.2.2.2.2.2.2.2.1
theorem dL_game_12 : decode cL_game 12 = .ok (.i2l, 1) := bdL_game_0.2.2.2.2.2.2.2.2.1
theorem dL_game_13 : decode cL_game 13 = .ok (.lastore, 1) := bdL_game_0.2.2.2.2.2.2.2.2.2
theorem bdL_game_14 : (decode cL_game 14 = .ok (.goto 11, 3)) ∧ (decode cL_game 17 = .ok (.astore 6, 2)) ∧ (decode cL_game 19 = .ok (.iconst 1, 1)) ∧ (decode cL_game 20 = .ok (.ireturn, 1)) ∧ (decode cL_game 21 = .ok (.astore 6, 2)) ∧ (decode cL_game 23 = .ok (.iconst 2, 1)) ∧ (decode cL_game 24 = .ok (.ireturn, 1)) ∧ (decode cL_game 25 = .ok (.iconst 0, 1)) ∧ (decode cL_game 26 = .ok (.ireturn, 1)) := by decide +kernel
theorem dL_game_14 : decode cL_game 14 = .ok (.goto 11, 3) := bdL_game_14.1
theorem dL_game_17 : decode cL_game 17 = .ok (.astore 6, 2) := bdL_game_14.2.1
theorem dL_game_19 : decode cL_game 19 = .ok (.iconst 1, 1) := bdL_game_14.2.2.1
theorem dL_game_20 : decode cL_game 20 = .ok (.ireturn, 1) := bdL_game_14.2.2.2.1
theorem dL_game_21 : decode cL_game 21 = .ok (.astore 6, 2) := bdL_game_14.2.2.2.2.1
theorem dL_game_23 : decode cL_game 23 = .ok (.iconst 2, 1) := bdL_game_14.2.2.2.2.2.1
theorem dL_game_24 : decode cL_game 24 = .ok (.ireturn, 1) := bdL_game_14.2.2.2.2.2.2.1
theorem dL_game_25 : decode cL_game 25 = .ok (.iconst 0, 1) := bdL_game_14.2.2.2.2.2.2.2.1
theorem dL_game_26 : decode cL_game 26 = .ok (.ireturn, 1) := bdL_game_14.2.2.2.2.2.2.2.2
theorem bdL_founders_0 : (decode cL_founders 0 = .ok (.aload 4, 2)) ∧ (decode cL_founders 2 = .ok (.iconst 0, 1)) ∧ (decode cL_founders 3 = .ok (.aload_n 0, 1)) ∧ (decode cL_founders 4 = .ok (.iload_n 1, 1)) ∧ (decode cL_founders 5 = .ok (.iload_n 2, 1)) ∧ (decode cL_founders 6 = .ok (.iload_n 3, 1)) ∧ (decode cL_founders 7 = .ok (.invokevirtual 94, 3)) ∧ (decode cL_founders 10 = .ok (.i2l, 1)) ∧ (decode cL_founders 11 = .ok (.lastore, 1)) ∧ (decode cL_founders 12 = .ok (.goto 11, 3)) := by decide +kernel
theorem dL_founders_0 : decode cL_founders 0 = .ok (.aload 4, 2) := bdL_founders_0.1
theorem dL_founders_2 : decode cL_founders 2 = .ok (.iconst 0, 1) := bdL_founders_0.2.1
theorem dL_founders_3 : decode cL_founders 3 = .ok (.aload_n 0, 1) := bdL_founders_0.2.2.1
theorem dL_founders_4 : decode cL_founders 4 = .ok (.iload_n 1, 1) := bdL_founders_0.2.2.2.1
theorem dL_founders_5 : decode cL_founders 5 = .ok (.iload_n 2, 1) := bdL_founders_0.2.2.2.2.1
theorem dL_founders_6 : decode cL_founders 6 = .ok (.iload_n 3, 1) := bdL_founders_0.2.2.2.2.2.1
theorem dL_founders_7 : decode cL_founders 7 = .ok (.invokevirtual 94, 3) := bdL_founders_0.2.2.2.2.2.2.1
theorem dL_founders_10 : decode cL_founders 10 = .ok (.i2l, 1) := bdL_founders_0.2.2.2.2.2.2.2.1
theorem dL_founders_11 : decode cL_founders 11 = .ok (.lastore, 1) := bdL_founders_0.2.2.2.2.2.2.2.2.1
theorem dL_founders_12 : decode cL_founders 12 = .ok (.goto 11, 3) := bdL_founders_0.2.2.2.2.2.2.2.2.2
theorem bdL_founders_15 : (decode cL_founders 15 = .ok (.astore 5, 2)) ∧ (decode cL_founders 17 = .ok (.iconst 1, 1)) ∧ (decode cL_founders 18 = .ok (.ireturn, 1)) ∧ (decode cL_founders 19 = .ok (.astore 5, 2)) ∧ (decode cL_founders 21 = .ok (.iconst 2, 1)) ∧ (decode cL_founders 22 = .ok (.ireturn, 1)) ∧ (decode cL_founders 23 = .ok (.iconst 0, 1)) ∧ (decode cL_founders 24 = .ok (.ireturn, 1)) := by decide +kernel
theorem dL_founders_15 : decode cL_founders 15 = .ok (.astore 5, 2) := bdL_founders_15.1
theorem dL_founders_17 : decode cL_founders 17 = .ok (.iconst 1, 1) := bdL_founders_15.2.1
theorem dL_founders_18 : decode cL_founders 18 = .ok (.ireturn, 1) := bdL_founders_15.2.2.1
theorem dL_founders_19 : decode cL_founders 19 = .ok (.astore 5, 2) := bdL_founders_15.2.2.2.1
theorem dL_founders_21 : decode cL_founders 21 = .ok (.iconst 2, 1) := bdL_founders_15.2.2.2.2.1
theorem dL_founders_22 : decode cL_founders 22 = .ok (.ireturn, 1) := bdL_founders_15.2.2.2.2.2.1
theorem dL_founders_23 : decode cL_founders 23 = .ok (.iconst 0, 1) := bdL_founders_15.2.2.2.2.2.2.1
theorem dL_founders_24 : decode cL_founders 24 = .ok (.ireturn, 1) := bdL_founders_15.2.2.2.2.2.2.2
theorem bdL_law_0 : (decode cL_law 0 = .ok (.new 8, 3)) ∧ (decode cL_law 3 = .ok (.dup, 1)) ∧ (decode cL_law 4 = .ok (.invokespecial 97, 3)) ∧ (decode cL_law 7 = .ok (.astore_n 1, 1)) ∧ (decode cL_law 8 = .ok (.new 98, 3)) ∧ (decode cL_law 11 = .ok (.dup, 1)) ∧ (decode cL_law 12 = .ok (.invokespecial 100, 3)) ∧ (decode cL_law 15 = .ok (.astore_n 2, 1)) ∧ (decode cL_law 16 = .ok (.iconst 1, 1)) ∧ (decode cL_law 17 = .ok (.newarray .long, 2)) := by decide +kernel
theorem dL_law_0 : decode cL_law 0 = .ok (.new 8, 3) := bdL_law_0.1
theorem dL_law_3 : decode cL_law 3 = .ok (.dup, 1) := bdL_law_0.2.1
theorem dL_law_4 : decode cL_law 4 = .ok (.invokespecial 97, 3) := bdL_law_0.2.2.1
theorem dL_law_7 : decode cL_law 7 = .ok (.astore_n 1, 1) := bdL_law_0.2.2.2.1
theorem dL_law_8 : decode cL_law 8 = .ok (.new 98, 3) := bdL_law_0.2.2.2.2.1
theorem dL_law_11 : decode cL_law 11 = .ok (.dup, 1) := bdL_law_0.2.2.2.2.2.1
theorem dL_law_12 : decode cL_law 12 = .ok (.invokespecial 100, 3) := bdL_law_0.2.2.2.2.2.2.1
theorem dL_law_15 : decode cL_law 15 = .ok (.astore_n 2, 1) := bdL_law_0.2.2.2.2.2.2.2.1
theorem dL_law_16 : decode cL_law 16 = .ok (.iconst 1, 1) := bdL_law_0.2.2.2.2.2.2.2.2.1
theorem dL_law_17 : decode cL_law 17 = .ok (.newarray .long, 2) := bdL_law_0.2.2.2.2.2.2.2.2.2
theorem bdL_law_19 : (decode cL_law 19 = .ok (.astore_n 3, 1)) ∧ (decode cL_law 20 = .ok (.iconst 0, 1)) ∧ (decode cL_law 21 = .ok (.istore 4, 2)) ∧ (decode cL_law 23 = .ok (.iload 4, 2)) ∧ (decode cL_law 25 = .ok (.aload_n 0, 1)) ∧ (decode cL_law 26 = .ok (.arraylength, 1)) ∧ (decode cL_law 27 = .ok (.bipush 6, 2)) ∧ (decode cL_law 29 = .ok (.isub, 1)) ∧ (decode cL_law 30 = .ok (.if_icmp .gt 2185, 3)) ∧ (decode cL_law 33 = .ok (.aload_n 0, 1)) := by decide +kernel
theorem dL_law_19 : decode cL_law 19 = .ok (.astore_n 3, 1) := bdL_law_19.1
theorem dL_law_20 : decode cL_law 20 = .ok (.iconst 0, 1) := bdL_law_19.2.1
theorem dL_law_21 : decode cL_law 21 = .ok (.istore 4, 2) := bdL_law_19.2.2.1
theorem dL_law_23 : decode cL_law 23 = .ok (.iload 4, 2) := bdL_law_19.2.2.2.1
theorem dL_law_25 : decode cL_law 25 = .ok (.aload_n 0, 1) := bdL_law_19.2.2.2.2.1
theorem dL_law_26 : decode cL_law 26 = .ok (.arraylength, 1) := bdL_law_19.2.2.2.2.2.1
theorem dL_law_27 : decode cL_law 27 = .ok (.bipush 6, 2) := bdL_law_19.2.2.2.2.2.2.1
theorem dL_law_29 : decode cL_law 29 = .ok (.isub, 1) := bdL_law_19.2.2.2.2.2.2.2.1
theorem dL_law_30 : decode cL_law 30 = .ok (.if_icmp .gt 2185, 3) := bdL_law_19.2.2.2.2.2.2.2.2.1
theorem dL_law_33 : decode cL_law 33 = .ok (.aload_n 0, 1) := bdL_law_19.2.2.2.2.2.2.2.2.2
theorem bdL_law_34 : (decode cL_law 34 = .ok (.iload 4, 2)) ∧ (decode cL_law 36 = .ok (.iaload, 1)) ∧ (decode cL_law 37 = .ok (.bipush 63, 2)) ∧ (decode cL_law 39 = .ok (.iand, 1)) ∧ (decode cL_law 40 = .ok (.tableswitch 2169 0 40 #[180, 253, 309, 322, 378, 446, 514, 582, 662, 687, 743, 811, 886, 923, 948, 961, 974, 1029, 1085, 1098, 1111, 1179, 1235, 1291, 1304, 1372, 1428, 1484, 1552, 1608, 1664, 1732, 1745, 1801, 1881, 1894, 1962, 1973, 2065, 2145, 2156], 180)) ∧ (decode cL_law 220 = .ok (.aload_n 1, 1)) ∧ (decode cL_law 221 = .ok (.aload_n 0, 1)) ∧ (decode cL_law 222 = .ok (.iload 4, 2)) ∧ (decode cL_law 224 = .ok (.iconst 1, 1)) ∧ (decode cL_law 225 = .ok (.iadd, 1)) := by decide +kernel
theorem dL_law_34 : decode cL_law 34 = .ok (.iload 4, 2) := bdL_law_34.1
theorem dL_law_36 : decode cL_law 36 = .ok (.iaload, 1) := bdL_law_34.2.1
theorem dL_law_37 : decode cL_law 37 = .ok (.bipush 63, 2) := bdL_law_34.2.2.1
theorem dL_law_39 : decode cL_law 39 = .ok (.iand, 1) := bdL_law_34.2.2.2.1
theorem dL_law_40 : decode cL_law 40 = .ok (.tableswitch 2169 0 40 #[180, 253, 309, 322, 378, 446, 514, 582, 662, 687, 743, 811, 886, 923, 948, 961, 974, 1029, 1085, 1098, 1111, 1179, 1235, 1291, 1304, 1372, 1428, 1484, 1552, 1608, 1664, 1732, 1745, 1801, 1881, 1894, 1962, 1973, 2065, 2145, 2156], 180) := bdL_law_34.2.2.2.2.1
theorem dL_law_220 : decode cL_law 220 = .ok (.aload_n 1, 1) := bdL_law_34.2.2.2.2.2.1
theorem dL_law_221 : decode cL_law 221 = .ok (.aload_n 0, 1) := bdL_law_34.2.2.2.2.2.2.1
theorem dL_law_222 : decode cL_law 222 = .ok (.iload 4, 2) := bdL_law_34.2.2.2.2.2.2.2.1
theorem dL_law_224 : decode cL_law 224 = .ok (.iconst 1, 1) := bdL_law_34.2.2.2.2.2.2.2.2.1
theorem dL_law_225 : decode cL_law 225 = .ok (.iadd, 1) := bdL_law_34.2.2.2.2.2.2.2.2.2
theorem bdL_law_226 : (decode cL_law 226 = .ok (.iaload, 1)) ∧ (decode cL_law 227 = .ok (.aload_n 0, 1)) ∧ (decode cL_law 228 = .ok (.iload 4, 2)) ∧ (decode cL_law 230 = .ok (.iconst 2, 1)) ∧ (decode cL_law 231 = .ok (.iadd, 1)) ∧ (decode cL_law 232 = .ok (.iaload, 1)) ∧ (decode cL_law 233 = .ok (.aload_n 0, 1)) ∧ (decode cL_law 234 = .ok (.iload 4, 2)) ∧ (decode cL_law 236 = .ok (.iconst 3, 1)) ∧ (decode cL_law 237 = .ok (.iadd, 1)) := by decide +kernel
theorem dL_law_226 : decode cL_law 226 = .ok (.iaload, 1) := bdL_law_226.1
theorem dL_law_227 : decode cL_law 227 = .ok (.aload_n 0, 1) := bdL_law_226.2.1
theorem dL_law_228 : decode cL_law 228 = .ok (.iload 4, 2) := bdL_law_226.2.2.1
theorem dL_law_230 : decode cL_law 230 = .ok (.iconst 2, 1) := bdL_law_226.2.2.2.1
theorem dL_law_231 : decode cL_law 231 = .ok (.iadd, 1) := bdL_law_226.2.2.2.2.1
theorem dL_law_232 : decode cL_law 232 = .ok (.iaload, 1) := bdL_law_226.2.2.2.2.2.1
theorem dL_law_233 : decode cL_law 233 = .ok (.aload_n 0, 1) := bdL_law_226.2.2.2.2.2.2.1
theorem dL_law_234 : decode cL_law 234 = .ok (.iload 4, 2) := bdL_law_226.2.2.2.2.2.2.2.1
theorem dL_law_236 : decode cL_law 236 = .ok (.iconst 3, 1) := bdL_law_226.2.2.2.2.2.2.2.2.1
theorem dL_law_237 : decode cL_law 237 = .ok (.iadd, 1) := bdL_law_226.2.2.2.2.2.2.2.2.2
theorem bdL_law_238 : (decode cL_law 238 = .ok (.iaload, 1)) ∧ (decode cL_law 239 = .ok (.aload_n 0, 1)) ∧ (decode cL_law 240 = .ok (.iload 4, 2)) ∧ (decode cL_law 242 = .ok (.iconst 4, 1)) ∧ (decode cL_law 243 = .ok (.iadd, 1)) ∧ (decode cL_law 244 = .ok (.iaload, 1)) ∧ (decode cL_law 245 = .ok (.aload_n 0, 1)) ∧ (decode cL_law 246 = .ok (.iload 4, 2)) ∧ (decode cL_law 248 = .ok (.iconst 5, 1)) ∧ (decode cL_law 249 = .ok (.iadd, 1)) := by decide +kernel
theorem dL_law_238 : decode cL_law 238 = .ok (.iaload, 1) := bdL_law_238.1
theorem dL_law_239 : decode cL_law 239 = .ok (.aload_n 0, 1) := bdL_law_238.2.1
theorem dL_law_240 : decode cL_law 240 = .ok (.iload 4, 2) := bdL_law_238.2.2.1
theorem dL_law_242 : decode cL_law 242 = .ok (.iconst 4, 1) := bdL_law_238.2.2.2.1
theorem dL_law_243 : decode cL_law 243 = .ok (.iadd, 1) := bdL_law_238.2.2.2.2.1
theorem dL_law_244 : decode cL_law 244 = .ok (.iaload, 1) := bdL_law_238.2.2.2.2.2.1
theorem dL_law_245 : decode cL_law 245 = .ok (.aload_n 0, 1) := bdL_law_238.2.2.2.2.2.2.1
theorem dL_law_246 : decode cL_law 246 = .ok (.iload 4, 2) := bdL_law_238.2.2.2.2.2.2.2.1
theorem dL_law_248 : decode cL_law 248 = .ok (.iconst 5, 1) := bdL_law_238.2.2.2.2.2.2.2.2.1
theorem dL_law_249 : decode cL_law 249 = .ok (.iadd, 1) := bdL_law_238.2.2.2.2.2.2.2.2.2
theorem bdL_law_250 : (decode cL_law 250 = .ok (.iaload, 1)) ∧ (decode cL_law 251 = .ok (.invokevirtual 101, 3)) ∧ (decode cL_law 254 = .ok (.aload_n 2, 1)) ∧ (decode cL_law 255 = .ok (.aload_n 0, 1)) ∧ (decode cL_law 256 = .ok (.iload 4, 2)) ∧ (decode cL_law 258 = .ok (.iconst 1, 1)) ∧ (decode cL_law 259 = .ok (.iadd, 1)) ∧ (decode cL_law 260 = .ok (.iaload, 1)) ∧ (decode cL_law 261 = .ok (.aload_n 0, 1)) ∧ (decode cL_law 262 = .ok (.iload 4, 2)) := by decide +kernel
theorem dL_law_250 : decode cL_law 250 = .ok (.iaload, 1) := bdL_law_250.1
theorem dL_law_251 : decode cL_law 251 = .ok (.invokevirtual 101, 3) := bdL_law_250.2.1
theorem dL_law_254 : decode cL_law 254 = .ok (.aload_n 2, 1) := bdL_law_250.2.2.1
theorem dL_law_255 : decode cL_law 255 = .ok (.aload_n 0, 1) := bdL_law_250.2.2.2.1
theorem dL_law_256 : decode cL_law 256 = .ok (.iload 4, 2) := bdL_law_250.2.2.2.2.1
theorem dL_law_258 : decode cL_law 258 = .ok (.iconst 1, 1) := bdL_law_250.2.2.2.2.2.1
theorem dL_law_259 : decode cL_law 259 = .ok (.iadd, 1) := bdL_law_250.2.2.2.2.2.2.1
theorem dL_law_260 : decode cL_law 260 = .ok (.iaload, 1) := bdL_law_250.2.2.2.2.2.2.2.1
theorem dL_law_261 : decode cL_law 261 = .ok (.aload_n 0, 1) := bdL_law_250.2.2.2.2.2.2.2.2.1
theorem dL_law_262 : decode cL_law 262 = .ok (.iload 4, 2) := bdL_law_250.2.2.2.2.2.2.2.2.2
theorem bdL_law_264 : (decode cL_law 264 = .ok (.iconst 2, 1)) ∧ (decode cL_law 265 = .ok (.iadd, 1)) ∧ (decode cL_law 266 = .ok (.iaload, 1)) ∧ (decode cL_law 267 = .ok (.aload_n 0, 1)) ∧ (decode cL_law 268 = .ok (.iload 4, 2)) ∧ (decode cL_law 270 = .ok (.iconst 3, 1)) ∧ (decode cL_law 271 = .ok (.iadd, 1)) ∧ (decode cL_law 272 = .ok (.iaload, 1)) ∧ (decode cL_law 273 = .ok (.aload_n 0, 1)) ∧ (decode cL_law 274 = .ok (.iload 4, 2)) := by decide +kernel
theorem dL_law_264 : decode cL_law 264 = .ok (.iconst 2, 1) := bdL_law_264.1
theorem dL_law_265 : decode cL_law 265 = .ok (.iadd, 1) := bdL_law_264.2.1
theorem dL_law_266 : decode cL_law 266 = .ok (.iaload, 1) := bdL_law_264.2.2.1
theorem dL_law_267 : decode cL_law 267 = .ok (.aload_n 0, 1) := bdL_law_264.2.2.2.1
theorem dL_law_268 : decode cL_law 268 = .ok (.iload 4, 2) := bdL_law_264.2.2.2.2.1
theorem dL_law_270 : decode cL_law 270 = .ok (.iconst 3, 1) := bdL_law_264.2.2.2.2.2.1
theorem dL_law_271 : decode cL_law 271 = .ok (.iadd, 1) := bdL_law_264.2.2.2.2.2.2.1
theorem dL_law_272 : decode cL_law 272 = .ok (.iaload, 1) := bdL_law_264.2.2.2.2.2.2.2.1
theorem dL_law_273 : decode cL_law 273 = .ok (.aload_n 0, 1) := bdL_law_264.2.2.2.2.2.2.2.2.1
theorem dL_law_274 : decode cL_law 274 = .ok (.iload 4, 2) := bdL_law_264.2.2.2.2.2.2.2.2.2
theorem bdL_law_276 : (decode cL_law 276 = .ok (.iconst 4, 1)) ∧ (decode cL_law 277 = .ok (.iadd, 1)) ∧ (decode cL_law 278 = .ok (.iaload, 1)) ∧ (decode cL_law 279 = .ok (.aload_n 0, 1)) ∧ (decode cL_law 280 = .ok (.iload 4, 2)) ∧ (decode cL_law 282 = .ok (.iconst 5, 1)) ∧ (decode cL_law 283 = .ok (.iadd, 1)) ∧ (decode cL_law 284 = .ok (.iaload, 1)) ∧ (decode cL_law 285 = .ok (.invokevirtual 105, 3)) ∧ (decode cL_law 288 = .ok (.if_icmp .eq 1921, 3)) := by decide +kernel
theorem dL_law_276 : decode cL_law 276 = .ok (.iconst 4, 1) := bdL_law_276.1
theorem dL_law_277 : decode cL_law 277 = .ok (.iadd, 1) := bdL_law_276.2.1
theorem dL_law_278 : decode cL_law 278 = .ok (.iaload, 1) := bdL_law_276.2.2.1
theorem dL_law_279 : decode cL_law 279 = .ok (.aload_n 0, 1) := bdL_law_276.2.2.2.1
theorem dL_law_280 : decode cL_law 280 = .ok (.iload 4, 2) := bdL_law_276.2.2.2.2.1
theorem dL_law_282 : decode cL_law 282 = .ok (.iconst 5, 1) := bdL_law_276.2.2.2.2.2.1
theorem dL_law_283 : decode cL_law 283 = .ok (.iadd, 1) := bdL_law_276.2.2.2.2.2.2.1
theorem dL_law_284 : decode cL_law 284 = .ok (.iaload, 1) := bdL_law_276.2.2.2.2.2.2.2.1
theorem dL_law_285 : decode cL_law 285 = .ok (.invokevirtual 105, 3) := bdL_law_276.2.2.2.2.2.2.2.2.1
theorem dL_law_288 : decode cL_law 288 = .ok (.if_icmp .eq 1921, 3) := bdL_law_276.2.2.2.2.2.2.2.2.2
theorem bdL_law_291 : (decode cL_law 291 = .ok (.iconst 0, 1)) ∧ (decode cL_law 292 = .ok (.ireturn, 1)) ∧ (decode cL_law 293 = .ok (.aload_n 1, 1)) ∧ (decode cL_law 294 = .ok (.aload_n 0, 1)) ∧ (decode cL_law 295 = .ok (.iload 4, 2)) ∧ (decode cL_law 297 = .ok (.iconst 1, 1)) ∧ (decode cL_law 298 = .ok (.iadd, 1)) ∧ (decode cL_law 299 = .ok (.iaload, 1)) ∧ (decode cL_law 300 = .ok (.aload_n 3, 1)) ∧ (decode cL_law 301 = .ok (.invokestatic 106, 3)) := by decide +kernel
theorem dL_law_291 : decode cL_law 291 = .ok (.iconst 0, 1) := bdL_law_291.1
theorem dL_law_292 : decode cL_law 292 = .ok (.ireturn, 1) := bdL_law_291.2.1
theorem dL_law_293 : decode cL_law 293 = .ok (.aload_n 1, 1) := bdL_law_291.2.2.1
theorem dL_law_294 : decode cL_law 294 = .ok (.aload_n 0, 1) := bdL_law_291.2.2.2.1
theorem dL_law_295 : decode cL_law 295 = .ok (.iload 4, 2) := bdL_law_291.2.2.2.2.1
theorem dL_law_297 : decode cL_law 297 = .ok (.iconst 1, 1) := bdL_law_291.2.2.2.2.2.1
theorem dL_law_298 : decode cL_law 298 = .ok (.iadd, 1) := bdL_law_291.2.2.2.2.2.2.1
theorem dL_law_299 : decode cL_law 299 = .ok (.iaload, 1) := bdL_law_291.2.2.2.2.2.2.2.1
theorem dL_law_300 : decode cL_law 300 = .ok (.aload_n 3, 1) := bdL_law_291.2.2.2.2.2.2.2.2.1
theorem dL_law_301 : decode cL_law 301 = .ok (.invokestatic 106, 3) := bdL_law_291.2.2.2.2.2.2.2.2.2
theorem bdL_law_304 : (decode cL_law 304 = .ok (.istore 5, 2)) ∧ (decode cL_law 306 = .ok (.aload_n 2, 1)) ∧ (decode cL_law 307 = .ok (.aload_n 0, 1)) ∧ (decode cL_law 308 = .ok (.iload 4, 2)) ∧ (decode cL_law 310 = .ok (.iconst 1, 1)) ∧ (decode cL_law 311 = .ok (.iadd, 1)) ∧ (decode cL_law 312 = .ok (.iaload, 1)) ∧ (decode cL_law 313 = .ok (.invokevirtual 111, 3)) ∧ (decode cL_law 316 = .ok (.istore 6, 2)) ∧ (decode cL_law 318 = .ok (.aload_n 2, 1)) := by decide +kernel
theorem dL_law_304 : decode cL_law 304 = .ok (.istore 5, 2) := bdL_law_304.1
theorem dL_law_306 : decode cL_law 306 = .ok (.aload_n 2, 1) := bdL_law_304.2.1
theorem dL_law_307 : decode cL_law 307 = .ok (.aload_n 0, 1) := bdL_law_304.2.2.1
theorem dL_law_308 : decode cL_law 308 = .ok (.iload 4, 2) := bdL_law_304.2.2.2.1
theorem dL_law_310 : decode cL_law 310 = .ok (.iconst 1, 1) := bdL_law_304.2.2.2.2.1
theorem dL_law_311 : decode cL_law 311 = .ok (.iadd, 1) := bdL_law_304.2.2.2.2.2.1
theorem dL_law_312 : decode cL_law 312 = .ok (.iaload, 1) := bdL_law_304.2.2.2.2.2.2.1
theorem dL_law_313 : decode cL_law 313 = .ok (.invokevirtual 111, 3) := bdL_law_304.2.2.2.2.2.2.2.1
theorem dL_law_316 : decode cL_law 316 = .ok (.istore 6, 2) := bdL_law_304.2.2.2.2.2.2.2.2.1
theorem dL_law_318 : decode cL_law 318 = .ok (.aload_n 2, 1) := bdL_law_304.2.2.2.2.2.2.2.2.2
theorem bdL_law_319 : (decode cL_law 319 = .ok (.invokevirtual 112, 3)) ∧ (decode cL_law 322 = .ok (.iload 5, 2)) ∧ (decode cL_law 324 = .ok (.if_icmp .eq 5, 3)) ∧ (decode cL_law 327 = .ok (.iconst 0, 1)) ∧ (decode cL_law 328 = .ok (.ireturn, 1)) ∧ (decode cL_law 329 = .ok (.iload 5, 2)) ∧ (decode cL_law 331 = .ok (.ifCond .ne 15, 3)) ∧ (decode cL_law 334 = .ok (.aload_n 3, 1)) ∧ (decode cL_law 335 = .ok (.iconst 0, 1)) ∧ (decode cL_law 336 = .ok (.laload, 1)) := by decide +kernel
theorem dL_law_319 : decode cL_law 319 = .ok (.invokevirtual 112, 3) := bdL_law_319.1
theorem dL_law_322 : decode cL_law 322 = .ok (.iload 5, 2) := bdL_law_319.2.1
theorem dL_law_324 : decode cL_law 324 = .ok (.if_icmp .eq 5, 3) := bdL_law_319.2.2.1
theorem dL_law_327 : decode cL_law 327 = .ok (.iconst 0, 1) := bdL_law_319.2.2.2.1
theorem dL_law_328 : decode cL_law 328 = .ok (.ireturn, 1) := bdL_law_319.2.2.2.2.1
theorem dL_law_329 : decode cL_law 329 = .ok (.iload 5, 2) := bdL_law_319.2.2.2.2.2.1
theorem dL_law_331 : decode cL_law 331 = .ok (.ifCond .ne 15, 3) := bdL_law_319.2.2.2.2.2.2.1
theorem dL_law_334 : decode cL_law 334 = .ok (.aload_n 3, 1) := bdL_law_319.2.2.2.2.2.2.2.1
theorem dL_law_335 : decode cL_law 335 = .ok (.iconst 0, 1) := bdL_law_319.2.2.2.2.2.2.2.2.1
theorem dL_law_336 : decode cL_law 336 = .ok (.laload, 1) := bdL_law_319.2.2.2.2.2.2.2.2.2
theorem bdL_law_337 : (decode cL_law 337 = .ok (.iload 6, 2)) ∧ (decode cL_law 339 = .ok (.i2l, 1)) ∧ (decode cL_law 340 = .ok (.lcmp, 1)) ∧ (decode cL_law 341 = .ok (.ifCond .eq 5, 3)) ∧ (decode cL_law 344 = .ok (.iconst 0, 1)) ∧ (decode cL_law 345 = .ok (.ireturn, 1)) ∧ (decode cL_law 346 = .ok (.goto 1863, 3)) ∧ (decode cL_law 349 = .ok (.aload_n 1, 1)) ∧ (decode cL_law 350 = .ok (.invokevirtual 116, 3)) ∧ (decode cL_law 353 = .ok (.aload_n 2, 1)) := by decide +kernel
theorem dL_law_337 : decode cL_law 337 = .ok (.iload 6, 2) := bdL_law_337.1
theorem dL_law_339 : decode cL_law 339 = .ok (.i2l, 1) := bdL_law_337.2.1
theorem dL_law_340 : decode cL_law 340 = .ok (.lcmp, 1) := bdL_law_337.2.2.1
theorem dL_law_341 : decode cL_law 341 = .ok (.ifCond .eq 5, 3) := bdL_law_337.2.2.2.1
theorem dL_law_344 : decode cL_law 344 = .ok (.iconst 0, 1) := bdL_law_337.2.2.2.2.1
theorem dL_law_345 : decode cL_law 345 = .ok (.ireturn, 1) := bdL_law_337.2.2.2.2.2.1
theorem dL_law_346 : decode cL_law 346 = .ok (.goto 1863, 3) := bdL_law_337.2.2.2.2.2.2.1
theorem dL_law_349 : decode cL_law 349 = .ok (.aload_n 1, 1) := bdL_law_337.2.2.2.2.2.2.2.1
theorem dL_law_350 : decode cL_law 350 = .ok (.invokevirtual 116, 3) := bdL_law_337.2.2.2.2.2.2.2.2.1
theorem dL_law_353 : decode cL_law 353 = .ok (.aload_n 2, 1) := bdL_law_337.2.2.2.2.2.2.2.2.2
theorem bdL_law_354 : (decode cL_law 354 = .ok (.invokevirtual 119, 3)) ∧ (decode cL_law 357 = .ok (.if_icmp .eq 1852, 3)) ∧ (decode cL_law 360 = .ok (.iconst 0, 1)) ∧ (decode cL_law 361 = .ok (.ireturn, 1)) ∧ (decode cL_law 362 = .ok (.aload_n 1, 1)) ∧ (decode cL_law 363 = .ok (.aload_n 0, 1)) ∧ (decode cL_law 364 = .ok (.iload 4, 2)) ∧ (decode cL_law 366 = .ok (.iconst 1, 1)) ∧ (decode cL_law 367 = .ok (.iadd, 1)) ∧ (decode cL_law 368 = .ok (.iaload, 1)) := by decide +kernel
theorem dL_law_354 : decode cL_law 354 = .ok (.invokevirtual 119, 3) := bdL_law_354.1
theorem dL_law_357 : decode cL_law 357 = .ok (.if_icmp .eq 1852, 3) := bdL_law_354.2.1
theorem dL_law_360 : decode cL_law 360 = .ok (.iconst 0, 1) := bdL_law_354.2.2.1
theorem dL_law_361 : decode cL_law 361 = .ok (.ireturn, 1) := bdL_law_354.2.2.2.1
theorem dL_law_362 : decode cL_law 362 = .ok (.aload_n 1, 1) := bdL_law_354.2.2.2.2.1
theorem dL_law_363 : decode cL_law 363 = .ok (.aload_n 0, 1) := bdL_law_354.2.2.2.2.2.1
theorem dL_law_364 : decode cL_law 364 = .ok (.iload 4, 2) := bdL_law_354.2.2.2.2.2.2.1
theorem dL_law_366 : decode cL_law 366 = .ok (.iconst 1, 1) := bdL_law_354.2.2.2.2.2.2.2.1
theorem dL_law_367 : decode cL_law 367 = .ok (.iadd, 1) := bdL_law_354.2.2.2.2.2.2.2.2.1
theorem dL_law_368 : decode cL_law 368 = .ok (.iaload, 1) := bdL_law_354.2.2.2.2.2.2.2.2.2
theorem bdL_law_369 : (decode cL_law 369 = .ok (.aload_n 3, 1)) ∧ (decode cL_law 370 = .ok (.invokestatic 120, 3)) ∧ (decode cL_law 373 = .ok (.istore 5, 2)) ∧ (decode cL_law 375 = .ok (.aload_n 2, 1)) ∧ (decode cL_law 376 = .ok (.aload_n 0, 1)) ∧ (decode cL_law 377 = .ok (.iload 4, 2)) ∧ (decode cL_law 379 = .ok (.iconst 1, 1)) ∧ (decode cL_law 380 = .ok (.iadd, 1)) ∧ (decode cL_law 381 = .ok (.iaload, 1)) ∧ (decode cL_law 382 = .ok (.invokevirtual 122, 3)) := by decide +kernel
theorem dL_law_369 : decode cL_law 369 = .ok (.aload_n 3, 1) := bdL_law_369.1
theorem dL_law_370 : decode cL_law 370 = .ok (.invokestatic 120, 3) := bdL_law_369.2.1
theorem dL_law_373 : decode cL_law 373 = .ok (.istore 5, 2) := bdL_law_369.2.2.1
theorem dL_law_375 : decode cL_law 375 = .ok (.aload_n 2, 1) := bdL_law_369.2.2.2.1
theorem dL_law_376 : decode cL_law 376 = .ok (.aload_n 0, 1) := bdL_law_369.2.2.2.2.1
theorem dL_law_377 : decode cL_law 377 = .ok (.iload 4, 2) := bdL_law_369.2.2.2.2.2.1
theorem dL_law_379 : decode cL_law 379 = .ok (.iconst 1, 1) := bdL_law_369.2.2.2.2.2.2.1
theorem dL_law_380 : decode cL_law 380 = .ok (.iadd, 1) := bdL_law_369.2.2.2.2.2.2.2.1
theorem dL_law_381 : decode cL_law 381 = .ok (.iaload, 1) := bdL_law_369.2.2.2.2.2.2.2.2.1
theorem dL_law_382 : decode cL_law 382 = .ok (.invokevirtual 122, 3) := bdL_law_369.2.2.2.2.2.2.2.2.2
theorem bdL_law_385 : (decode cL_law 385 = .ok (.istore 6, 2)) ∧ (decode cL_law 387 = .ok (.aload_n 2, 1)) ∧ (decode cL_law 388 = .ok (.invokevirtual 112, 3)) ∧ (decode cL_law 391 = .ok (.iload 5, 2)) ∧ (decode cL_law 393 = .ok (.if_icmp .eq 5, 3)) ∧ (decode cL_law 396 = .ok (.iconst 0, 1)) ∧ (decode cL_law 397 = .ok (.ireturn, 1)) ∧ (decode cL_law 398 = .ok (.iload 5, 2)) ∧ (decode cL_law 400 = .ok (.ifCond .ne 15, 3)) ∧ (decode cL_law 403 = .ok (.aload_n 3, 1)) := by decide +kernel
theorem dL_law_385 : decode cL_law 385 = .ok (.istore 6, 2) := bdL_law_385.1
theorem dL_law_387 : decode cL_law 387 = .ok (.aload_n 2, 1) := bdL_law_385.2.1
theorem dL_law_388 : decode cL_law 388 = .ok (.invokevirtual 112, 3) := bdL_law_385.2.2.1
theorem dL_law_391 : decode cL_law 391 = .ok (.iload 5, 2) := bdL_law_385.2.2.2.1
theorem dL_law_393 : decode cL_law 393 = .ok (.if_icmp .eq 5, 3) := bdL_law_385.2.2.2.2.1
theorem dL_law_396 : decode cL_law 396 = .ok (.iconst 0, 1) := bdL_law_385.2.2.2.2.2.1
theorem dL_law_397 : decode cL_law 397 = .ok (.ireturn, 1) := bdL_law_385.2.2.2.2.2.2.1
theorem dL_law_398 : decode cL_law 398 = .ok (.iload 5, 2) := bdL_law_385.2.2.2.2.2.2.2.1
theorem dL_law_400 : decode cL_law 400 = .ok (.ifCond .ne 15, 3) := bdL_law_385.2.2.2.2.2.2.2.2.1
theorem dL_law_403 : decode cL_law 403 = .ok (.aload_n 3, 1) := bdL_law_385.2.2.2.2.2.2.2.2.2
theorem bdL_law_404 : (decode cL_law 404 = .ok (.iconst 0, 1)) ∧ (decode cL_law 405 = .ok (.laload, 1)) ∧ (decode cL_law 406 = .ok (.iload 6, 2)) ∧ (decode cL_law 408 = .ok (.i2l, 1)) ∧ (decode cL_law 409 = .ok (.lcmp, 1)) ∧ (decode cL_law 410 = .ok (.ifCond .eq 5, 3)) ∧ (decode cL_law 413 = .ok (.iconst 0, 1)) ∧ (decode cL_law 414 = .ok (.ireturn, 1)) ∧ (decode cL_law 415 = .ok (.goto 1794, 3)) ∧ (decode cL_law 418 = .ok (.aload_n 1, 1)) := by decide +kernel
theorem dL_law_404 : decode cL_law 404 = .ok (.iconst 0, 1) := bdL_law_404.1
theorem dL_law_405 : decode cL_law 405 = .ok (.laload, 1) := bdL_law_404.2.1
theorem dL_law_406 : decode cL_law 406 = .ok (.iload 6, 2) := bdL_law_404.2.2.1
theorem dL_law_408 : decode cL_law 408 = .ok (.i2l, 1) := bdL_law_404.2.2.2.1
theorem dL_law_409 : decode cL_law 409 = .ok (.lcmp, 1) := bdL_law_404.2.2.2.2.1
theorem dL_law_410 : decode cL_law 410 = .ok (.ifCond .eq 5, 3) := bdL_law_404.2.2.2.2.2.1
theorem dL_law_413 : decode cL_law 413 = .ok (.iconst 0, 1) := bdL_law_404.2.2.2.2.2.2.1
theorem dL_law_414 : decode cL_law 414 = .ok (.ireturn, 1) := bdL_law_404.2.2.2.2.2.2.2.1
theorem dL_law_415 : decode cL_law 415 = .ok (.goto 1794, 3) := bdL_law_404.2.2.2.2.2.2.2.2.1
theorem dL_law_418 : decode cL_law 418 = .ok (.aload_n 1, 1) := bdL_law_404.2.2.2.2.2.2.2.2.2
theorem bdL_law_419 : (decode cL_law 419 = .ok (.aload_n 0, 1)) ∧ (decode cL_law 420 = .ok (.iload 4, 2)) ∧ (decode cL_law 422 = .ok (.iconst 1, 1)) ∧ (decode cL_law 423 = .ok (.iadd, 1)) ∧ (decode cL_law 424 = .ok (.iaload, 1)) ∧ (decode cL_law 425 = .ok (.aload_n 0, 1)) ∧ (decode cL_law 426 = .ok (.iload 4, 2)) ∧ (decode cL_law 428 = .ok (.iconst 2, 1)) ∧ (decode cL_law 429 = .ok (.iadd, 1)) ∧ (decode cL_law 430 = .ok (.iaload, 1)) := by decide +kernel
theorem dL_law_419 : decode cL_law 419 = .ok (.aload_n 0, 1) := bdL_law_419.1
theorem dL_law_420 : decode cL_law 420 = .ok (.iload 4, 2) := bdL_law_419.2.1
theorem dL_law_422 : decode cL_law 422 = .ok (.iconst 1, 1) := bdL_law_419.2.2.1
theorem dL_law_423 : decode cL_law 423 = .ok (.iadd, 1) := bdL_law_419.2.2.2.1
theorem dL_law_424 : decode cL_law 424 = .ok (.iaload, 1) := bdL_law_419.2.2.2.2.1
theorem dL_law_425 : decode cL_law 425 = .ok (.aload_n 0, 1) := bdL_law_419.2.2.2.2.2.1
theorem dL_law_426 : decode cL_law 426 = .ok (.iload 4, 2) := bdL_law_419.2.2.2.2.2.2.1
theorem dL_law_428 : decode cL_law 428 = .ok (.iconst 2, 1) := bdL_law_419.2.2.2.2.2.2.2.1
theorem dL_law_429 : decode cL_law 429 = .ok (.iadd, 1) := bdL_law_419.2.2.2.2.2.2.2.2.1
theorem dL_law_430 : decode cL_law 430 = .ok (.iaload, 1) := bdL_law_419.2.2.2.2.2.2.2.2.2
theorem bdL_law_431 : (decode cL_law 431 = .ok (.aload_n 3, 1)) ∧ (decode cL_law 432 = .ok (.invokestatic 123, 3)) ∧ (decode cL_law 435 = .ok (.istore 5, 2)) ∧ (decode cL_law 437 = .ok (.aload_n 2, 1)) ∧ (decode cL_law 438 = .ok (.aload_n 0, 1)) ∧ (decode cL_law 439 = .ok (.iload 4, 2)) ∧ (decode cL_law 441 = .ok (.iconst 1, 1)) ∧ (decode cL_law 442 = .ok (.iadd, 1)) ∧ (decode cL_law 443 = .ok (.iaload, 1)) ∧ (decode cL_law 444 = .ok (.aload_n 0, 1)) := by decide +kernel
theorem dL_law_431 : decode cL_law 431 = .ok (.aload_n 3, 1) := bdL_law_431.1
theorem dL_law_432 : decode cL_law 432 = .ok (.invokestatic 123, 3) := bdL_law_431.2.1
theorem dL_law_435 : decode cL_law 435 = .ok (.istore 5, 2) := bdL_law_431.2.2.1
theorem dL_law_437 : decode cL_law 437 = .ok (.aload_n 2, 1) := bdL_law_431.2.2.2.1
theorem dL_law_438 : decode cL_law 438 = .ok (.aload_n 0, 1) := bdL_law_431.2.2.2.2.1
theorem dL_law_439 : decode cL_law 439 = .ok (.iload 4, 2) := bdL_law_431.2.2.2.2.2.1
theorem dL_law_441 : decode cL_law 441 = .ok (.iconst 1, 1) := bdL_law_431.2.2.2.2.2.2.1
theorem dL_law_442 : decode cL_law 442 = .ok (.iadd, 1) := bdL_law_431.2.2.2.2.2.2.2.1
theorem dL_law_443 : decode cL_law 443 = .ok (.iaload, 1) := bdL_law_431.2.2.2.2.2.2.2.2.1
theorem dL_law_444 : decode cL_law 444 = .ok (.aload_n 0, 1) := bdL_law_431.2.2.2.2.2.2.2.2.2
theorem bdL_law_445 : (decode cL_law 445 = .ok (.iload 4, 2)) ∧ (decode cL_law 447 = .ok (.iconst 2, 1)) ∧ (decode cL_law 448 = .ok (.iadd, 1)) ∧ (decode cL_law 449 = .ok (.iaload, 1)) ∧ (decode cL_law 450 = .ok (.invokevirtual 126, 3)) ∧ (decode cL_law 453 = .ok (.istore 6, 2)) ∧ (decode cL_law 455 = .ok (.aload_n 2, 1)) ∧ (decode cL_law 456 = .ok (.invokevirtual 112, 3)) ∧ (decode cL_law 459 = .ok (.iload 5, 2)) ∧ (decode cL_law 461 = .ok (.if_icmp .eq 5, 3)) := by decide +kernel
theorem dL_law_445 : decode cL_law 445 = .ok (.iload 4, 2) := bdL_law_445.1
theorem dL_law_447 : decode cL_law 447 = .ok (.iconst 2, 1) := bdL_law_445.2.1
theorem dL_law_448 : decode cL_law 448 = .ok (.iadd, 1) := bdL_law_445.2.2.1
theorem dL_law_449 : decode cL_law 449 = .ok (.iaload, 1) := bdL_law_445.2.2.2.1
theorem dL_law_450 : decode cL_law 450 = .ok (.invokevirtual 126, 3) := bdL_law_445.2.2.2.2.1
theorem dL_law_453 : decode cL_law 453 = .ok (.istore 6, 2) := bdL_law_445.2.2.2.2.2.1
theorem dL_law_455 : decode cL_law 455 = .ok (.aload_n 2, 1) := bdL_law_445.2.2.2.2.2.2.1
theorem dL_law_456 : decode cL_law 456 = .ok (.invokevirtual 112, 3) := bdL_law_445.2.2.2.2.2.2.2.1
theorem dL_law_459 : decode cL_law 459 = .ok (.iload 5, 2) := bdL_law_445.2.2.2.2.2.2.2.2.1
theorem dL_law_461 : decode cL_law 461 = .ok (.if_icmp .eq 5, 3) := bdL_law_445.2.2.2.2.2.2.2.2.2
theorem bdL_law_464 : (decode cL_law 464 = .ok (.iconst 0, 1)) ∧ (decode cL_law 465 = .ok (.ireturn, 1)) ∧ (decode cL_law 466 = .ok (.iload 5, 2)) ∧ (decode cL_law 468 = .ok (.ifCond .ne 15, 3)) ∧ (decode cL_law 471 = .ok (.aload_n 3, 1)) ∧ (decode cL_law 472 = .ok (.iconst 0, 1)) ∧ (decode cL_law 473 = .ok (.laload, 1)) ∧ (decode cL_law 474 = .ok (.iload 6, 2)) ∧ (decode cL_law 476 = .ok (.i2l, 1)) ∧ (decode cL_law 477 = .ok (.lcmp, 1)) := by decide +kernel
theorem dL_law_464 : decode cL_law 464 = .ok (.iconst 0, 1) := bdL_law_464.1
theorem dL_law_465 : decode cL_law 465 = .ok (.ireturn, 1) := bdL_law_464.2.1
theorem dL_law_466 : decode cL_law 466 = .ok (.iload 5, 2) := bdL_law_464.2.2.1
theorem dL_law_468 : decode cL_law 468 = .ok (.ifCond .ne 15, 3) := bdL_law_464.2.2.2.1
theorem dL_law_471 : decode cL_law 471 = .ok (.aload_n 3, 1) := bdL_law_464.2.2.2.2.1
theorem dL_law_472 : decode cL_law 472 = .ok (.iconst 0, 1) := bdL_law_464.2.2.2.2.2.1
theorem dL_law_473 : decode cL_law 473 = .ok (.laload, 1) := bdL_law_464.2.2.2.2.2.2.1
theorem dL_law_474 : decode cL_law 474 = .ok (.iload 6, 2) := bdL_law_464.2.2.2.2.2.2.2.1
theorem dL_law_476 : decode cL_law 476 = .ok (.i2l, 1) := bdL_law_464.2.2.2.2.2.2.2.2.1
theorem dL_law_477 : decode cL_law 477 = .ok (.lcmp, 1) := bdL_law_464.2.2.2.2.2.2.2.2.2
theorem bdL_law_478 : (decode cL_law 478 = .ok (.ifCond .eq 5, 3)) ∧ (decode cL_law 481 = .ok (.iconst 0, 1)) ∧ (decode cL_law 482 = .ok (.ireturn, 1)) ∧ (decode cL_law 483 = .ok (.goto 1726, 3)) ∧ (decode cL_law 486 = .ok (.aload_n 1, 1)) ∧ (decode cL_law 487 = .ok (.aload_n 0, 1)) ∧ (decode cL_law 488 = .ok (.iload 4, 2)) ∧ (decode cL_law 490 = .ok (.iconst 1, 1)) ∧ (decode cL_law 491 = .ok (.iadd, 1)) ∧ (decode cL_law 492 = .ok (.iaload, 1)) := by decide +kernel
theorem dL_law_478 : decode cL_law 478 = .ok (.ifCond .eq 5, 3) := bdL_law_478.1
theorem dL_law_481 : decode cL_law 481 = .ok (.iconst 0, 1) := bdL_law_478.2.1
theorem dL_law_482 : decode cL_law 482 = .ok (.ireturn, 1) := bdL_law_478.2.2.1
theorem dL_law_483 : decode cL_law 483 = .ok (.goto 1726, 3) := bdL_law_478.2.2.2.1
theorem dL_law_486 : decode cL_law 486 = .ok (.aload_n 1, 1) := bdL_law_478.2.2.2.2.1
theorem dL_law_487 : decode cL_law 487 = .ok (.aload_n 0, 1) := bdL_law_478.2.2.2.2.2.1
theorem dL_law_488 : decode cL_law 488 = .ok (.iload 4, 2) := bdL_law_478.2.2.2.2.2.2.1
theorem dL_law_490 : decode cL_law 490 = .ok (.iconst 1, 1) := bdL_law_478.2.2.2.2.2.2.2.1
theorem dL_law_491 : decode cL_law 491 = .ok (.iadd, 1) := bdL_law_478.2.2.2.2.2.2.2.2.1
theorem dL_law_492 : decode cL_law 492 = .ok (.iaload, 1) := bdL_law_478.2.2.2.2.2.2.2.2.2
theorem bdL_law_493 : (decode cL_law 493 = .ok (.aload_n 0, 1)) ∧ (decode cL_law 494 = .ok (.iload 4, 2)) ∧ (decode cL_law 496 = .ok (.iconst 2, 1)) ∧ (decode cL_law 497 = .ok (.iadd, 1)) ∧ (decode cL_law 498 = .ok (.iaload, 1)) ∧ (decode cL_law 499 = .ok (.aload_n 3, 1)) ∧ (decode cL_law 500 = .ok (.invokestatic 127, 3)) ∧ (decode cL_law 503 = .ok (.istore 5, 2)) ∧ (decode cL_law 505 = .ok (.aload_n 2, 1)) ∧ (decode cL_law 506 = .ok (.aload_n 0, 1)) := by decide +kernel
theorem dL_law_493 : decode cL_law 493 = .ok (.aload_n 0, 1) := bdL_law_493.1
theorem dL_law_494 : decode cL_law 494 = .ok (.iload 4, 2) := bdL_law_493.2.1
theorem dL_law_496 : decode cL_law 496 = .ok (.iconst 2, 1) := bdL_law_493.2.2.1
theorem dL_law_497 : decode cL_law 497 = .ok (.iadd, 1) := bdL_law_493.2.2.2.1
theorem dL_law_498 : decode cL_law 498 = .ok (.iaload, 1) := bdL_law_493.2.2.2.2.1
theorem dL_law_499 : decode cL_law 499 = .ok (.aload_n 3, 1) := bdL_law_493.2.2.2.2.2.1
theorem dL_law_500 : decode cL_law 500 = .ok (.invokestatic 127, 3) := bdL_law_493.2.2.2.2.2.2.1
theorem dL_law_503 : decode cL_law 503 = .ok (.istore 5, 2) := bdL_law_493.2.2.2.2.2.2.2.1
theorem dL_law_505 : decode cL_law 505 = .ok (.aload_n 2, 1) := bdL_law_493.2.2.2.2.2.2.2.2.1
theorem dL_law_506 : decode cL_law 506 = .ok (.aload_n 0, 1) := bdL_law_493.2.2.2.2.2.2.2.2.2
theorem bdL_law_507 : (decode cL_law 507 = .ok (.iload 4, 2)) ∧ (decode cL_law 509 = .ok (.iconst 1, 1)) ∧ (decode cL_law 510 = .ok (.iadd, 1)) ∧ (decode cL_law 511 = .ok (.iaload, 1)) ∧ (decode cL_law 512 = .ok (.aload_n 0, 1)) ∧ (decode cL_law 513 = .ok (.iload 4, 2)) ∧ (decode cL_law 515 = .ok (.iconst 2, 1)) ∧ (decode cL_law 516 = .ok (.iadd, 1)) ∧ (decode cL_law 517 = .ok (.iaload, 1)) ∧ (decode cL_law 518 = .ok (.invokevirtual 129, 3)) := by decide +kernel
theorem dL_law_507 : decode cL_law 507 = .ok (.iload 4, 2) := bdL_law_507.1
theorem dL_law_509 : decode cL_law 509 = .ok (.iconst 1, 1) := bdL_law_507.2.1
theorem dL_law_510 : decode cL_law 510 = .ok (.iadd, 1) := bdL_law_507.2.2.1
theorem dL_law_511 : decode cL_law 511 = .ok (.iaload, 1) := bdL_law_507.2.2.2.1
theorem dL_law_512 : decode cL_law 512 = .ok (.aload_n 0, 1) := bdL_law_507.2.2.2.2.1
theorem dL_law_513 : decode cL_law 513 = .ok (.iload 4, 2) := bdL_law_507.2.2.2.2.2.1
theorem dL_law_515 : decode cL_law 515 = .ok (.iconst 2, 1) := bdL_law_507.2.2.2.2.2.2.1
theorem dL_law_516 : decode cL_law 516 = .ok (.iadd, 1) := bdL_law_507.2.2.2.2.2.2.2.1
theorem dL_law_517 : decode cL_law 517 = .ok (.iaload, 1) := bdL_law_507.2.2.2.2.2.2.2.2.1
theorem dL_law_518 : decode cL_law 518 = .ok (.invokevirtual 129, 3) := bdL_law_507.2.2.2.2.2.2.2.2.2
theorem bdL_law_521 : (decode cL_law 521 = .ok (.istore 6, 2)) ∧ (decode cL_law 523 = .ok (.aload_n 2, 1)) ∧ (decode cL_law 524 = .ok (.invokevirtual 112, 3)) ∧ (decode cL_law 527 = .ok (.iload 5, 2)) ∧ (decode cL_law 529 = .ok (.if_icmp .eq 5, 3)) ∧ (decode cL_law 532 = .ok (.iconst 0, 1)) ∧ (decode cL_law 533 = .ok (.ireturn, 1)) ∧ (decode cL_law 534 = .ok (.iload 5, 2)) ∧ (decode cL_law 536 = .ok (.ifCond .ne 15, 3)) ∧ (decode cL_law 539 = .ok (.aload_n 3, 1)) := by decide +kernel
theorem dL_law_521 : decode cL_law 521 = .ok (.istore 6, 2) := bdL_law_521.1
theorem dL_law_523 : decode cL_law 523 = .ok (.aload_n 2, 1) := bdL_law_521.2.1
theorem dL_law_524 : decode cL_law 524 = .ok (.invokevirtual 112, 3) := bdL_law_521.2.2.1
theorem dL_law_527 : decode cL_law 527 = .ok (.iload 5, 2) := bdL_law_521.2.2.2.1
theorem dL_law_529 : decode cL_law 529 = .ok (.if_icmp .eq 5, 3) := bdL_law_521.2.2.2.2.1
theorem dL_law_532 : decode cL_law 532 = .ok (.iconst 0, 1) := bdL_law_521.2.2.2.2.2.1
theorem dL_law_533 : decode cL_law 533 = .ok (.ireturn, 1) := bdL_law_521.2.2.2.2.2.2.1
theorem dL_law_534 : decode cL_law 534 = .ok (.iload 5, 2) := bdL_law_521.2.2.2.2.2.2.2.1
theorem dL_law_536 : decode cL_law 536 = .ok (.ifCond .ne 15, 3) := bdL_law_521.2.2.2.2.2.2.2.2.1
theorem dL_law_539 : decode cL_law 539 = .ok (.aload_n 3, 1) := bdL_law_521.2.2.2.2.2.2.2.2.2
theorem bdL_law_540 : (decode cL_law 540 = .ok (.iconst 0, 1)) ∧ (decode cL_law 541 = .ok (.laload, 1)) ∧ (decode cL_law 542 = .ok (.iload 6, 2)) ∧ (decode cL_law 544 = .ok (.i2l, 1)) ∧ (decode cL_law 545 = .ok (.lcmp, 1)) ∧ (decode cL_law 546 = .ok (.ifCond .eq 5, 3)) ∧ (decode cL_law 549 = .ok (.iconst 0, 1)) ∧ (decode cL_law 550 = .ok (.ireturn, 1)) ∧ (decode cL_law 551 = .ok (.goto 1658, 3)) ∧ (decode cL_law 554 = .ok (.aload_n 1, 1)) := by decide +kernel
theorem dL_law_540 : decode cL_law 540 = .ok (.iconst 0, 1) := bdL_law_540.1
theorem dL_law_541 : decode cL_law 541 = .ok (.laload, 1) := bdL_law_540.2.1
theorem dL_law_542 : decode cL_law 542 = .ok (.iload 6, 2) := bdL_law_540.2.2.1
theorem dL_law_544 : decode cL_law 544 = .ok (.i2l, 1) := bdL_law_540.2.2.2.1
theorem dL_law_545 : decode cL_law 545 = .ok (.lcmp, 1) := bdL_law_540.2.2.2.2.1
theorem dL_law_546 : decode cL_law 546 = .ok (.ifCond .eq 5, 3) := bdL_law_540.2.2.2.2.2.1
theorem dL_law_549 : decode cL_law 549 = .ok (.iconst 0, 1) := bdL_law_540.2.2.2.2.2.2.1
theorem dL_law_550 : decode cL_law 550 = .ok (.ireturn, 1) := bdL_law_540.2.2.2.2.2.2.2.1
theorem dL_law_551 : decode cL_law 551 = .ok (.goto 1658, 3) := bdL_law_540.2.2.2.2.2.2.2.2.1
theorem dL_law_554 : decode cL_law 554 = .ok (.aload_n 1, 1) := bdL_law_540.2.2.2.2.2.2.2.2.2
theorem bdL_law_555 : (decode cL_law 555 = .ok (.aload_n 0, 1)) ∧ (decode cL_law 556 = .ok (.iload 4, 2)) ∧ (decode cL_law 558 = .ok (.iconst 1, 1)) ∧ (decode cL_law 559 = .ok (.iadd, 1)) ∧ (decode cL_law 560 = .ok (.iaload, 1)) ∧ (decode cL_law 561 = .ok (.aload_n 0, 1)) ∧ (decode cL_law 562 = .ok (.iload 4, 2)) ∧ (decode cL_law 564 = .ok (.iconst 2, 1)) ∧ (decode cL_law 565 = .ok (.iadd, 1)) ∧ (decode cL_law 566 = .ok (.iaload, 1)) := by decide +kernel
theorem dL_law_555 : decode cL_law 555 = .ok (.aload_n 0, 1) := bdL_law_555.1
theorem dL_law_556 : decode cL_law 556 = .ok (.iload 4, 2) := bdL_law_555.2.1
theorem dL_law_558 : decode cL_law 558 = .ok (.iconst 1, 1) := bdL_law_555.2.2.1
theorem dL_law_559 : decode cL_law 559 = .ok (.iadd, 1) := bdL_law_555.2.2.2.1
theorem dL_law_560 : decode cL_law 560 = .ok (.iaload, 1) := bdL_law_555.2.2.2.2.1
theorem dL_law_561 : decode cL_law 561 = .ok (.aload_n 0, 1) := bdL_law_555.2.2.2.2.2.1
theorem dL_law_562 : decode cL_law 562 = .ok (.iload 4, 2) := bdL_law_555.2.2.2.2.2.2.1
theorem dL_law_564 : decode cL_law 564 = .ok (.iconst 2, 1) := bdL_law_555.2.2.2.2.2.2.2.1
theorem dL_law_565 : decode cL_law 565 = .ok (.iadd, 1) := bdL_law_555.2.2.2.2.2.2.2.2.1
theorem dL_law_566 : decode cL_law 566 = .ok (.iaload, 1) := bdL_law_555.2.2.2.2.2.2.2.2.2
theorem bdL_law_567 : (decode cL_law 567 = .ok (.aload_n 3, 1)) ∧ (decode cL_law 568 = .ok (.invokestatic 130, 3)) ∧ (decode cL_law 571 = .ok (.istore 5, 2)) ∧ (decode cL_law 573 = .ok (.aload_n 2, 1)) ∧ (decode cL_law 574 = .ok (.aload_n 0, 1)) ∧ (decode cL_law 575 = .ok (.iload 4, 2)) ∧ (decode cL_law 577 = .ok (.iconst 1, 1)) ∧ (decode cL_law 578 = .ok (.iadd, 1)) ∧ (decode cL_law 579 = .ok (.iaload, 1)) ∧ (decode cL_law 580 = .ok (.aload_n 0, 1)) := by decide +kernel
theorem dL_law_567 : decode cL_law 567 = .ok (.aload_n 3, 1) := bdL_law_567.1
theorem dL_law_568 : decode cL_law 568 = .ok (.invokestatic 130, 3) := bdL_law_567.2.1
theorem dL_law_571 : decode cL_law 571 = .ok (.istore 5, 2) := bdL_law_567.2.2.1
theorem dL_law_573 : decode cL_law 573 = .ok (.aload_n 2, 1) := bdL_law_567.2.2.2.1
theorem dL_law_574 : decode cL_law 574 = .ok (.aload_n 0, 1) := bdL_law_567.2.2.2.2.1
theorem dL_law_575 : decode cL_law 575 = .ok (.iload 4, 2) := bdL_law_567.2.2.2.2.2.1
theorem dL_law_577 : decode cL_law 577 = .ok (.iconst 1, 1) := bdL_law_567.2.2.2.2.2.2.1
theorem dL_law_578 : decode cL_law 578 = .ok (.iadd, 1) := bdL_law_567.2.2.2.2.2.2.2.1
theorem dL_law_579 : decode cL_law 579 = .ok (.iaload, 1) := bdL_law_567.2.2.2.2.2.2.2.2.1
theorem dL_law_580 : decode cL_law 580 = .ok (.aload_n 0, 1) := bdL_law_567.2.2.2.2.2.2.2.2.2
theorem bdL_law_581 : (decode cL_law 581 = .ok (.iload 4, 2)) ∧ (decode cL_law 583 = .ok (.iconst 2, 1)) ∧ (decode cL_law 584 = .ok (.iadd, 1)) ∧ (decode cL_law 585 = .ok (.iaload, 1)) ∧ (decode cL_law 586 = .ok (.invokevirtual 132, 3)) ∧ (decode cL_law 589 = .ok (.istore 6, 2)) ∧ (decode cL_law 591 = .ok (.aload_n 2, 1)) ∧ (decode cL_law 592 = .ok (.invokevirtual 112, 3)) ∧ (decode cL_law 595 = .ok (.iload 5, 2)) ∧ (decode cL_law 597 = .ok (.if_icmp .eq 5, 3)) := by decide +kernel
theorem dL_law_581 : decode cL_law 581 = .ok (.iload 4, 2) := bdL_law_581.1
theorem dL_law_583 : decode cL_law 583 = .ok (.iconst 2, 1) := bdL_law_581.2.1
theorem dL_law_584 : decode cL_law 584 = .ok (.iadd, 1) := bdL_law_581.2.2.1
theorem dL_law_585 : decode cL_law 585 = .ok (.iaload, 1) := bdL_law_581.2.2.2.1
theorem dL_law_586 : decode cL_law 586 = .ok (.invokevirtual 132, 3) := bdL_law_581.2.2.2.2.1
theorem dL_law_589 : decode cL_law 589 = .ok (.istore 6, 2) := bdL_law_581.2.2.2.2.2.1
theorem dL_law_591 : decode cL_law 591 = .ok (.aload_n 2, 1) := bdL_law_581.2.2.2.2.2.2.1
theorem dL_law_592 : decode cL_law 592 = .ok (.invokevirtual 112, 3) := bdL_law_581.2.2.2.2.2.2.2.1
theorem dL_law_595 : decode cL_law 595 = .ok (.iload 5, 2) := bdL_law_581.2.2.2.2.2.2.2.2.1
theorem dL_law_597 : decode cL_law 597 = .ok (.if_icmp .eq 5, 3) := bdL_law_581.2.2.2.2.2.2.2.2.2
theorem bdL_law_600 : (decode cL_law 600 = .ok (.iconst 0, 1)) ∧ (decode cL_law 601 = .ok (.ireturn, 1)) ∧ (decode cL_law 602 = .ok (.iload 5, 2)) ∧ (decode cL_law 604 = .ok (.ifCond .ne 15, 3)) ∧ (decode cL_law 607 = .ok (.aload_n 3, 1)) ∧ (decode cL_law 608 = .ok (.iconst 0, 1)) ∧ (decode cL_law 609 = .ok (.laload, 1)) ∧ (decode cL_law 610 = .ok (.iload 6, 2)) ∧ (decode cL_law 612 = .ok (.i2l, 1)) ∧ (decode cL_law 613 = .ok (.lcmp, 1)) := by decide +kernel
theorem dL_law_600 : decode cL_law 600 = .ok (.iconst 0, 1) := bdL_law_600.1
theorem dL_law_601 : decode cL_law 601 = .ok (.ireturn, 1) := bdL_law_600.2.1
theorem dL_law_602 : decode cL_law 602 = .ok (.iload 5, 2) := bdL_law_600.2.2.1
theorem dL_law_604 : decode cL_law 604 = .ok (.ifCond .ne 15, 3) := bdL_law_600.2.2.2.1
theorem dL_law_607 : decode cL_law 607 = .ok (.aload_n 3, 1) := bdL_law_600.2.2.2.2.1
theorem dL_law_608 : decode cL_law 608 = .ok (.iconst 0, 1) := bdL_law_600.2.2.2.2.2.1
theorem dL_law_609 : decode cL_law 609 = .ok (.laload, 1) := bdL_law_600.2.2.2.2.2.2.1
theorem dL_law_610 : decode cL_law 610 = .ok (.iload 6, 2) := bdL_law_600.2.2.2.2.2.2.2.1
theorem dL_law_612 : decode cL_law 612 = .ok (.i2l, 1) := bdL_law_600.2.2.2.2.2.2.2.2.1
theorem dL_law_613 : decode cL_law 613 = .ok (.lcmp, 1) := bdL_law_600.2.2.2.2.2.2.2.2.2
theorem bdL_law_614 : (decode cL_law 614 = .ok (.ifCond .eq 5, 3)) ∧ (decode cL_law 617 = .ok (.iconst 0, 1)) ∧ (decode cL_law 618 = .ok (.ireturn, 1)) ∧ (decode cL_law 619 = .ok (.goto 1590, 3)) ∧ (decode cL_law 622 = .ok (.aload_n 1, 1)) ∧ (decode cL_law 623 = .ok (.aload_n 0, 1)) ∧ (decode cL_law 624 = .ok (.iload 4, 2)) ∧ (decode cL_law 626 = .ok (.iconst 1, 1)) ∧ (decode cL_law 627 = .ok (.iadd, 1)) ∧ (decode cL_law 628 = .ok (.iaload, 1)) := by decide +kernel
theorem dL_law_614 : decode cL_law 614 = .ok (.ifCond .eq 5, 3) := bdL_law_614.1
theorem dL_law_617 : decode cL_law 617 = .ok (.iconst 0, 1) := bdL_law_614.2.1
theorem dL_law_618 : decode cL_law 618 = .ok (.ireturn, 1) := bdL_law_614.2.2.1
theorem dL_law_619 : decode cL_law 619 = .ok (.goto 1590, 3) := bdL_law_614.2.2.2.1
theorem dL_law_622 : decode cL_law 622 = .ok (.aload_n 1, 1) := bdL_law_614.2.2.2.2.1
theorem dL_law_623 : decode cL_law 623 = .ok (.aload_n 0, 1) := bdL_law_614.2.2.2.2.2.1
theorem dL_law_624 : decode cL_law 624 = .ok (.iload 4, 2) := bdL_law_614.2.2.2.2.2.2.1
theorem dL_law_626 : decode cL_law 626 = .ok (.iconst 1, 1) := bdL_law_614.2.2.2.2.2.2.2.1
theorem dL_law_627 : decode cL_law 627 = .ok (.iadd, 1) := bdL_law_614.2.2.2.2.2.2.2.2.1
theorem dL_law_628 : decode cL_law 628 = .ok (.iaload, 1) := bdL_law_614.2.2.2.2.2.2.2.2.2
theorem bdL_law_629 : (decode cL_law 629 = .ok (.aload_n 0, 1)) ∧ (decode cL_law 630 = .ok (.iload 4, 2)) ∧ (decode cL_law 632 = .ok (.iconst 2, 1)) ∧ (decode cL_law 633 = .ok (.iadd, 1)) ∧ (decode cL_law 634 = .ok (.iaload, 1)) ∧ (decode cL_law 635 = .ok (.aload_n 0, 1)) ∧ (decode cL_law 636 = .ok (.iload 4, 2)) ∧ (decode cL_law 638 = .ok (.iconst 3, 1)) ∧ (decode cL_law 639 = .ok (.iadd, 1)) ∧ (decode cL_law 640 = .ok (.iaload, 1)) := by decide +kernel
theorem dL_law_629 : decode cL_law 629 = .ok (.aload_n 0, 1) := bdL_law_629.1
theorem dL_law_630 : decode cL_law 630 = .ok (.iload 4, 2) := bdL_law_629.2.1
theorem dL_law_632 : decode cL_law 632 = .ok (.iconst 2, 1) := bdL_law_629.2.2.1
theorem dL_law_633 : decode cL_law 633 = .ok (.iadd, 1) := bdL_law_629.2.2.2.1
theorem dL_law_634 : decode cL_law 634 = .ok (.iaload, 1) := bdL_law_629.2.2.2.2.1
theorem dL_law_635 : decode cL_law 635 = .ok (.aload_n 0, 1) := bdL_law_629.2.2.2.2.2.1
theorem dL_law_636 : decode cL_law 636 = .ok (.iload 4, 2) := bdL_law_629.2.2.2.2.2.2.1
theorem dL_law_638 : decode cL_law 638 = .ok (.iconst 3, 1) := bdL_law_629.2.2.2.2.2.2.2.1
theorem dL_law_639 : decode cL_law 639 = .ok (.iadd, 1) := bdL_law_629.2.2.2.2.2.2.2.2.1
theorem dL_law_640 : decode cL_law 640 = .ok (.iaload, 1) := bdL_law_629.2.2.2.2.2.2.2.2.2
theorem bdL_law_641 : (decode cL_law 641 = .ok (.aload_n 3, 1)) ∧ (decode cL_law 642 = .ok (.invokestatic 133, 3)) ∧ (decode cL_law 645 = .ok (.istore 5, 2)) ∧ (decode cL_law 647 = .ok (.aload_n 2, 1)) ∧ (decode cL_law 648 = .ok (.aload_n 0, 1)) ∧ (decode cL_law 649 = .ok (.iload 4, 2)) ∧ (decode cL_law 651 = .ok (.iconst 1, 1)) ∧ (decode cL_law 652 = .ok (.iadd, 1)) ∧ (decode cL_law 653 = .ok (.iaload, 1)) ∧ (decode cL_law 654 = .ok (.aload_n 0, 1)) := by decide +kernel
theorem dL_law_641 : decode cL_law 641 = .ok (.aload_n 3, 1) := bdL_law_641.1
theorem dL_law_642 : decode cL_law 642 = .ok (.invokestatic 133, 3) := bdL_law_641.2.1
theorem dL_law_645 : decode cL_law 645 = .ok (.istore 5, 2) := bdL_law_641.2.2.1
theorem dL_law_647 : decode cL_law 647 = .ok (.aload_n 2, 1) := bdL_law_641.2.2.2.1
theorem dL_law_648 : decode cL_law 648 = .ok (.aload_n 0, 1) := bdL_law_641.2.2.2.2.1
theorem dL_law_649 : decode cL_law 649 = .ok (.iload 4, 2) := bdL_law_641.2.2.2.2.2.1
theorem dL_law_651 : decode cL_law 651 = .ok (.iconst 1, 1) := bdL_law_641.2.2.2.2.2.2.1
theorem dL_law_652 : decode cL_law 652 = .ok (.iadd, 1) := bdL_law_641.2.2.2.2.2.2.2.1
theorem dL_law_653 : decode cL_law 653 = .ok (.iaload, 1) := bdL_law_641.2.2.2.2.2.2.2.2.1
theorem dL_law_654 : decode cL_law 654 = .ok (.aload_n 0, 1) := bdL_law_641.2.2.2.2.2.2.2.2.2
theorem bdL_law_655 : (decode cL_law 655 = .ok (.iload 4, 2)) ∧ (decode cL_law 657 = .ok (.iconst 2, 1)) ∧ (decode cL_law 658 = .ok (.iadd, 1)) ∧ (decode cL_law 659 = .ok (.iaload, 1)) ∧ (decode cL_law 660 = .ok (.aload_n 0, 1)) ∧ (decode cL_law 661 = .ok (.iload 4, 2)) ∧ (decode cL_law 663 = .ok (.iconst 3, 1)) ∧ (decode cL_law 664 = .ok (.iadd, 1)) ∧ (decode cL_law 665 = .ok (.iaload, 1)) ∧ (decode cL_law 666 = .ok (.invokevirtual 136, 3)) := by decide +kernel
theorem dL_law_655 : decode cL_law 655 = .ok (.iload 4, 2) := bdL_law_655.1
theorem dL_law_657 : decode cL_law 657 = .ok (.iconst 2, 1) := bdL_law_655.2.1
theorem dL_law_658 : decode cL_law 658 = .ok (.iadd, 1) := bdL_law_655.2.2.1
theorem dL_law_659 : decode cL_law 659 = .ok (.iaload, 1) := bdL_law_655.2.2.2.1
theorem dL_law_660 : decode cL_law 660 = .ok (.aload_n 0, 1) := bdL_law_655.2.2.2.2.1
theorem dL_law_661 : decode cL_law 661 = .ok (.iload 4, 2) := bdL_law_655.2.2.2.2.2.1
theorem dL_law_663 : decode cL_law 663 = .ok (.iconst 3, 1) := bdL_law_655.2.2.2.2.2.2.1
theorem dL_law_664 : decode cL_law 664 = .ok (.iadd, 1) := bdL_law_655.2.2.2.2.2.2.2.1
theorem dL_law_665 : decode cL_law 665 = .ok (.iaload, 1) := bdL_law_655.2.2.2.2.2.2.2.2.1
theorem dL_law_666 : decode cL_law 666 = .ok (.invokevirtual 136, 3) := bdL_law_655.2.2.2.2.2.2.2.2.2
theorem bdL_law_669 : (decode cL_law 669 = .ok (.istore 6, 2)) ∧ (decode cL_law 671 = .ok (.aload_n 2, 1)) ∧ (decode cL_law 672 = .ok (.invokevirtual 112, 3)) ∧ (decode cL_law 675 = .ok (.iload 5, 2)) ∧ (decode cL_law 677 = .ok (.if_icmp .eq 5, 3)) ∧ (decode cL_law 680 = .ok (.iconst 0, 1)) ∧ (decode cL_law 681 = .ok (.ireturn, 1)) ∧ (decode cL_law 682 = .ok (.iload 5, 2)) ∧ (decode cL_law 684 = .ok (.ifCond .ne 15, 3)) ∧ (decode cL_law 687 = .ok (.aload_n 3, 1)) := by decide +kernel
theorem dL_law_669 : decode cL_law 669 = .ok (.istore 6, 2) := bdL_law_669.1
theorem dL_law_671 : decode cL_law 671 = .ok (.aload_n 2, 1) := bdL_law_669.2.1
theorem dL_law_672 : decode cL_law 672 = .ok (.invokevirtual 112, 3) := bdL_law_669.2.2.1
theorem dL_law_675 : decode cL_law 675 = .ok (.iload 5, 2) := bdL_law_669.2.2.2.1
theorem dL_law_677 : decode cL_law 677 = .ok (.if_icmp .eq 5, 3) := bdL_law_669.2.2.2.2.1
theorem dL_law_680 : decode cL_law 680 = .ok (.iconst 0, 1) := bdL_law_669.2.2.2.2.2.1
theorem dL_law_681 : decode cL_law 681 = .ok (.ireturn, 1) := bdL_law_669.2.2.2.2.2.2.1
theorem dL_law_682 : decode cL_law 682 = .ok (.iload 5, 2) := bdL_law_669.2.2.2.2.2.2.2.1
theorem dL_law_684 : decode cL_law 684 = .ok (.ifCond .ne 15, 3) := bdL_law_669.2.2.2.2.2.2.2.2.1
theorem dL_law_687 : decode cL_law 687 = .ok (.aload_n 3, 1) := bdL_law_669.2.2.2.2.2.2.2.2.2
theorem bdL_law_688 : (decode cL_law 688 = .ok (.iconst 0, 1)) ∧ (decode cL_law 689 = .ok (.laload, 1)) ∧ (decode cL_law 690 = .ok (.iload 6, 2)) ∧ (decode cL_law 692 = .ok (.i2l, 1)) ∧ (decode cL_law 693 = .ok (.lcmp, 1)) ∧ (decode cL_law 694 = .ok (.ifCond .eq 5, 3)) ∧ (decode cL_law 697 = .ok (.iconst 0, 1)) ∧ (decode cL_law 698 = .ok (.ireturn, 1)) ∧ (decode cL_law 699 = .ok (.goto 1510, 3)) ∧ (decode cL_law 702 = .ok (.aload_n 1, 1)) := by decide +kernel
theorem dL_law_688 : decode cL_law 688 = .ok (.iconst 0, 1) := bdL_law_688.1
theorem dL_law_689 : decode cL_law 689 = .ok (.laload, 1) := bdL_law_688.2.1
theorem dL_law_690 : decode cL_law 690 = .ok (.iload 6, 2) := bdL_law_688.2.2.1
theorem dL_law_692 : decode cL_law 692 = .ok (.i2l, 1) := bdL_law_688.2.2.2.1
theorem dL_law_693 : decode cL_law 693 = .ok (.lcmp, 1) := bdL_law_688.2.2.2.2.1
theorem dL_law_694 : decode cL_law 694 = .ok (.ifCond .eq 5, 3) := bdL_law_688.2.2.2.2.2.1
theorem dL_law_697 : decode cL_law 697 = .ok (.iconst 0, 1) := bdL_law_688.2.2.2.2.2.2.1
theorem dL_law_698 : decode cL_law 698 = .ok (.ireturn, 1) := bdL_law_688.2.2.2.2.2.2.2.1
theorem dL_law_699 : decode cL_law 699 = .ok (.goto 1510, 3) := bdL_law_688.2.2.2.2.2.2.2.2.1
theorem dL_law_702 : decode cL_law 702 = .ok (.aload_n 1, 1) := bdL_law_688.2.2.2.2.2.2.2.2.2
theorem bdL_law_703 : (decode cL_law 703 = .ok (.aload_n 0, 1)) ∧ (decode cL_law 704 = .ok (.iload 4, 2)) ∧ (decode cL_law 706 = .ok (.iconst 1, 1)) ∧ (decode cL_law 707 = .ok (.iadd, 1)) ∧ (decode cL_law 708 = .ok (.iaload, 1)) ∧ (decode cL_law 709 = .ok (.invokevirtual 137, 3)) ∧ (decode cL_law 712 = .ok (.aload_n 2, 1)) ∧ (decode cL_law 713 = .ok (.aload_n 0, 1)) ∧ (decode cL_law 714 = .ok (.iload 4, 2)) ∧ (decode cL_law 716 = .ok (.iconst 1, 1)) := by decide +kernel
theorem dL_law_703 : decode cL_law 703 = .ok (.aload_n 0, 1) := bdL_law_703.1
theorem dL_law_704 : decode cL_law 704 = .ok (.iload 4, 2) := bdL_law_703.2.1
theorem dL_law_706 : decode cL_law 706 = .ok (.iconst 1, 1) := bdL_law_703.2.2.1
theorem dL_law_707 : decode cL_law 707 = .ok (.iadd, 1) := bdL_law_703.2.2.2.1
theorem dL_law_708 : decode cL_law 708 = .ok (.iaload, 1) := bdL_law_703.2.2.2.2.1
theorem dL_law_709 : decode cL_law 709 = .ok (.invokevirtual 137, 3) := bdL_law_703.2.2.2.2.2.1
theorem dL_law_712 : decode cL_law 712 = .ok (.aload_n 2, 1) := bdL_law_703.2.2.2.2.2.2.1
theorem dL_law_713 : decode cL_law 713 = .ok (.aload_n 0, 1) := bdL_law_703.2.2.2.2.2.2.2.1
theorem dL_law_714 : decode cL_law 714 = .ok (.iload 4, 2) := bdL_law_703.2.2.2.2.2.2.2.2.1
theorem dL_law_716 : decode cL_law 716 = .ok (.iconst 1, 1) := bdL_law_703.2.2.2.2.2.2.2.2.2
theorem bdL_law_717 : (decode cL_law 717 = .ok (.iadd, 1)) ∧ (decode cL_law 718 = .ok (.iaload, 1)) ∧ (decode cL_law 719 = .ok (.invokevirtual 140, 3)) ∧ (decode cL_law 722 = .ok (.if_icmp .eq 1487, 3)) ∧ (decode cL_law 725 = .ok (.iconst 0, 1)) ∧ (decode cL_law 726 = .ok (.ireturn, 1)) ∧ (decode cL_law 727 = .ok (.aload_n 1, 1)) ∧ (decode cL_law 728 = .ok (.aload_n 0, 1)) ∧ (decode cL_law 729 = .ok (.iload 4, 2)) ∧ (decode cL_law 731 = .ok (.iconst 1, 1)) := by decide +kernel
theorem dL_law_717 : decode cL_law 717 = .ok (.iadd, 1) := bdL_law_717.1
theorem dL_law_718 : decode cL_law 718 = .ok (.iaload, 1) := bdL_law_717.2.1
theorem dL_law_719 : decode cL_law 719 = .ok (.invokevirtual 140, 3) := bdL_law_717.2.2.1
theorem dL_law_722 : decode cL_law 722 = .ok (.if_icmp .eq 1487, 3) := bdL_law_717.2.2.2.1
theorem dL_law_725 : decode cL_law 725 = .ok (.iconst 0, 1) := bdL_law_717.2.2.2.2.1
theorem dL_law_726 : decode cL_law 726 = .ok (.ireturn, 1) := bdL_law_717.2.2.2.2.2.1
theorem dL_law_727 : decode cL_law 727 = .ok (.aload_n 1, 1) := bdL_law_717.2.2.2.2.2.2.1
theorem dL_law_728 : decode cL_law 728 = .ok (.aload_n 0, 1) := bdL_law_717.2.2.2.2.2.2.2.1
theorem dL_law_729 : decode cL_law 729 = .ok (.iload 4, 2) := bdL_law_717.2.2.2.2.2.2.2.2.1
theorem dL_law_731 : decode cL_law 731 = .ok (.iconst 1, 1) := bdL_law_717.2.2.2.2.2.2.2.2.2
theorem bdL_law_732 : (decode cL_law 732 = .ok (.iadd, 1)) ∧ (decode cL_law 733 = .ok (.iaload, 1)) ∧ (decode cL_law 734 = .ok (.aload_n 3, 1)) ∧ (decode cL_law 735 = .ok (.invokestatic 141, 3)) ∧ (decode cL_law 738 = .ok (.istore 5, 2)) ∧ (decode cL_law 740 = .ok (.aload_n 2, 1)) ∧ (decode cL_law 741 = .ok (.aload_n 0, 1)) ∧ (decode cL_law 742 = .ok (.iload 4, 2)) ∧ (decode cL_law 744 = .ok (.iconst 1, 1)) ∧ (decode cL_law 745 = .ok (.iadd, 1)) := by decide +kernel
theorem dL_law_732 : decode cL_law 732 = .ok (.iadd, 1) := bdL_law_732.1
theorem dL_law_733 : decode cL_law 733 = .ok (.iaload, 1) := bdL_law_732.2.1
theorem dL_law_734 : decode cL_law 734 = .ok (.aload_n 3, 1) := bdL_law_732.2.2.1
theorem dL_law_735 : decode cL_law 735 = .ok (.invokestatic 141, 3) := bdL_law_732.2.2.2.1
theorem dL_law_738 : decode cL_law 738 = .ok (.istore 5, 2) := bdL_law_732.2.2.2.2.1
theorem dL_law_740 : decode cL_law 740 = .ok (.aload_n 2, 1) := bdL_law_732.2.2.2.2.2.1
theorem dL_law_741 : decode cL_law 741 = .ok (.aload_n 0, 1) := bdL_law_732.2.2.2.2.2.2.1
theorem dL_law_742 : decode cL_law 742 = .ok (.iload 4, 2) := bdL_law_732.2.2.2.2.2.2.2.1
theorem dL_law_744 : decode cL_law 744 = .ok (.iconst 1, 1) := bdL_law_732.2.2.2.2.2.2.2.2.1
theorem dL_law_745 : decode cL_law 745 = .ok (.iadd, 1) := bdL_law_732.2.2.2.2.2.2.2.2.2
theorem bdL_law_746 : (decode cL_law 746 = .ok (.iaload, 1)) ∧ (decode cL_law 747 = .ok (.invokevirtual 143, 3)) ∧ (decode cL_law 750 = .ok (.istore 6, 2)) ∧ (decode cL_law 752 = .ok (.aload_n 2, 1)) ∧ (decode cL_law 753 = .ok (.invokevirtual 112, 3)) ∧ (decode cL_law 756 = .ok (.iload 5, 2)) ∧ (decode cL_law 758 = .ok (.if_icmp .eq 5, 3)) ∧ (decode cL_law 761 = .ok (.iconst 0, 1)) ∧ (decode cL_law 762 = .ok (.ireturn, 1)) ∧ (decode cL_law 763 = .ok (.iload 5, 2)) := by decide +kernel
theorem dL_law_746 : decode cL_law 746 = .ok (.iaload, 1) := bdL_law_746.1
theorem dL_law_747 : decode cL_law 747 = .ok (.invokevirtual 143, 3) := bdL_law_746.2.1
theorem dL_law_750 : decode cL_law 750 = .ok (.istore 6, 2) := bdL_law_746.2.2.1
theorem dL_law_752 : decode cL_law 752 = .ok (.aload_n 2, 1) := bdL_law_746.2.2.2.1
theorem dL_law_753 : decode cL_law 753 = .ok (.invokevirtual 112, 3) := bdL_law_746.2.2.2.2.1
theorem dL_law_756 : decode cL_law 756 = .ok (.iload 5, 2) := bdL_law_746.2.2.2.2.2.1
theorem dL_law_758 : decode cL_law 758 = .ok (.if_icmp .eq 5, 3) := bdL_law_746.2.2.2.2.2.2.1
theorem dL_law_761 : decode cL_law 761 = .ok (.iconst 0, 1) := bdL_law_746.2.2.2.2.2.2.2.1
theorem dL_law_762 : decode cL_law 762 = .ok (.ireturn, 1) := bdL_law_746.2.2.2.2.2.2.2.2.1
theorem dL_law_763 : decode cL_law 763 = .ok (.iload 5, 2) := bdL_law_746.2.2.2.2.2.2.2.2.2
theorem bdL_law_765 : (decode cL_law 765 = .ok (.ifCond .ne 15, 3)) ∧ (decode cL_law 768 = .ok (.aload_n 3, 1)) ∧ (decode cL_law 769 = .ok (.iconst 0, 1)) ∧ (decode cL_law 770 = .ok (.laload, 1)) ∧ (decode cL_law 771 = .ok (.iload 6, 2)) ∧ (decode cL_law 773 = .ok (.i2l, 1)) ∧ (decode cL_law 774 = .ok (.lcmp, 1)) ∧ (decode cL_law 775 = .ok (.ifCond .eq 5, 3)) ∧ (decode cL_law 778 = .ok (.iconst 0, 1)) ∧ (decode cL_law 779 = .ok (.ireturn, 1)) := by decide +kernel
theorem dL_law_765 : decode cL_law 765 = .ok (.ifCond .ne 15, 3) := bdL_law_765.1
theorem dL_law_768 : decode cL_law 768 = .ok (.aload_n 3, 1) := bdL_law_765.2.1
theorem dL_law_769 : decode cL_law 769 = .ok (.iconst 0, 1) := bdL_law_765.2.2.1
theorem dL_law_770 : decode cL_law 770 = .ok (.laload, 1) := bdL_law_765.2.2.2.1
theorem dL_law_771 : decode cL_law 771 = .ok (.iload 6, 2) := bdL_law_765.2.2.2.2.1
theorem dL_law_773 : decode cL_law 773 = .ok (.i2l, 1) := bdL_law_765.2.2.2.2.2.1
theorem dL_law_774 : decode cL_law 774 = .ok (.lcmp, 1) := bdL_law_765.2.2.2.2.2.2.1
theorem dL_law_775 : decode cL_law 775 = .ok (.ifCond .eq 5, 3) := bdL_law_765.2.2.2.2.2.2.2.1
theorem dL_law_778 : decode cL_law 778 = .ok (.iconst 0, 1) := bdL_law_765.2.2.2.2.2.2.2.2.1
theorem dL_law_779 : decode cL_law 779 = .ok (.ireturn, 1) := bdL_law_765.2.2.2.2.2.2.2.2.2
theorem bdL_law_780 : (decode cL_law 780 = .ok (.goto 1429, 3)) ∧ (decode cL_law 783 = .ok (.aload_n 1, 1)) ∧ (decode cL_law 784 = .ok (.aload_n 0, 1)) ∧ (decode cL_law 785 = .ok (.iload 4, 2)) ∧ (decode cL_law 787 = .ok (.iconst 1, 1)) ∧ (decode cL_law 788 = .ok (.iadd, 1)) ∧ (decode cL_law 789 = .ok (.iaload, 1)) ∧ (decode cL_law 790 = .ok (.aload_n 0, 1)) ∧ (decode cL_law 791 = .ok (.iload 4, 2)) ∧ (decode cL_law 793 = .ok (.iconst 2, 1)) := by decide +kernel
theorem dL_law_780 : decode cL_law 780 = .ok (.goto 1429, 3) := bdL_law_780.1
theorem dL_law_783 : decode cL_law 783 = .ok (.aload_n 1, 1) := bdL_law_780.2.1
theorem dL_law_784 : decode cL_law 784 = .ok (.aload_n 0, 1) := bdL_law_780.2.2.1
theorem dL_law_785 : decode cL_law 785 = .ok (.iload 4, 2) := bdL_law_780.2.2.2.1
theorem dL_law_787 : decode cL_law 787 = .ok (.iconst 1, 1) := bdL_law_780.2.2.2.2.1
theorem dL_law_788 : decode cL_law 788 = .ok (.iadd, 1) := bdL_law_780.2.2.2.2.2.1
theorem dL_law_789 : decode cL_law 789 = .ok (.iaload, 1) := bdL_law_780.2.2.2.2.2.2.1
theorem dL_law_790 : decode cL_law 790 = .ok (.aload_n 0, 1) := bdL_law_780.2.2.2.2.2.2.2.1
theorem dL_law_791 : decode cL_law 791 = .ok (.iload 4, 2) := bdL_law_780.2.2.2.2.2.2.2.2.1
theorem dL_law_793 : decode cL_law 793 = .ok (.iconst 2, 1) := bdL_law_780.2.2.2.2.2.2.2.2.2
theorem bdL_law_794 : (decode cL_law 794 = .ok (.iadd, 1)) ∧ (decode cL_law 795 = .ok (.iaload, 1)) ∧ (decode cL_law 796 = .ok (.aload_n 3, 1)) ∧ (decode cL_law 797 = .ok (.invokestatic 144, 3)) ∧ (decode cL_law 800 = .ok (.istore 5, 2)) ∧ (decode cL_law 802 = .ok (.aload_n 2, 1)) ∧ (decode cL_law 803 = .ok (.aload_n 0, 1)) ∧ (decode cL_law 804 = .ok (.iload 4, 2)) ∧ (decode cL_law 806 = .ok (.iconst 1, 1)) ∧ (decode cL_law 807 = .ok (.iadd, 1)) := by decide +kernel
theorem dL_law_794 : decode cL_law 794 = .ok (.iadd, 1) := bdL_law_794.1
theorem dL_law_795 : decode cL_law 795 = .ok (.iaload, 1) := bdL_law_794.2.1
theorem dL_law_796 : decode cL_law 796 = .ok (.aload_n 3, 1) := bdL_law_794.2.2.1
theorem dL_law_797 : decode cL_law 797 = .ok (.invokestatic 144, 3) := bdL_law_794.2.2.2.1
theorem dL_law_800 : decode cL_law 800 = .ok (.istore 5, 2) := bdL_law_794.2.2.2.2.1
theorem dL_law_802 : decode cL_law 802 = .ok (.aload_n 2, 1) := bdL_law_794.2.2.2.2.2.1
theorem dL_law_803 : decode cL_law 803 = .ok (.aload_n 0, 1) := bdL_law_794.2.2.2.2.2.2.1
theorem dL_law_804 : decode cL_law 804 = .ok (.iload 4, 2) := bdL_law_794.2.2.2.2.2.2.2.1
theorem dL_law_806 : decode cL_law 806 = .ok (.iconst 1, 1) := bdL_law_794.2.2.2.2.2.2.2.2.1
theorem dL_law_807 : decode cL_law 807 = .ok (.iadd, 1) := bdL_law_794.2.2.2.2.2.2.2.2.2
theorem bdL_law_808 : (decode cL_law 808 = .ok (.iaload, 1)) ∧ (decode cL_law 809 = .ok (.aload_n 0, 1)) ∧ (decode cL_law 810 = .ok (.iload 4, 2)) ∧ (decode cL_law 812 = .ok (.iconst 2, 1)) ∧ (decode cL_law 813 = .ok (.iadd, 1)) ∧ (decode cL_law 814 = .ok (.iaload, 1)) ∧ (decode cL_law 815 = .ok (.invokevirtual 146, 3)) ∧ (decode cL_law 818 = .ok (.istore 6, 2)) ∧ (decode cL_law 820 = .ok (.aload_n 2, 1)) ∧ (decode cL_law 821 = .ok (.invokevirtual 112, 3)) := by decide +kernel
theorem dL_law_808 : decode cL_law 808 = .ok (.iaload, 1) := bdL_law_808.1
theorem dL_law_809 : decode cL_law 809 = .ok (.aload_n 0, 1) := bdL_law_808.2.1
theorem dL_law_810 : decode cL_law 810 = .ok (.iload 4, 2) := bdL_law_808.2.2.1
theorem dL_law_812 : decode cL_law 812 = .ok (.iconst 2, 1) := bdL_law_808.2.2.2.1
theorem dL_law_813 : decode cL_law 813 = .ok (.iadd, 1) := bdL_law_808.2.2.2.2.1
theorem dL_law_814 : decode cL_law 814 = .ok (.iaload, 1) := bdL_law_808.2.2.2.2.2.1
theorem dL_law_815 : decode cL_law 815 = .ok (.invokevirtual 146, 3) := bdL_law_808.2.2.2.2.2.2.1
theorem dL_law_818 : decode cL_law 818 = .ok (.istore 6, 2) := bdL_law_808.2.2.2.2.2.2.2.1
theorem dL_law_820 : decode cL_law 820 = .ok (.aload_n 2, 1) := bdL_law_808.2.2.2.2.2.2.2.2.1
theorem dL_law_821 : decode cL_law 821 = .ok (.invokevirtual 112, 3) := bdL_law_808.2.2.2.2.2.2.2.2.2
theorem bdL_law_824 : (decode cL_law 824 = .ok (.iload 5, 2)) ∧ (decode cL_law 826 = .ok (.if_icmp .eq 5, 3)) ∧ (decode cL_law 829 = .ok (.iconst 0, 1)) ∧ (decode cL_law 830 = .ok (.ireturn, 1)) ∧ (decode cL_law 831 = .ok (.iload 5, 2)) ∧ (decode cL_law 833 = .ok (.ifCond .ne 15, 3)) ∧ (decode cL_law 836 = .ok (.aload_n 3, 1)) ∧ (decode cL_law 837 = .ok (.iconst 0, 1)) ∧ (decode cL_law 838 = .ok (.laload, 1)) ∧ (decode cL_law 839 = .ok (.iload 6, 2)) := by decide +kernel
theorem dL_law_824 : decode cL_law 824 = .ok (.iload 5, 2) := bdL_law_824.1
theorem dL_law_826 : decode cL_law 826 = .ok (.if_icmp .eq 5, 3) := bdL_law_824.2.1
theorem dL_law_829 : decode cL_law 829 = .ok (.iconst 0, 1) := bdL_law_824.2.2.1
theorem dL_law_830 : decode cL_law 830 = .ok (.ireturn, 1) := bdL_law_824.2.2.2.1
theorem dL_law_831 : decode cL_law 831 = .ok (.iload 5, 2) := bdL_law_824.2.2.2.2.1
theorem dL_law_833 : decode cL_law 833 = .ok (.ifCond .ne 15, 3) := bdL_law_824.2.2.2.2.2.1
theorem dL_law_836 : decode cL_law 836 = .ok (.aload_n 3, 1) := bdL_law_824.2.2.2.2.2.2.1
theorem dL_law_837 : decode cL_law 837 = .ok (.iconst 0, 1) := bdL_law_824.2.2.2.2.2.2.2.1
theorem dL_law_838 : decode cL_law 838 = .ok (.laload, 1) := bdL_law_824.2.2.2.2.2.2.2.2.1
theorem dL_law_839 : decode cL_law 839 = .ok (.iload 6, 2) := bdL_law_824.2.2.2.2.2.2.2.2.2
theorem bdL_law_841 : (decode cL_law 841 = .ok (.i2l, 1)) ∧ (decode cL_law 842 = .ok (.lcmp, 1)) ∧ (decode cL_law 843 = .ok (.ifCond .eq 5, 3)) ∧ (decode cL_law 846 = .ok (.iconst 0, 1)) ∧ (decode cL_law 847 = .ok (.ireturn, 1)) ∧ (decode cL_law 848 = .ok (.goto 1361, 3)) ∧ (decode cL_law 851 = .ok (.aload_n 1, 1)) ∧ (decode cL_law 852 = .ok (.aload_n 0, 1)) ∧ (decode cL_law 853 = .ok (.iload 4, 2)) ∧ (decode cL_law 855 = .ok (.iconst 1, 1)) := by decide +kernel
theorem dL_law_841 : decode cL_law 841 = .ok (.i2l, 1) := bdL_law_841.1
theorem dL_law_842 : decode cL_law 842 = .ok (.lcmp, 1) := bdL_law_841.2.1
theorem dL_law_843 : decode cL_law 843 = .ok (.ifCond .eq 5, 3) := bdL_law_841.2.2.1
theorem dL_law_846 : decode cL_law 846 = .ok (.iconst 0, 1) := bdL_law_841.2.2.2.1
theorem dL_law_847 : decode cL_law 847 = .ok (.ireturn, 1) := bdL_law_841.2.2.2.2.1
theorem dL_law_848 : decode cL_law 848 = .ok (.goto 1361, 3) := bdL_law_841.2.2.2.2.2.1
theorem dL_law_851 : decode cL_law 851 = .ok (.aload_n 1, 1) := bdL_law_841.2.2.2.2.2.2.1
theorem dL_law_852 : decode cL_law 852 = .ok (.aload_n 0, 1) := bdL_law_841.2.2.2.2.2.2.2.1
theorem dL_law_853 : decode cL_law 853 = .ok (.iload 4, 2) := bdL_law_841.2.2.2.2.2.2.2.2.1
theorem dL_law_855 : decode cL_law 855 = .ok (.iconst 1, 1) := bdL_law_841.2.2.2.2.2.2.2.2.2
theorem bdL_law_856 : (decode cL_law 856 = .ok (.iadd, 1)) ∧ (decode cL_law 857 = .ok (.iaload, 1)) ∧ (decode cL_law 858 = .ok (.aload_n 0, 1)) ∧ (decode cL_law 859 = .ok (.iload 4, 2)) ∧ (decode cL_law 861 = .ok (.iconst 2, 1)) ∧ (decode cL_law 862 = .ok (.iadd, 1)) ∧ (decode cL_law 863 = .ok (.iaload, 1)) ∧ (decode cL_law 864 = .ok (.aload_n 3, 1)) ∧ (decode cL_law 865 = .ok (.invokestatic 147, 3)) ∧ (decode cL_law 868 = .ok (.istore 5, 2)) := by decide +kernel
theorem dL_law_856 : decode cL_law 856 = .ok (.iadd, 1) := bdL_law_856.1
theorem dL_law_857 : decode cL_law 857 = .ok (.iaload, 1) := bdL_law_856.2.1
theorem dL_law_858 : decode cL_law 858 = .ok (.aload_n 0, 1) := bdL_law_856.2.2.1
theorem dL_law_859 : decode cL_law 859 = .ok (.iload 4, 2) := bdL_law_856.2.2.2.1
theorem dL_law_861 : decode cL_law 861 = .ok (.iconst 2, 1) := bdL_law_856.2.2.2.2.1
theorem dL_law_862 : decode cL_law 862 = .ok (.iadd, 1) := bdL_law_856.2.2.2.2.2.1
theorem dL_law_863 : decode cL_law 863 = .ok (.iaload, 1) := bdL_law_856.2.2.2.2.2.2.1
theorem dL_law_864 : decode cL_law 864 = .ok (.aload_n 3, 1) := bdL_law_856.2.2.2.2.2.2.2.1
theorem dL_law_865 : decode cL_law 865 = .ok (.invokestatic 147, 3) := bdL_law_856.2.2.2.2.2.2.2.2.1
theorem dL_law_868 : decode cL_law 868 = .ok (.istore 5, 2) := bdL_law_856.2.2.2.2.2.2.2.2.2
theorem bdL_law_870 : (decode cL_law 870 = .ok (.aload_n 2, 1)) ∧ (decode cL_law 871 = .ok (.aload_n 0, 1)) ∧ (decode cL_law 872 = .ok (.iload 4, 2)) ∧ (decode cL_law 874 = .ok (.iconst 1, 1)) ∧ (decode cL_law 875 = .ok (.iadd, 1)) ∧ (decode cL_law 876 = .ok (.iaload, 1)) ∧ (decode cL_law 877 = .ok (.aload_n 0, 1)) ∧ (decode cL_law 878 = .ok (.iload 4, 2)) ∧ (decode cL_law 880 = .ok (.iconst 2, 1)) ∧ (decode cL_law 881 = .ok (.iadd, 1)) := by decide +kernel
theorem dL_law_870 : decode cL_law 870 = .ok (.aload_n 2, 1) := bdL_law_870.1
theorem dL_law_871 : decode cL_law 871 = .ok (.aload_n 0, 1) := bdL_law_870.2.1
theorem dL_law_872 : decode cL_law 872 = .ok (.iload 4, 2) := bdL_law_870.2.2.1
theorem dL_law_874 : decode cL_law 874 = .ok (.iconst 1, 1) := bdL_law_870.2.2.2.1
theorem dL_law_875 : decode cL_law 875 = .ok (.iadd, 1) := bdL_law_870.2.2.2.2.1
theorem dL_law_876 : decode cL_law 876 = .ok (.iaload, 1) := bdL_law_870.2.2.2.2.2.1
theorem dL_law_877 : decode cL_law 877 = .ok (.aload_n 0, 1) := bdL_law_870.2.2.2.2.2.2.1
theorem dL_law_878 : decode cL_law 878 = .ok (.iload 4, 2) := bdL_law_870.2.2.2.2.2.2.2.1
theorem dL_law_880 : decode cL_law 880 = .ok (.iconst 2, 1) := bdL_law_870.2.2.2.2.2.2.2.2.1
theorem dL_law_881 : decode cL_law 881 = .ok (.iadd, 1) := bdL_law_870.2.2.2.2.2.2.2.2.2
theorem bdL_law_882 : (decode cL_law 882 = .ok (.iaload, 1)) ∧ (decode cL_law 883 = .ok (.invokevirtual 149, 3)) ∧ (decode cL_law 886 = .ok (.istore 6, 2)) ∧ (decode cL_law 888 = .ok (.aload_n 2, 1)) ∧ (decode cL_law 889 = .ok (.invokevirtual 112, 3)) ∧ (decode cL_law 892 = .ok (.iload 5, 2)) ∧ (decode cL_law 894 = .ok (.if_icmp .eq 5, 3)) ∧ (decode cL_law 897 = .ok (.iconst 0, 1)) ∧ (decode cL_law 898 = .ok (.ireturn, 1)) ∧ (decode cL_law 899 = .ok (.iload 5, 2)) := by decide +kernel
theorem dL_law_882 : decode cL_law 882 = .ok (.iaload, 1) := bdL_law_882.1
theorem dL_law_883 : decode cL_law 883 = .ok (.invokevirtual 149, 3) := bdL_law_882.2.1
theorem dL_law_886 : decode cL_law 886 = .ok (.istore 6, 2) := bdL_law_882.2.2.1
theorem dL_law_888 : decode cL_law 888 = .ok (.aload_n 2, 1) := bdL_law_882.2.2.2.1
theorem dL_law_889 : decode cL_law 889 = .ok (.invokevirtual 112, 3) := bdL_law_882.2.2.2.2.1
theorem dL_law_892 : decode cL_law 892 = .ok (.iload 5, 2) := bdL_law_882.2.2.2.2.2.1
theorem dL_law_894 : decode cL_law 894 = .ok (.if_icmp .eq 5, 3) := bdL_law_882.2.2.2.2.2.2.1
theorem dL_law_897 : decode cL_law 897 = .ok (.iconst 0, 1) := bdL_law_882.2.2.2.2.2.2.2.1
theorem dL_law_898 : decode cL_law 898 = .ok (.ireturn, 1) := bdL_law_882.2.2.2.2.2.2.2.2.1
theorem dL_law_899 : decode cL_law 899 = .ok (.iload 5, 2) := bdL_law_882.2.2.2.2.2.2.2.2.2
theorem bdL_law_901 : (decode cL_law 901 = .ok (.ifCond .ne 22, 3)) ∧ (decode cL_law 904 = .ok (.aload_n 3, 1)) ∧ (decode cL_law 905 = .ok (.iconst 0, 1)) ∧ (decode cL_law 906 = .ok (.laload, 1)) ∧ (decode cL_law 907 = .ok (.iload 6, 2)) ∧ (decode cL_law 909 = .ok (.ifCond .eq 7, 3)) ∧ (decode cL_law 912 = .ok (.lconst 1, 1)) ∧ (decode cL_law 913 = .ok (.goto 4, 3)) ∧ (decode cL_law 916 = .ok (.lconst 0, 1)) ∧ (decode cL_law 917 = .ok (.lcmp, 1)) := by decide +kernel
theorem dL_law_901 : decode cL_law 901 = .ok (.ifCond .ne 22, 3) := bdL_law_901.1
theorem dL_law_904 : decode cL_law 904 = .ok (.aload_n 3, 1) := bdL_law_901.2.1
theorem dL_law_905 : decode cL_law 905 = .ok (.iconst 0, 1) := bdL_law_901.2.2.1
theorem dL_law_906 : decode cL_law 906 = .ok (.laload, 1) := bdL_law_901.2.2.2.1
theorem dL_law_907 : decode cL_law 907 = .ok (.iload 6, 2) := bdL_law_901.2.2.2.2.1
theorem dL_law_909 : decode cL_law 909 = .ok (.ifCond .eq 7, 3) := bdL_law_901.2.2.2.2.2.1
theorem dL_law_912 : decode cL_law 912 = .ok (.lconst 1, 1) := bdL_law_901.2.2.2.2.2.2.1
theorem dL_law_913 : decode cL_law 913 = .ok (.goto 4, 3) := bdL_law_901.2.2.2.2.2.2.2.1
theorem dL_law_916 : decode cL_law 916 = .ok (.lconst 0, 1) := bdL_law_901.2.2.2.2.2.2.2.2.1
theorem dL_law_917 : decode cL_law 917 = .ok (.lcmp, 1) := bdL_law_901.2.2.2.2.2.2.2.2.2
theorem bdL_law_918 : (decode cL_law 918 = .ok (.ifCond .eq 5, 3)) ∧ (decode cL_law 921 = .ok (.iconst 0, 1)) ∧ (decode cL_law 922 = .ok (.ireturn, 1)) ∧ (decode cL_law 923 = .ok (.goto 1286, 3)) ∧ (decode cL_law 926 = .ok (.aload_n 1, 1)) ∧ (decode cL_law 927 = .ok (.aload_n 0, 1)) ∧ (decode cL_law 928 = .ok (.iload 4, 2)) ∧ (decode cL_law 930 = .ok (.iconst 1, 1)) ∧ (decode cL_law 931 = .ok (.iadd, 1)) ∧ (decode cL_law 932 = .ok (.iaload, 1)) := by decide +kernel
theorem dL_law_918 : decode cL_law 918 = .ok (.ifCond .eq 5, 3) := bdL_law_918.1
theorem dL_law_921 : decode cL_law 921 = .ok (.iconst 0, 1) := bdL_law_918.2.1
theorem dL_law_922 : decode cL_law 922 = .ok (.ireturn, 1) := bdL_law_918.2.2.1
theorem dL_law_923 : decode cL_law 923 = .ok (.goto 1286, 3) := bdL_law_918.2.2.2.1
theorem dL_law_926 : decode cL_law 926 = .ok (.aload_n 1, 1) := bdL_law_918.2.2.2.2.1
theorem dL_law_927 : decode cL_law 927 = .ok (.aload_n 0, 1) := bdL_law_918.2.2.2.2.2.1
theorem dL_law_928 : decode cL_law 928 = .ok (.iload 4, 2) := bdL_law_918.2.2.2.2.2.2.1
theorem dL_law_930 : decode cL_law 930 = .ok (.iconst 1, 1) := bdL_law_918.2.2.2.2.2.2.2.1
theorem dL_law_931 : decode cL_law 931 = .ok (.iadd, 1) := bdL_law_918.2.2.2.2.2.2.2.2.1
theorem dL_law_932 : decode cL_law 932 = .ok (.iaload, 1) := bdL_law_918.2.2.2.2.2.2.2.2.2
theorem bdL_law_933 : (decode cL_law 933 = .ok (.aload_n 0, 1)) ∧ (decode cL_law 934 = .ok (.iload 4, 2)) ∧ (decode cL_law 936 = .ok (.iconst 2, 1)) ∧ (decode cL_law 937 = .ok (.iadd, 1)) ∧ (decode cL_law 938 = .ok (.iaload, 1)) ∧ (decode cL_law 939 = .ok (.invokevirtual 150, 3)) ∧ (decode cL_law 942 = .ok (.aload_n 2, 1)) ∧ (decode cL_law 943 = .ok (.aload_n 0, 1)) ∧ (decode cL_law 944 = .ok (.iload 4, 2)) ∧ (decode cL_law 946 = .ok (.iconst 1, 1)) := by decide +kernel
theorem dL_law_933 : decode cL_law 933 = .ok (.aload_n 0, 1) := bdL_law_933.1
theorem dL_law_934 : decode cL_law 934 = .ok (.iload 4, 2) := bdL_law_933.2.1
theorem dL_law_936 : decode cL_law 936 = .ok (.iconst 2, 1) := bdL_law_933.2.2.1
theorem dL_law_937 : decode cL_law 937 = .ok (.iadd, 1) := bdL_law_933.2.2.2.1
theorem dL_law_938 : decode cL_law 938 = .ok (.iaload, 1) := bdL_law_933.2.2.2.2.1
theorem dL_law_939 : decode cL_law 939 = .ok (.invokevirtual 150, 3) := bdL_law_933.2.2.2.2.2.1
theorem dL_law_942 : decode cL_law 942 = .ok (.aload_n 2, 1) := bdL_law_933.2.2.2.2.2.2.1
theorem dL_law_943 : decode cL_law 943 = .ok (.aload_n 0, 1) := bdL_law_933.2.2.2.2.2.2.2.1
theorem dL_law_944 : decode cL_law 944 = .ok (.iload 4, 2) := bdL_law_933.2.2.2.2.2.2.2.2.1
theorem dL_law_946 : decode cL_law 946 = .ok (.iconst 1, 1) := bdL_law_933.2.2.2.2.2.2.2.2.2
theorem bdL_law_947 : (decode cL_law 947 = .ok (.iadd, 1)) ∧ (decode cL_law 948 = .ok (.iaload, 1)) ∧ (decode cL_law 949 = .ok (.aload_n 0, 1)) ∧ (decode cL_law 950 = .ok (.iload 4, 2)) ∧ (decode cL_law 952 = .ok (.iconst 2, 1)) ∧ (decode cL_law 953 = .ok (.iadd, 1)) ∧ (decode cL_law 954 = .ok (.iaload, 1)) ∧ (decode cL_law 955 = .ok (.invokevirtual 153, 3)) ∧ (decode cL_law 958 = .ok (.if_icmp .eq 1251, 3)) ∧ (decode cL_law 961 = .ok (.iconst 0, 1)) := by decide +kernel
theorem dL_law_947 : decode cL_law 947 = .ok (.iadd, 1) := bdL_law_947.1
theorem dL_law_948 : decode cL_law 948 = .ok (.iaload, 1) := bdL_law_947.2.1
theorem dL_law_949 : decode cL_law 949 = .ok (.aload_n 0, 1) := bdL_law_947.2.2.1
theorem dL_law_950 : decode cL_law 950 = .ok (.iload 4, 2) := bdL_law_947.2.2.2.1
theorem dL_law_952 : decode cL_law 952 = .ok (.iconst 2, 1) := bdL_law_947.2.2.2.2.1
theorem dL_law_953 : decode cL_law 953 = .ok (.iadd, 1) := bdL_law_947.2.2.2.2.2.1
theorem dL_law_954 : decode cL_law 954 = .ok (.iaload, 1) := bdL_law_947.2.2.2.2.2.2.1
theorem dL_law_955 : decode cL_law 955 = .ok (.invokevirtual 153, 3) := bdL_law_947.2.2.2.2.2.2.2.1
theorem dL_law_958 : decode cL_law 958 = .ok (.if_icmp .eq 1251, 3) := bdL_law_947.2.2.2.2.2.2.2.2.1
theorem dL_law_961 : decode cL_law 961 = .ok (.iconst 0, 1) := bdL_law_947.2.2.2.2.2.2.2.2.2
theorem bdL_law_962 : (decode cL_law 962 = .ok (.ireturn, 1)) ∧ (decode cL_law 963 = .ok (.aload_n 1, 1)) ∧ (decode cL_law 964 = .ok (.aload_n 0, 1)) ∧ (decode cL_law 965 = .ok (.iload 4, 2)) ∧ (decode cL_law 967 = .ok (.iconst 1, 1)) ∧ (decode cL_law 968 = .ok (.iadd, 1)) ∧ (decode cL_law 969 = .ok (.iaload, 1)) ∧ (decode cL_law 970 = .ok (.invokevirtual 154, 3)) ∧ (decode cL_law 973 = .ok (.aload_n 2, 1)) ∧ (decode cL_law 974 = .ok (.aload_n 0, 1)) := by decide +kernel
theorem dL_law_962 : decode cL_law 962 = .ok (.ireturn, 1) := bdL_law_962.1
theorem dL_law_963 : decode cL_law 963 = .ok (.aload_n 1, 1) := bdL_law_962.2.1
theorem dL_law_964 : decode cL_law 964 = .ok (.aload_n 0, 1) := bdL_law_962.2.2.1
theorem dL_law_965 : decode cL_law 965 = .ok (.iload 4, 2) := bdL_law_962.2.2.2.1
theorem dL_law_967 : decode cL_law 967 = .ok (.iconst 1, 1) := bdL_law_962.2.2.2.2.1
theorem dL_law_968 : decode cL_law 968 = .ok (.iadd, 1) := bdL_law_962.2.2.2.2.2.1
theorem dL_law_969 : decode cL_law 969 = .ok (.iaload, 1) := bdL_law_962.2.2.2.2.2.2.1
theorem dL_law_970 : decode cL_law 970 = .ok (.invokevirtual 154, 3) := bdL_law_962.2.2.2.2.2.2.2.1
theorem dL_law_973 : decode cL_law 973 = .ok (.aload_n 2, 1) := bdL_law_962.2.2.2.2.2.2.2.2.1
theorem dL_law_974 : decode cL_law 974 = .ok (.aload_n 0, 1) := bdL_law_962.2.2.2.2.2.2.2.2.2
theorem bdL_law_975 : (decode cL_law 975 = .ok (.iload 4, 2)) ∧ (decode cL_law 977 = .ok (.iconst 1, 1)) ∧ (decode cL_law 978 = .ok (.iadd, 1)) ∧ (decode cL_law 979 = .ok (.iaload, 1)) ∧ (decode cL_law 980 = .ok (.invokevirtual 157, 3)) ∧ (decode cL_law 983 = .ok (.if_icmp .eq 1226, 3)) ∧ (decode cL_law 986 = .ok (.iconst 0, 1)) ∧ (decode cL_law 987 = .ok (.ireturn, 1)) ∧ (decode cL_law 988 = .ok (.aload_n 1, 1)) ∧ (decode cL_law 989 = .ok (.invokevirtual 158, 3)) := by decide +kernel
theorem dL_law_975 : decode cL_law 975 = .ok (.iload 4, 2) := bdL_law_975.1
theorem dL_law_977 : decode cL_law 977 = .ok (.iconst 1, 1) := bdL_law_975.2.1
theorem dL_law_978 : decode cL_law 978 = .ok (.iadd, 1) := bdL_law_975.2.2.1
theorem dL_law_979 : decode cL_law 979 = .ok (.iaload, 1) := bdL_law_975.2.2.2.1
theorem dL_law_980 : decode cL_law 980 = .ok (.invokevirtual 157, 3) := bdL_law_975.2.2.2.2.1
theorem dL_law_983 : decode cL_law 983 = .ok (.if_icmp .eq 1226, 3) := bdL_law_975.2.2.2.2.2.1
theorem dL_law_986 : decode cL_law 986 = .ok (.iconst 0, 1) := bdL_law_975.2.2.2.2.2.2.1
theorem dL_law_987 : decode cL_law 987 = .ok (.ireturn, 1) := bdL_law_975.2.2.2.2.2.2.2.1
theorem dL_law_988 : decode cL_law 988 = .ok (.aload_n 1, 1) := bdL_law_975.2.2.2.2.2.2.2.2.1
theorem dL_law_989 : decode cL_law 989 = .ok (.invokevirtual 158, 3) := bdL_law_975.2.2.2.2.2.2.2.2.2
theorem bdL_law_992 : (decode cL_law 992 = .ok (.aload_n 2, 1)) ∧ (decode cL_law 993 = .ok (.invokevirtual 161, 3)) ∧ (decode cL_law 996 = .ok (.if_icmp .eq 1213, 3)) ∧ (decode cL_law 999 = .ok (.iconst 0, 1)) ∧ (decode cL_law 1000 = .ok (.ireturn, 1)) ∧ (decode cL_law 1001 = .ok (.aload_n 1, 1)) ∧ (decode cL_law 1002 = .ok (.invokevirtual 162, 3)) ∧ (decode cL_law 1005 = .ok (.aload_n 2, 1)) ∧ (decode cL_law 1006 = .ok (.invokevirtual 165, 3)) ∧ (decode cL_law 1009 = .ok (.if_icmp .eq 1200, 3)) := by decide +kernel
theorem dL_law_992 : decode cL_law 992 = .ok (.aload_n 2, 1) := bdL_law_992.1
theorem dL_law_993 : decode cL_law 993 = .ok (.invokevirtual 161, 3) := bdL_law_992.2.1
theorem dL_law_996 : decode cL_law 996 = .ok (.if_icmp .eq 1213, 3) := bdL_law_992.2.2.1
theorem dL_law_999 : decode cL_law 999 = .ok (.iconst 0, 1) := bdL_law_992.2.2.2.1
theorem dL_law_1000 : decode cL_law 1000 = .ok (.ireturn, 1) := bdL_law_992.2.2.2.2.1
theorem dL_law_1001 : decode cL_law 1001 = .ok (.aload_n 1, 1) := bdL_law_992.2.2.2.2.2.1
theorem dL_law_1002 : decode cL_law 1002 = .ok (.invokevirtual 162, 3) := bdL_law_992.2.2.2.2.2.2.1
theorem dL_law_1005 : decode cL_law 1005 = .ok (.aload_n 2, 1) := bdL_law_992.2.2.2.2.2.2.2.1
theorem dL_law_1006 : decode cL_law 1006 = .ok (.invokevirtual 165, 3) := bdL_law_992.2.2.2.2.2.2.2.2.1
theorem dL_law_1009 : decode cL_law 1009 = .ok (.if_icmp .eq 1200, 3) := bdL_law_992.2.2.2.2.2.2.2.2.2
theorem bdL_law_1012 : (decode cL_law 1012 = .ok (.iconst 0, 1)) ∧ (decode cL_law 1013 = .ok (.ireturn, 1)) ∧ (decode cL_law 1014 = .ok (.aload_n 1, 1)) ∧ (decode cL_law 1015 = .ok (.aload_n 0, 1)) ∧ (decode cL_law 1016 = .ok (.iload 4, 2)) ∧ (decode cL_law 1018 = .ok (.iconst 1, 1)) ∧ (decode cL_law 1019 = .ok (.iadd, 1)) ∧ (decode cL_law 1020 = .ok (.iaload, 1)) ∧ (decode cL_law 1021 = .ok (.aload_n 3, 1)) ∧ (decode cL_law 1022 = .ok (.invokestatic 166, 3)) := by decide +kernel
theorem dL_law_1012 : decode cL_law 1012 = .ok (.iconst 0, 1) := bdL_law_1012.1
theorem dL_law_1013 : decode cL_law 1013 = .ok (.ireturn, 1) := bdL_law_1012.2.1
theorem dL_law_1014 : decode cL_law 1014 = .ok (.aload_n 1, 1) := bdL_law_1012.2.2.1
theorem dL_law_1015 : decode cL_law 1015 = .ok (.aload_n 0, 1) := bdL_law_1012.2.2.2.1
theorem dL_law_1016 : decode cL_law 1016 = .ok (.iload 4, 2) := bdL_law_1012.2.2.2.2.1
theorem dL_law_1018 : decode cL_law 1018 = .ok (.iconst 1, 1) := bdL_law_1012.2.2.2.2.2.1
theorem dL_law_1019 : decode cL_law 1019 = .ok (.iadd, 1) := bdL_law_1012.2.2.2.2.2.2.1
theorem dL_law_1020 : decode cL_law 1020 = .ok (.iaload, 1) := bdL_law_1012.2.2.2.2.2.2.2.1
theorem dL_law_1021 : decode cL_law 1021 = .ok (.aload_n 3, 1) := bdL_law_1012.2.2.2.2.2.2.2.2.1
theorem dL_law_1022 : decode cL_law 1022 = .ok (.invokestatic 166, 3) := bdL_law_1012.2.2.2.2.2.2.2.2.2
theorem bdL_law_1025 : (decode cL_law 1025 = .ok (.istore 5, 2)) ∧ (decode cL_law 1027 = .ok (.aload_n 2, 1)) ∧ (decode cL_law 1028 = .ok (.aload_n 0, 1)) ∧ (decode cL_law 1029 = .ok (.iload 4, 2)) ∧ (decode cL_law 1031 = .ok (.iconst 1, 1)) ∧ (decode cL_law 1032 = .ok (.iadd, 1)) ∧ (decode cL_law 1033 = .ok (.iaload, 1)) ∧ (decode cL_law 1034 = .ok (.invokevirtual 168, 3)) ∧ (decode cL_law 1037 = .ok (.lstore 6, 2)) ∧ (decode cL_law 1039 = .ok (.aload_n 2, 1)) := by decide +kernel
theorem dL_law_1025 : decode cL_law 1025 = .ok (.istore 5, 2) := bdL_law_1025.1
theorem dL_law_1027 : decode cL_law 1027 = .ok (.aload_n 2, 1) := bdL_law_1025.2.1
theorem dL_law_1028 : decode cL_law 1028 = .ok (.aload_n 0, 1) := bdL_law_1025.2.2.1
theorem dL_law_1029 : decode cL_law 1029 = .ok (.iload 4, 2) := bdL_law_1025.2.2.2.1
theorem dL_law_1031 : decode cL_law 1031 = .ok (.iconst 1, 1) := bdL_law_1025.2.2.2.2.1
theorem dL_law_1032 : decode cL_law 1032 = .ok (.iadd, 1) := bdL_law_1025.2.2.2.2.2.1
theorem dL_law_1033 : decode cL_law 1033 = .ok (.iaload, 1) := bdL_law_1025.2.2.2.2.2.2.1
theorem dL_law_1034 : decode cL_law 1034 = .ok (.invokevirtual 168, 3) := bdL_law_1025.2.2.2.2.2.2.2.1
theorem dL_law_1037 : decode cL_law 1037 = .ok (.lstore 6, 2) := bdL_law_1025.2.2.2.2.2.2.2.2.1
theorem dL_law_1039 : decode cL_law 1039 = .ok (.aload_n 2, 1) := bdL_law_1025.2.2.2.2.2.2.2.2.2
theorem bdL_law_1040 : (decode cL_law 1040 = .ok (.invokevirtual 112, 3)) ∧ (decode cL_law 1043 = .ok (.iload 5, 2)) ∧ (decode cL_law 1045 = .ok (.if_icmp .eq 5, 3)) ∧ (decode cL_law 1048 = .ok (.iconst 0, 1)) ∧ (decode cL_law 1049 = .ok (.ireturn, 1)) ∧ (decode cL_law 1050 = .ok (.iload 5, 2)) ∧ (decode cL_law 1052 = .ok (.ifCond .ne 14, 3)) ∧ (decode cL_law 1055 = .ok (.aload_n 3, 1)) ∧ (decode cL_law 1056 = .ok (.iconst 0, 1)) ∧ (decode cL_law 1057 = .ok (.laload, 1)) := by decide +kernel
theorem dL_law_1040 : decode cL_law 1040 = .ok (.invokevirtual 112, 3) := bdL_law_1040.1
theorem dL_law_1043 : decode cL_law 1043 = .ok (.iload 5, 2) := bdL_law_1040.2.1
theorem dL_law_1045 : decode cL_law 1045 = .ok (.if_icmp .eq 5, 3) := bdL_law_1040.2.2.1
theorem dL_law_1048 : decode cL_law 1048 = .ok (.iconst 0, 1) := bdL_law_1040.2.2.2.1
theorem dL_law_1049 : decode cL_law 1049 = .ok (.ireturn, 1) := bdL_law_1040.2.2.2.2.1
theorem dL_law_1050 : decode cL_law 1050 = .ok (.iload 5, 2) := bdL_law_1040.2.2.2.2.2.1
theorem dL_law_1052 : decode cL_law 1052 = .ok (.ifCond .ne 14, 3) := bdL_law_1040.2.2.2.2.2.2.1
theorem dL_law_1055 : decode cL_law 1055 = .ok (.aload_n 3, 1) := bdL_law_1040.2.2.2.2.2.2.2.1
theorem dL_law_1056 : decode cL_law 1056 = .ok (.iconst 0, 1) := bdL_law_1040.2.2.2.2.2.2.2.2.1
theorem dL_law_1057 : decode cL_law 1057 = .ok (.laload, 1) := bdL_law_1040.2.2.2.2.2.2.2.2.2
theorem bdL_law_1058 : (decode cL_law 1058 = .ok (.lload 6, 2)) ∧ (decode cL_law 1060 = .ok (.lcmp, 1)) ∧ (decode cL_law 1061 = .ok (.ifCond .eq 5, 3)) ∧ (decode cL_law 1064 = .ok (.iconst 0, 1)) ∧ (decode cL_law 1065 = .ok (.ireturn, 1)) ∧ (decode cL_law 1066 = .ok (.goto 1143, 3)) ∧ (decode cL_law 1069 = .ok (.aload_n 1, 1)) ∧ (decode cL_law 1070 = .ok (.aload_n 0, 1)) ∧ (decode cL_law 1071 = .ok (.iload 4, 2)) ∧ (decode cL_law 1073 = .ok (.iconst 1, 1)) := by decide +kernel
theorem dL_law_1058 : decode cL_law 1058 = .ok (.lload 6, 2) := bdL_law_1058.1
theorem dL_law_1060 : decode cL_law 1060 = .ok (.lcmp, 1) := bdL_law_1058.2.1
theorem dL_law_1061 : decode cL_law 1061 = .ok (.ifCond .eq 5, 3) := bdL_law_1058.2.2.1
theorem dL_law_1064 : decode cL_law 1064 = .ok (.iconst 0, 1) := bdL_law_1058.2.2.2.1
theorem dL_law_1065 : decode cL_law 1065 = .ok (.ireturn, 1) := bdL_law_1058.2.2.2.2.1
theorem dL_law_1066 : decode cL_law 1066 = .ok (.goto 1143, 3) := bdL_law_1058.2.2.2.2.2.1
theorem dL_law_1069 : decode cL_law 1069 = .ok (.aload_n 1, 1) := bdL_law_1058.2.2.2.2.2.2.1
theorem dL_law_1070 : decode cL_law 1070 = .ok (.aload_n 0, 1) := bdL_law_1058.2.2.2.2.2.2.2.1
theorem dL_law_1071 : decode cL_law 1071 = .ok (.iload 4, 2) := bdL_law_1058.2.2.2.2.2.2.2.2.1
theorem dL_law_1073 : decode cL_law 1073 = .ok (.iconst 1, 1) := bdL_law_1058.2.2.2.2.2.2.2.2.2
theorem bdL_law_1074 : (decode cL_law 1074 = .ok (.iadd, 1)) ∧ (decode cL_law 1075 = .ok (.iaload, 1)) ∧ (decode cL_law 1076 = .ok (.aload_n 3, 1)) ∧ (decode cL_law 1077 = .ok (.invokestatic 169, 3)) ∧ (decode cL_law 1080 = .ok (.istore 5, 2)) ∧ (decode cL_law 1082 = .ok (.aload_n 2, 1)) ∧ (decode cL_law 1083 = .ok (.aload_n 0, 1)) ∧ (decode cL_law 1084 = .ok (.iload 4, 2)) ∧ (decode cL_law 1086 = .ok (.iconst 1, 1)) ∧ (decode cL_law 1087 = .ok (.iadd, 1)) := by decide +kernel
theorem dL_law_1074 : decode cL_law 1074 = .ok (.iadd, 1) := bdL_law_1074.1
theorem dL_law_1075 : decode cL_law 1075 = .ok (.iaload, 1) := bdL_law_1074.2.1
theorem dL_law_1076 : decode cL_law 1076 = .ok (.aload_n 3, 1) := bdL_law_1074.2.2.1
theorem dL_law_1077 : decode cL_law 1077 = .ok (.invokestatic 169, 3) := bdL_law_1074.2.2.2.1
theorem dL_law_1080 : decode cL_law 1080 = .ok (.istore 5, 2) := bdL_law_1074.2.2.2.2.1
theorem dL_law_1082 : decode cL_law 1082 = .ok (.aload_n 2, 1) := bdL_law_1074.2.2.2.2.2.1
theorem dL_law_1083 : decode cL_law 1083 = .ok (.aload_n 0, 1) := bdL_law_1074.2.2.2.2.2.2.1
theorem dL_law_1084 : decode cL_law 1084 = .ok (.iload 4, 2) := bdL_law_1074.2.2.2.2.2.2.2.1
theorem dL_law_1086 : decode cL_law 1086 = .ok (.iconst 1, 1) := bdL_law_1074.2.2.2.2.2.2.2.2.1
theorem dL_law_1087 : decode cL_law 1087 = .ok (.iadd, 1) := bdL_law_1074.2.2.2.2.2.2.2.2.2
theorem bdL_law_1088 : (decode cL_law 1088 = .ok (.iaload, 1)) ∧ (decode cL_law 1089 = .ok (.invokevirtual 171, 3)) ∧ (decode cL_law 1092 = .ok (.istore 6, 2)) ∧ (decode cL_law 1094 = .ok (.aload_n 2, 1)) ∧ (decode cL_law 1095 = .ok (.invokevirtual 112, 3)) ∧ (decode cL_law 1098 = .ok (.iload 5, 2)) ∧ (decode cL_law 1100 = .ok (.if_icmp .eq 5, 3)) ∧ (decode cL_law 1103 = .ok (.iconst 0, 1)) ∧ (decode cL_law 1104 = .ok (.ireturn, 1)) ∧ (decode cL_law 1105 = .ok (.iload 5, 2)) := by decide +kernel
theorem dL_law_1088 : decode cL_law 1088 = .ok (.iaload, 1) := bdL_law_1088.1
theorem dL_law_1089 : decode cL_law 1089 = .ok (.invokevirtual 171, 3) := bdL_law_1088.2.1
theorem dL_law_1092 : decode cL_law 1092 = .ok (.istore 6, 2) := bdL_law_1088.2.2.1
theorem dL_law_1094 : decode cL_law 1094 = .ok (.aload_n 2, 1) := bdL_law_1088.2.2.2.1
theorem dL_law_1095 : decode cL_law 1095 = .ok (.invokevirtual 112, 3) := bdL_law_1088.2.2.2.2.1
theorem dL_law_1098 : decode cL_law 1098 = .ok (.iload 5, 2) := bdL_law_1088.2.2.2.2.2.1
theorem dL_law_1100 : decode cL_law 1100 = .ok (.if_icmp .eq 5, 3) := bdL_law_1088.2.2.2.2.2.2.1
theorem dL_law_1103 : decode cL_law 1103 = .ok (.iconst 0, 1) := bdL_law_1088.2.2.2.2.2.2.2.1
theorem dL_law_1104 : decode cL_law 1104 = .ok (.ireturn, 1) := bdL_law_1088.2.2.2.2.2.2.2.2.1
theorem dL_law_1105 : decode cL_law 1105 = .ok (.iload 5, 2) := bdL_law_1088.2.2.2.2.2.2.2.2.2
theorem bdL_law_1107 : (decode cL_law 1107 = .ok (.ifCond .ne 15, 3)) ∧ (decode cL_law 1110 = .ok (.aload_n 3, 1)) ∧ (decode cL_law 1111 = .ok (.iconst 0, 1)) ∧ (decode cL_law 1112 = .ok (.laload, 1)) ∧ (decode cL_law 1113 = .ok (.iload 6, 2)) ∧ (decode cL_law 1115 = .ok (.i2l, 1)) ∧ (decode cL_law 1116 = .ok (.lcmp, 1)) ∧ (decode cL_law 1117 = .ok (.ifCond .eq 5, 3)) ∧ (decode cL_law 1120 = .ok (.iconst 0, 1)) ∧ (decode cL_law 1121 = .ok (.ireturn, 1)) := by decide +kernel
theorem dL_law_1107 : decode cL_law 1107 = .ok (.ifCond .ne 15, 3) := bdL_law_1107.1
theorem dL_law_1110 : decode cL_law 1110 = .ok (.aload_n 3, 1) := bdL_law_1107.2.1
theorem dL_law_1111 : decode cL_law 1111 = .ok (.iconst 0, 1) := bdL_law_1107.2.2.1
theorem dL_law_1112 : decode cL_law 1112 = .ok (.laload, 1) := bdL_law_1107.2.2.2.1
theorem dL_law_1113 : decode cL_law 1113 = .ok (.iload 6, 2) := bdL_law_1107.2.2.2.2.1
theorem dL_law_1115 : decode cL_law 1115 = .ok (.i2l, 1) := bdL_law_1107.2.2.2.2.2.1
theorem dL_law_1116 : decode cL_law 1116 = .ok (.lcmp, 1) := bdL_law_1107.2.2.2.2.2.2.1
theorem dL_law_1117 : decode cL_law 1117 = .ok (.ifCond .eq 5, 3) := bdL_law_1107.2.2.2.2.2.2.2.1
theorem dL_law_1120 : decode cL_law 1120 = .ok (.iconst 0, 1) := bdL_law_1107.2.2.2.2.2.2.2.2.1
theorem dL_law_1121 : decode cL_law 1121 = .ok (.ireturn, 1) := bdL_law_1107.2.2.2.2.2.2.2.2.2
theorem bdL_law_1122 : (decode cL_law 1122 = .ok (.goto 1087, 3)) ∧ (decode cL_law 1125 = .ok (.aload_n 1, 1)) ∧ (decode cL_law 1126 = .ok (.invokevirtual 172, 3)) ∧ (decode cL_law 1129 = .ok (.aload_n 2, 1)) ∧ (decode cL_law 1130 = .ok (.invokevirtual 175, 3)) ∧ (decode cL_law 1133 = .ok (.if_icmp .eq 1076, 3)) ∧ (decode cL_law 1136 = .ok (.iconst 0, 1)) ∧ (decode cL_law 1137 = .ok (.ireturn, 1)) ∧ (decode cL_law 1138 = .ok (.aload_n 1, 1)) ∧ (decode cL_law 1139 = .ok (.invokevirtual 176, 3)) := by decide +kernel
theorem dL_law_1122 : decode cL_law 1122 = .ok (.goto 1087, 3) := bdL_law_1122.1
theorem dL_law_1125 : decode cL_law 1125 = .ok (.aload_n 1, 1) := bdL_law_1122.2.1
theorem dL_law_1126 : decode cL_law 1126 = .ok (.invokevirtual 172, 3) := bdL_law_1122.2.2.1
theorem dL_law_1129 : decode cL_law 1129 = .ok (.aload_n 2, 1) := bdL_law_1122.2.2.2.1
theorem dL_law_1130 : decode cL_law 1130 = .ok (.invokevirtual 175, 3) := bdL_law_1122.2.2.2.2.1
theorem dL_law_1133 : decode cL_law 1133 = .ok (.if_icmp .eq 1076, 3) := bdL_law_1122.2.2.2.2.2.1
theorem dL_law_1136 : decode cL_law 1136 = .ok (.iconst 0, 1) := bdL_law_1122.2.2.2.2.2.2.1
theorem dL_law_1137 : decode cL_law 1137 = .ok (.ireturn, 1) := bdL_law_1122.2.2.2.2.2.2.2.1
theorem dL_law_1138 : decode cL_law 1138 = .ok (.aload_n 1, 1) := bdL_law_1122.2.2.2.2.2.2.2.2.1
theorem dL_law_1139 : decode cL_law 1139 = .ok (.invokevirtual 176, 3) := bdL_law_1122.2.2.2.2.2.2.2.2.2
theorem bdL_law_1142 : (decode cL_law 1142 = .ok (.aload_n 2, 1)) ∧ (decode cL_law 1143 = .ok (.invokevirtual 179, 3)) ∧ (decode cL_law 1146 = .ok (.if_icmp .eq 1063, 3)) ∧ (decode cL_law 1149 = .ok (.iconst 0, 1)) ∧ (decode cL_law 1150 = .ok (.ireturn, 1)) ∧ (decode cL_law 1151 = .ok (.aload_n 1, 1)) ∧ (decode cL_law 1152 = .ok (.aload_n 0, 1)) ∧ (decode cL_law 1153 = .ok (.iload 4, 2)) ∧ (decode cL_law 1155 = .ok (.iconst 1, 1)) ∧ (decode cL_law 1156 = .ok (.iadd, 1)) := by decide +kernel
theorem dL_law_1142 : decode cL_law 1142 = .ok (.aload_n 2, 1) := bdL_law_1142.1
theorem dL_law_1143 : decode cL_law 1143 = .ok (.invokevirtual 179, 3) := bdL_law_1142.2.1
theorem dL_law_1146 : decode cL_law 1146 = .ok (.if_icmp .eq 1063, 3) := bdL_law_1142.2.2.1
theorem dL_law_1149 : decode cL_law 1149 = .ok (.iconst 0, 1) := bdL_law_1142.2.2.2.1
theorem dL_law_1150 : decode cL_law 1150 = .ok (.ireturn, 1) := bdL_law_1142.2.2.2.2.1
theorem dL_law_1151 : decode cL_law 1151 = .ok (.aload_n 1, 1) := bdL_law_1142.2.2.2.2.2.1
theorem dL_law_1152 : decode cL_law 1152 = .ok (.aload_n 0, 1) := bdL_law_1142.2.2.2.2.2.2.1
theorem dL_law_1153 : decode cL_law 1153 = .ok (.iload 4, 2) := bdL_law_1142.2.2.2.2.2.2.2.1
theorem dL_law_1155 : decode cL_law 1155 = .ok (.iconst 1, 1) := bdL_law_1142.2.2.2.2.2.2.2.2.1
theorem dL_law_1156 : decode cL_law 1156 = .ok (.iadd, 1) := bdL_law_1142.2.2.2.2.2.2.2.2.2
theorem bdL_law_1157 : (decode cL_law 1157 = .ok (.iaload, 1)) ∧ (decode cL_law 1158 = .ok (.aload_n 0, 1)) ∧ (decode cL_law 1159 = .ok (.iload 4, 2)) ∧ (decode cL_law 1161 = .ok (.iconst 2, 1)) ∧ (decode cL_law 1162 = .ok (.iadd, 1)) ∧ (decode cL_law 1163 = .ok (.iaload, 1)) ∧ (decode cL_law 1164 = .ok (.aload_n 3, 1)) ∧ (decode cL_law 1165 = .ok (.invokestatic 180, 3)) ∧ (decode cL_law 1168 = .ok (.istore 5, 2)) ∧ (decode cL_law 1170 = .ok (.aload_n 2, 1)) := by decide +kernel
theorem dL_law_1157 : decode cL_law 1157 = .ok (.iaload, 1) := bdL_law_1157.1
theorem dL_law_1158 : decode cL_law 1158 = .ok (.aload_n 0, 1) := bdL_law_1157.2.1
theorem dL_law_1159 : decode cL_law 1159 = .ok (.iload 4, 2) := bdL_law_1157.2.2.1
theorem dL_law_1161 : decode cL_law 1161 = .ok (.iconst 2, 1) := bdL_law_1157.2.2.2.1
theorem dL_law_1162 : decode cL_law 1162 = .ok (.iadd, 1) := bdL_law_1157.2.2.2.2.1
theorem dL_law_1163 : decode cL_law 1163 = .ok (.iaload, 1) := bdL_law_1157.2.2.2.2.2.1
theorem dL_law_1164 : decode cL_law 1164 = .ok (.aload_n 3, 1) := bdL_law_1157.2.2.2.2.2.2.1
theorem dL_law_1165 : decode cL_law 1165 = .ok (.invokestatic 180, 3) := bdL_law_1157.2.2.2.2.2.2.2.1
theorem dL_law_1168 : decode cL_law 1168 = .ok (.istore 5, 2) := bdL_law_1157.2.2.2.2.2.2.2.2.1
theorem dL_law_1170 : decode cL_law 1170 = .ok (.aload_n 2, 1) := bdL_law_1157.2.2.2.2.2.2.2.2.2
theorem bdL_law_1171 : (decode cL_law 1171 = .ok (.aload_n 0, 1)) ∧ (decode cL_law 1172 = .ok (.iload 4, 2)) ∧ (decode cL_law 1174 = .ok (.iconst 1, 1)) ∧ (decode cL_law 1175 = .ok (.iadd, 1)) ∧ (decode cL_law 1176 = .ok (.iaload, 1)) ∧ (decode cL_law 1177 = .ok (.aload_n 0, 1)) ∧ (decode cL_law 1178 = .ok (.iload 4, 2)) ∧ (decode cL_law 1180 = .ok (.iconst 2, 1)) ∧ (decode cL_law 1181 = .ok (.iadd, 1)) ∧ (decode cL_law 1182 = .ok (.iaload, 1)) := by decide +kernel
theorem dL_law_1171 : decode cL_law 1171 = .ok (.aload_n 0, 1) := bdL_law_1171.1
theorem dL_law_1172 : decode cL_law 1172 = .ok (.iload 4, 2) := bdL_law_1171.2.1
theorem dL_law_1174 : decode cL_law 1174 = .ok (.iconst 1, 1) := bdL_law_1171.2.2.1
theorem dL_law_1175 : decode cL_law 1175 = .ok (.iadd, 1) := bdL_law_1171.2.2.2.1
theorem dL_law_1176 : decode cL_law 1176 = .ok (.iaload, 1) := bdL_law_1171.2.2.2.2.1
theorem dL_law_1177 : decode cL_law 1177 = .ok (.aload_n 0, 1) := bdL_law_1171.2.2.2.2.2.1
theorem dL_law_1178 : decode cL_law 1178 = .ok (.iload 4, 2) := bdL_law_1171.2.2.2.2.2.2.1
theorem dL_law_1180 : decode cL_law 1180 = .ok (.iconst 2, 1) := bdL_law_1171.2.2.2.2.2.2.2.1
theorem dL_law_1181 : decode cL_law 1181 = .ok (.iadd, 1) := bdL_law_1171.2.2.2.2.2.2.2.2.1
theorem dL_law_1182 : decode cL_law 1182 = .ok (.iaload, 1) := bdL_law_1171.2.2.2.2.2.2.2.2.2
theorem bdL_law_1183 : (decode cL_law 1183 = .ok (.invokevirtual 182, 3)) ∧ (decode cL_law 1186 = .ok (.istore 6, 2)) ∧ (decode cL_law 1188 = .ok (.aload_n 2, 1)) ∧ (decode cL_law 1189 = .ok (.invokevirtual 112, 3)) ∧ (decode cL_law 1192 = .ok (.iload 5, 2)) ∧ (decode cL_law 1194 = .ok (.if_icmp .eq 5, 3)) ∧ (decode cL_law 1197 = .ok (.iconst 0, 1)) ∧ (decode cL_law 1198 = .ok (.ireturn, 1)) ∧ (decode cL_law 1199 = .ok (.iload 5, 2)) ∧ (decode cL_law 1201 = .ok (.ifCond .ne 15, 3)) := by decide +kernel
theorem dL_law_1183 : decode cL_law 1183 = .ok (.invokevirtual 182, 3) := bdL_law_1183.1
theorem dL_law_1186 : decode cL_law 1186 = .ok (.istore 6, 2) := bdL_law_1183.2.1
theorem dL_law_1188 : decode cL_law 1188 = .ok (.aload_n 2, 1) := bdL_law_1183.2.2.1
theorem dL_law_1189 : decode cL_law 1189 = .ok (.invokevirtual 112, 3) := bdL_law_1183.2.2.2.1
theorem dL_law_1192 : decode cL_law 1192 = .ok (.iload 5, 2) := bdL_law_1183.2.2.2.2.1
theorem dL_law_1194 : decode cL_law 1194 = .ok (.if_icmp .eq 5, 3) := bdL_law_1183.2.2.2.2.2.1
theorem dL_law_1197 : decode cL_law 1197 = .ok (.iconst 0, 1) := bdL_law_1183.2.2.2.2.2.2.1
theorem dL_law_1198 : decode cL_law 1198 = .ok (.ireturn, 1) := bdL_law_1183.2.2.2.2.2.2.2.1
theorem dL_law_1199 : decode cL_law 1199 = .ok (.iload 5, 2) := bdL_law_1183.2.2.2.2.2.2.2.2.1
theorem dL_law_1201 : decode cL_law 1201 = .ok (.ifCond .ne 15, 3) := bdL_law_1183.2.2.2.2.2.2.2.2.2
theorem bdL_law_1204 : (decode cL_law 1204 = .ok (.aload_n 3, 1)) ∧ (decode cL_law 1205 = .ok (.iconst 0, 1)) ∧ (decode cL_law 1206 = .ok (.laload, 1)) ∧ (decode cL_law 1207 = .ok (.iload 6, 2)) ∧ (decode cL_law 1209 = .ok (.i2l, 1)) ∧ (decode cL_law 1210 = .ok (.lcmp, 1)) ∧ (decode cL_law 1211 = .ok (.ifCond .eq 5, 3)) ∧ (decode cL_law 1214 = .ok (.iconst 0, 1)) ∧ (decode cL_law 1215 = .ok (.ireturn, 1)) ∧ (decode cL_law 1216 = .ok (.goto 993, 3)) := by decide +kernel
theorem dL_law_1204 : decode cL_law 1204 = .ok (.aload_n 3, 1) := bdL_law_1204.1
theorem dL_law_1205 : decode cL_law 1205 = .ok (.iconst 0, 1) := bdL_law_1204.2.1
theorem dL_law_1206 : decode cL_law 1206 = .ok (.laload, 1) := bdL_law_1204.2.2.1
theorem dL_law_1207 : decode cL_law 1207 = .ok (.iload 6, 2) := bdL_law_1204.2.2.2.1
theorem dL_law_1209 : decode cL_law 1209 = .ok (.i2l, 1) := bdL_law_1204.2.2.2.2.1
theorem dL_law_1210 : decode cL_law 1210 = .ok (.lcmp, 1) := bdL_law_1204.2.2.2.2.2.1
theorem dL_law_1211 : decode cL_law 1211 = .ok (.ifCond .eq 5, 3) := bdL_law_1204.2.2.2.2.2.2.1
theorem dL_law_1214 : decode cL_law 1214 = .ok (.iconst 0, 1) := bdL_law_1204.2.2.2.2.2.2.2.1
theorem dL_law_1215 : decode cL_law 1215 = .ok (.ireturn, 1) := bdL_law_1204.2.2.2.2.2.2.2.2.1
theorem dL_law_1216 : decode cL_law 1216 = .ok (.goto 993, 3) := bdL_law_1204.2.2.2.2.2.2.2.2.2
theorem bdL_law_1219 : (decode cL_law 1219 = .ok (.aload_n 1, 1)) ∧ (decode cL_law 1220 = .ok (.aload_n 0, 1)) ∧ (decode cL_law 1221 = .ok (.iload 4, 2)) ∧ (decode cL_law 1223 = .ok (.iconst 1, 1)) ∧ (decode cL_law 1224 = .ok (.iadd, 1)) ∧ (decode cL_law 1225 = .ok (.iaload, 1)) ∧ (decode cL_law 1226 = .ok (.aload_n 3, 1)) ∧ (decode cL_law 1227 = .ok (.invokestatic 183, 3)) ∧ (decode cL_law 1230 = .ok (.istore 5, 2)) ∧ (decode cL_law 1232 = .ok (.aload_n 2, 1)) := by decide +kernel
theorem dL_law_1219 : decode cL_law 1219 = .ok (.aload_n 1, 1) := bdL_law_1219.1
theorem dL_law_1220 : decode cL_law 1220 = .ok (.aload_n 0, 1) := bdL_law_1219.2.1
theorem dL_law_1221 : decode cL_law 1221 = .ok (.iload 4, 2) := bdL_law_1219.2.2.1
theorem dL_law_1223 : decode cL_law 1223 = .ok (.iconst 1, 1) := bdL_law_1219.2.2.2.1
theorem dL_law_1224 : decode cL_law 1224 = .ok (.iadd, 1) := bdL_law_1219.2.2.2.2.1
theorem dL_law_1225 : decode cL_law 1225 = .ok (.iaload, 1) := bdL_law_1219.2.2.2.2.2.1
theorem dL_law_1226 : decode cL_law 1226 = .ok (.aload_n 3, 1) := bdL_law_1219.2.2.2.2.2.2.1
theorem dL_law_1227 : decode cL_law 1227 = .ok (.invokestatic 183, 3) := bdL_law_1219.2.2.2.2.2.2.2.1
theorem dL_law_1230 : decode cL_law 1230 = .ok (.istore 5, 2) := bdL_law_1219.2.2.2.2.2.2.2.2.1
theorem dL_law_1232 : decode cL_law 1232 = .ok (.aload_n 2, 1) := bdL_law_1219.2.2.2.2.2.2.2.2.2
theorem bdL_law_1233 : (decode cL_law 1233 = .ok (.aload_n 0, 1)) ∧ (decode cL_law 1234 = .ok (.iload 4, 2)) ∧ (decode cL_law 1236 = .ok (.iconst 1, 1)) ∧ (decode cL_law 1237 = .ok (.iadd, 1)) ∧ (decode cL_law 1238 = .ok (.iaload, 1)) ∧ (decode cL_law 1239 = .ok (.invokevirtual 185, 3)) ∧ (decode cL_law 1242 = .ok (.istore 6, 2)) ∧ (decode cL_law 1244 = .ok (.aload_n 2, 1)) ∧ (decode cL_law 1245 = .ok (.invokevirtual 112, 3)) ∧ (decode cL_law 1248 = .ok (.iload 5, 2)) := by decide +kernel
theorem dL_law_1233 : decode cL_law 1233 = .ok (.aload_n 0, 1) := bdL_law_1233.1
theorem dL_law_1234 : decode cL_law 1234 = .ok (.iload 4, 2) := bdL_law_1233.2.1
theorem dL_law_1236 : decode cL_law 1236 = .ok (.iconst 1, 1) := bdL_law_1233.2.2.1
theorem dL_law_1237 : decode cL_law 1237 = .ok (.iadd, 1) := bdL_law_1233.2.2.2.1
theorem dL_law_1238 : decode cL_law 1238 = .ok (.iaload, 1) := bdL_law_1233.2.2.2.2.1
theorem dL_law_1239 : decode cL_law 1239 = .ok (.invokevirtual 185, 3) := bdL_law_1233.2.2.2.2.2.1
theorem dL_law_1242 : decode cL_law 1242 = .ok (.istore 6, 2) := bdL_law_1233.2.2.2.2.2.2.1
theorem dL_law_1244 : decode cL_law 1244 = .ok (.aload_n 2, 1) := bdL_law_1233.2.2.2.2.2.2.2.1
theorem dL_law_1245 : decode cL_law 1245 = .ok (.invokevirtual 112, 3) := bdL_law_1233.2.2.2.2.2.2.2.2.1
theorem dL_law_1248 : decode cL_law 1248 = .ok (.iload 5, 2) := bdL_law_1233.2.2.2.2.2.2.2.2.2
theorem bdL_law_1250 : (decode cL_law 1250 = .ok (.if_icmp .eq 5, 3)) ∧ (decode cL_law 1253 = .ok (.iconst 0, 1)) ∧ (decode cL_law 1254 = .ok (.ireturn, 1)) ∧ (decode cL_law 1255 = .ok (.iload 5, 2)) ∧ (decode cL_law 1257 = .ok (.ifCond .ne 15, 3)) ∧ (decode cL_law 1260 = .ok (.aload_n 3, 1)) ∧ (decode cL_law 1261 = .ok (.iconst 0, 1)) ∧ (decode cL_law 1262 = .ok (.laload, 1)) ∧ (decode cL_law 1263 = .ok (.iload 6, 2)) ∧ (decode cL_law 1265 = .ok (.i2l, 1)) := by decide +kernel
theorem dL_law_1250 : decode cL_law 1250 = .ok (.if_icmp .eq 5, 3) := bdL_law_1250.1
theorem dL_law_1253 : decode cL_law 1253 = .ok (.iconst 0, 1) := bdL_law_1250.2.1
theorem dL_law_1254 : decode cL_law 1254 = .ok (.ireturn, 1) := bdL_law_1250.2.2.1
theorem dL_law_1255 : decode cL_law 1255 = .ok (.iload 5, 2) := bdL_law_1250.2.2.2.1
theorem dL_law_1257 : decode cL_law 1257 = .ok (.ifCond .ne 15, 3) := bdL_law_1250.2.2.2.2.1
theorem dL_law_1260 : decode cL_law 1260 = .ok (.aload_n 3, 1) := bdL_law_1250.2.2.2.2.2.1
theorem dL_law_1261 : decode cL_law 1261 = .ok (.iconst 0, 1) := bdL_law_1250.2.2.2.2.2.2.1
theorem dL_law_1262 : decode cL_law 1262 = .ok (.laload, 1) := bdL_law_1250.2.2.2.2.2.2.2.1
theorem dL_law_1263 : decode cL_law 1263 = .ok (.iload 6, 2) := bdL_law_1250.2.2.2.2.2.2.2.2.1
theorem dL_law_1265 : decode cL_law 1265 = .ok (.i2l, 1) := bdL_law_1250.2.2.2.2.2.2.2.2.2
theorem bdL_law_1266 : (decode cL_law 1266 = .ok (.lcmp, 1)) ∧ (decode cL_law 1267 = .ok (.ifCond .eq 5, 3)) ∧ (decode cL_law 1270 = .ok (.iconst 0, 1)) ∧ (decode cL_law 1271 = .ok (.ireturn, 1)) ∧ (decode cL_law 1272 = .ok (.goto 937, 3)) ∧ (decode cL_law 1275 = .ok (.aload_n 1, 1)) ∧ (decode cL_law 1276 = .ok (.aload_n 0, 1)) ∧ (decode cL_law 1277 = .ok (.iload 4, 2)) ∧ (decode cL_law 1279 = .ok (.iconst 1, 1)) ∧ (decode cL_law 1280 = .ok (.iadd, 1)) := by decide +kernel
theorem dL_law_1266 : decode cL_law 1266 = .ok (.lcmp, 1) := bdL_law_1266.1
theorem dL_law_1267 : decode cL_law 1267 = .ok (.ifCond .eq 5, 3) := bdL_law_1266.2.1
theorem dL_law_1270 : decode cL_law 1270 = .ok (.iconst 0, 1) := bdL_law_1266.2.2.1
theorem dL_law_1271 : decode cL_law 1271 = .ok (.ireturn, 1) := bdL_law_1266.2.2.2.1
theorem dL_law_1272 : decode cL_law 1272 = .ok (.goto 937, 3) := bdL_law_1266.2.2.2.2.1
theorem dL_law_1275 : decode cL_law 1275 = .ok (.aload_n 1, 1) := bdL_law_1266.2.2.2.2.2.1
theorem dL_law_1276 : decode cL_law 1276 = .ok (.aload_n 0, 1) := bdL_law_1266.2.2.2.2.2.2.1
theorem dL_law_1277 : decode cL_law 1277 = .ok (.iload 4, 2) := bdL_law_1266.2.2.2.2.2.2.2.1
theorem dL_law_1279 : decode cL_law 1279 = .ok (.iconst 1, 1) := bdL_law_1266.2.2.2.2.2.2.2.2.1
theorem dL_law_1280 : decode cL_law 1280 = .ok (.iadd, 1) := bdL_law_1266.2.2.2.2.2.2.2.2.2
theorem bdL_law_1281 : (decode cL_law 1281 = .ok (.iaload, 1)) ∧ (decode cL_law 1282 = .ok (.aload_n 3, 1)) ∧ (decode cL_law 1283 = .ok (.invokestatic 186, 3)) ∧ (decode cL_law 1286 = .ok (.istore 5, 2)) ∧ (decode cL_law 1288 = .ok (.aload_n 2, 1)) ∧ (decode cL_law 1289 = .ok (.aload_n 0, 1)) ∧ (decode cL_law 1290 = .ok (.iload 4, 2)) ∧ (decode cL_law 1292 = .ok (.iconst 1, 1)) ∧ (decode cL_law 1293 = .ok (.iadd, 1)) ∧ (decode cL_law 1294 = .ok (.iaload, 1)) := by decide +kernel
theorem dL_law_1281 : decode cL_law 1281 = .ok (.iaload, 1) := bdL_law_1281.1
theorem dL_law_1282 : decode cL_law 1282 = .ok (.aload_n 3, 1) := bdL_law_1281.2.1
theorem dL_law_1283 : decode cL_law 1283 = .ok (.invokestatic 186, 3) := bdL_law_1281.2.2.1
theorem dL_law_1286 : decode cL_law 1286 = .ok (.istore 5, 2) := bdL_law_1281.2.2.2.1
theorem dL_law_1288 : decode cL_law 1288 = .ok (.aload_n 2, 1) := bdL_law_1281.2.2.2.2.1
theorem dL_law_1289 : decode cL_law 1289 = .ok (.aload_n 0, 1) := bdL_law_1281.2.2.2.2.2.1
theorem dL_law_1290 : decode cL_law 1290 = .ok (.iload 4, 2) := bdL_law_1281.2.2.2.2.2.2.1
theorem dL_law_1292 : decode cL_law 1292 = .ok (.iconst 1, 1) := bdL_law_1281.2.2.2.2.2.2.2.1
theorem dL_law_1293 : decode cL_law 1293 = .ok (.iadd, 1) := bdL_law_1281.2.2.2.2.2.2.2.2.1
theorem dL_law_1294 : decode cL_law 1294 = .ok (.iaload, 1) := bdL_law_1281.2.2.2.2.2.2.2.2.2
theorem bdL_law_1295 : (decode cL_law 1295 = .ok (.invokevirtual 188, 3)) ∧ (decode cL_law 1298 = .ok (.istore 6, 2)) ∧ (decode cL_law 1300 = .ok (.aload_n 2, 1)) ∧ (decode cL_law 1301 = .ok (.invokevirtual 112, 3)) ∧ (decode cL_law 1304 = .ok (.iload 5, 2)) ∧ (decode cL_law 1306 = .ok (.if_icmp .eq 5, 3)) ∧ (decode cL_law 1309 = .ok (.iconst 0, 1)) ∧ (decode cL_law 1310 = .ok (.ireturn, 1)) ∧ (decode cL_law 1311 = .ok (.iload 5, 2)) ∧ (decode cL_law 1313 = .ok (.ifCond .ne 15, 3)) := by decide +kernel
theorem dL_law_1295 : decode cL_law 1295 = .ok (.invokevirtual 188, 3) := bdL_law_1295.1
theorem dL_law_1298 : decode cL_law 1298 = .ok (.istore 6, 2) := bdL_law_1295.2.1
theorem dL_law_1300 : decode cL_law 1300 = .ok (.aload_n 2, 1) := bdL_law_1295.2.2.1
theorem dL_law_1301 : decode cL_law 1301 = .ok (.invokevirtual 112, 3) := bdL_law_1295.2.2.2.1
theorem dL_law_1304 : decode cL_law 1304 = .ok (.iload 5, 2) := bdL_law_1295.2.2.2.2.1
theorem dL_law_1306 : decode cL_law 1306 = .ok (.if_icmp .eq 5, 3) := bdL_law_1295.2.2.2.2.2.1
theorem dL_law_1309 : decode cL_law 1309 = .ok (.iconst 0, 1) := bdL_law_1295.2.2.2.2.2.2.1
theorem dL_law_1310 : decode cL_law 1310 = .ok (.ireturn, 1) := bdL_law_1295.2.2.2.2.2.2.2.1
theorem dL_law_1311 : decode cL_law 1311 = .ok (.iload 5, 2) := bdL_law_1295.2.2.2.2.2.2.2.2.1
theorem dL_law_1313 : decode cL_law 1313 = .ok (.ifCond .ne 15, 3) := bdL_law_1295.2.2.2.2.2.2.2.2.2
theorem bdL_law_1316 : (decode cL_law 1316 = .ok (.aload_n 3, 1)) ∧ (decode cL_law 1317 = .ok (.iconst 0, 1)) ∧ (decode cL_law 1318 = .ok (.laload, 1)) ∧ (decode cL_law 1319 = .ok (.iload 6, 2)) ∧ (decode cL_law 1321 = .ok (.i2l, 1)) ∧ (decode cL_law 1322 = .ok (.lcmp, 1)) ∧ (decode cL_law 1323 = .ok (.ifCond .eq 5, 3)) ∧ (decode cL_law 1326 = .ok (.iconst 0, 1)) ∧ (decode cL_law 1327 = .ok (.ireturn, 1)) ∧ (decode cL_law 1328 = .ok (.goto 881, 3)) := by decide +kernel
theorem dL_law_1316 : decode cL_law 1316 = .ok (.aload_n 3, 1) := bdL_law_1316.1
theorem dL_law_1317 : decode cL_law 1317 = .ok (.iconst 0, 1) := bdL_law_1316.2.1
theorem dL_law_1318 : decode cL_law 1318 = .ok (.laload, 1) := bdL_law_1316.2.2.1
theorem dL_law_1319 : decode cL_law 1319 = .ok (.iload 6, 2) := bdL_law_1316.2.2.2.1
theorem dL_law_1321 : decode cL_law 1321 = .ok (.i2l, 1) := bdL_law_1316.2.2.2.2.1
theorem dL_law_1322 : decode cL_law 1322 = .ok (.lcmp, 1) := bdL_law_1316.2.2.2.2.2.1
theorem dL_law_1323 : decode cL_law 1323 = .ok (.ifCond .eq 5, 3) := bdL_law_1316.2.2.2.2.2.2.1
theorem dL_law_1326 : decode cL_law 1326 = .ok (.iconst 0, 1) := bdL_law_1316.2.2.2.2.2.2.2.1
theorem dL_law_1327 : decode cL_law 1327 = .ok (.ireturn, 1) := bdL_law_1316.2.2.2.2.2.2.2.2.1
theorem dL_law_1328 : decode cL_law 1328 = .ok (.goto 881, 3) := bdL_law_1316.2.2.2.2.2.2.2.2.2
theorem bdL_law_1331 : (decode cL_law 1331 = .ok (.aload_n 1, 1)) ∧ (decode cL_law 1332 = .ok (.invokevirtual 189, 3)) ∧ (decode cL_law 1335 = .ok (.aload_n 2, 1)) ∧ (decode cL_law 1336 = .ok (.invokevirtual 192, 3)) ∧ (decode cL_law 1339 = .ok (.if_icmp .eq 870, 3)) ∧ (decode cL_law 1342 = .ok (.iconst 0, 1)) ∧ (decode cL_law 1343 = .ok (.ireturn, 1)) ∧ (decode cL_law 1344 = .ok (.aload_n 1, 1)) ∧ (decode cL_law 1345 = .ok (.aload_n 0, 1)) ∧ (decode cL_law 1346 = .ok (.iload 4, 2)) := by decide +kernel
theorem dL_law_1331 : decode cL_law 1331 = .ok (.aload_n 1, 1) := bdL_law_1331.1
theorem dL_law_1332 : decode cL_law 1332 = .ok (.invokevirtual 189, 3) := bdL_law_1331.2.1
theorem dL_law_1335 : decode cL_law 1335 = .ok (.aload_n 2, 1) := bdL_law_1331.2.2.1
theorem dL_law_1336 : decode cL_law 1336 = .ok (.invokevirtual 192, 3) := bdL_law_1331.2.2.2.1
theorem dL_law_1339 : decode cL_law 1339 = .ok (.if_icmp .eq 870, 3) := bdL_law_1331.2.2.2.2.1
theorem dL_law_1342 : decode cL_law 1342 = .ok (.iconst 0, 1) := bdL_law_1331.2.2.2.2.2.1
theorem dL_law_1343 : decode cL_law 1343 = .ok (.ireturn, 1) := bdL_law_1331.2.2.2.2.2.2.1
theorem dL_law_1344 : decode cL_law 1344 = .ok (.aload_n 1, 1) := bdL_law_1331.2.2.2.2.2.2.2.1
theorem dL_law_1345 : decode cL_law 1345 = .ok (.aload_n 0, 1) := bdL_law_1331.2.2.2.2.2.2.2.2.1
theorem dL_law_1346 : decode cL_law 1346 = .ok (.iload 4, 2) := bdL_law_1331.2.2.2.2.2.2.2.2.2
theorem bdL_law_1348 : (decode cL_law 1348 = .ok (.iconst 1, 1)) ∧ (decode cL_law 1349 = .ok (.iadd, 1)) ∧ (decode cL_law 1350 = .ok (.iaload, 1)) ∧ (decode cL_law 1351 = .ok (.aload_n 0, 1)) ∧ (decode cL_law 1352 = .ok (.iload 4, 2)) ∧ (decode cL_law 1354 = .ok (.iconst 2, 1)) ∧ (decode cL_law 1355 = .ok (.iadd, 1)) ∧ (decode cL_law 1356 = .ok (.iaload, 1)) ∧ (decode cL_law 1357 = .ok (.aload_n 3, 1)) ∧ (decode cL_law 1358 = .ok (.invokestatic 193, 3)) := by decide +kernel
theorem dL_law_1348 : decode cL_law 1348 = .ok (.iconst 1, 1) := bdL_law_1348.1
theorem dL_law_1349 : decode cL_law 1349 = .ok (.iadd, 1) := bdL_law_1348.2.1
theorem dL_law_1350 : decode cL_law 1350 = .ok (.iaload, 1) := bdL_law_1348.2.2.1
theorem dL_law_1351 : decode cL_law 1351 = .ok (.aload_n 0, 1) := bdL_law_1348.2.2.2.1
theorem dL_law_1352 : decode cL_law 1352 = .ok (.iload 4, 2) := bdL_law_1348.2.2.2.2.1
theorem dL_law_1354 : decode cL_law 1354 = .ok (.iconst 2, 1) := bdL_law_1348.2.2.2.2.2.1
theorem dL_law_1355 : decode cL_law 1355 = .ok (.iadd, 1) := bdL_law_1348.2.2.2.2.2.2.1
theorem dL_law_1356 : decode cL_law 1356 = .ok (.iaload, 1) := bdL_law_1348.2.2.2.2.2.2.2.1
theorem dL_law_1357 : decode cL_law 1357 = .ok (.aload_n 3, 1) := bdL_law_1348.2.2.2.2.2.2.2.2.1
theorem dL_law_1358 : decode cL_law 1358 = .ok (.invokestatic 193, 3) := bdL_law_1348.2.2.2.2.2.2.2.2.2
theorem bdL_law_1361 : (decode cL_law 1361 = .ok (.istore 5, 2)) ∧ (decode cL_law 1363 = .ok (.aload_n 2, 1)) ∧ (decode cL_law 1364 = .ok (.aload_n 0, 1)) ∧ (decode cL_law 1365 = .ok (.iload 4, 2)) ∧ (decode cL_law 1367 = .ok (.iconst 1, 1)) ∧ (decode cL_law 1368 = .ok (.iadd, 1)) ∧ (decode cL_law 1369 = .ok (.iaload, 1)) ∧ (decode cL_law 1370 = .ok (.aload_n 0, 1)) ∧ (decode cL_law 1371 = .ok (.iload 4, 2)) ∧ (decode cL_law 1373 = .ok (.iconst 2, 1)) := by decide +kernel
theorem dL_law_1361 : decode cL_law 1361 = .ok (.istore 5, 2) := bdL_law_1361.1
theorem dL_law_1363 : decode cL_law 1363 = .ok (.aload_n 2, 1) := bdL_law_1361.2.1
theorem dL_law_1364 : decode cL_law 1364 = .ok (.aload_n 0, 1) := bdL_law_1361.2.2.1
theorem dL_law_1365 : decode cL_law 1365 = .ok (.iload 4, 2) := bdL_law_1361.2.2.2.1
theorem dL_law_1367 : decode cL_law 1367 = .ok (.iconst 1, 1) := bdL_law_1361.2.2.2.2.1
theorem dL_law_1368 : decode cL_law 1368 = .ok (.iadd, 1) := bdL_law_1361.2.2.2.2.2.1
theorem dL_law_1369 : decode cL_law 1369 = .ok (.iaload, 1) := bdL_law_1361.2.2.2.2.2.2.1
theorem dL_law_1370 : decode cL_law 1370 = .ok (.aload_n 0, 1) := bdL_law_1361.2.2.2.2.2.2.2.1
theorem dL_law_1371 : decode cL_law 1371 = .ok (.iload 4, 2) := bdL_law_1361.2.2.2.2.2.2.2.2.1
theorem dL_law_1373 : decode cL_law 1373 = .ok (.iconst 2, 1) := bdL_law_1361.2.2.2.2.2.2.2.2.2
theorem bdL_law_1374 : (decode cL_law 1374 = .ok (.iadd, 1)) ∧ (decode cL_law 1375 = .ok (.iaload, 1)) ∧ (decode cL_law 1376 = .ok (.invokevirtual 195, 3)) ∧ (decode cL_law 1379 = .ok (.istore 6, 2)) ∧ (decode cL_law 1381 = .ok (.aload_n 2, 1)) ∧ (decode cL_law 1382 = .ok (.invokevirtual 112, 3)) ∧ (decode cL_law 1385 = .ok (.iload 5, 2)) ∧ (decode cL_law 1387 = .ok (.if_icmp .eq 5, 3)) ∧ (decode cL_law 1390 = .ok (.iconst 0, 1)) ∧ (decode cL_law 1391 = .ok (.ireturn, 1)) := by decide +kernel
theorem dL_law_1374 : decode cL_law 1374 = .ok (.iadd, 1) := bdL_law_1374.1
theorem dL_law_1375 : decode cL_law 1375 = .ok (.iaload, 1) := bdL_law_1374.2.1
theorem dL_law_1376 : decode cL_law 1376 = .ok (.invokevirtual 195, 3) := bdL_law_1374.2.2.1
theorem dL_law_1379 : decode cL_law 1379 = .ok (.istore 6, 2) := bdL_law_1374.2.2.2.1
theorem dL_law_1381 : decode cL_law 1381 = .ok (.aload_n 2, 1) := bdL_law_1374.2.2.2.2.1
theorem dL_law_1382 : decode cL_law 1382 = .ok (.invokevirtual 112, 3) := bdL_law_1374.2.2.2.2.2.1
theorem dL_law_1385 : decode cL_law 1385 = .ok (.iload 5, 2) := bdL_law_1374.2.2.2.2.2.2.1
theorem dL_law_1387 : decode cL_law 1387 = .ok (.if_icmp .eq 5, 3) := bdL_law_1374.2.2.2.2.2.2.2.1
theorem dL_law_1390 : decode cL_law 1390 = .ok (.iconst 0, 1) := bdL_law_1374.2.2.2.2.2.2.2.2.1
theorem dL_law_1391 : decode cL_law 1391 = .ok (.ireturn, 1) := bdL_law_1374.2.2.2.2.2.2.2.2.2
theorem bdL_law_1392 : (decode cL_law 1392 = .ok (.iload 5, 2)) ∧ (decode cL_law 1394 = .ok (.ifCond .ne 15, 3)) ∧ (decode cL_law 1397 = .ok (.aload_n 3, 1)) ∧ (decode cL_law 1398 = .ok (.iconst 0, 1)) ∧ (decode cL_law 1399 = .ok (.laload, 1)) ∧ (decode cL_law 1400 = .ok (.iload 6, 2)) ∧ (decode cL_law 1402 = .ok (.i2l, 1)) ∧ (decode cL_law 1403 = .ok (.lcmp, 1)) ∧ (decode cL_law 1404 = .ok (.ifCond .eq 5, 3)) ∧ (decode cL_law 1407 = .ok (.iconst 0, 1)) := by decide +kernel
theorem dL_law_1392 : decode cL_law 1392 = .ok (.iload 5, 2) := bdL_law_1392.1
theorem dL_law_1394 : decode cL_law 1394 = .ok (.ifCond .ne 15, 3) := bdL_law_1392.2.1
theorem dL_law_1397 : decode cL_law 1397 = .ok (.aload_n 3, 1) := bdL_law_1392.2.2.1
theorem dL_law_1398 : decode cL_law 1398 = .ok (.iconst 0, 1) := bdL_law_1392.2.2.2.1
theorem dL_law_1399 : decode cL_law 1399 = .ok (.laload, 1) := bdL_law_1392.2.2.2.2.1
theorem dL_law_1400 : decode cL_law 1400 = .ok (.iload 6, 2) := bdL_law_1392.2.2.2.2.2.1
theorem dL_law_1402 : decode cL_law 1402 = .ok (.i2l, 1) := bdL_law_1392.2.2.2.2.2.2.1
theorem dL_law_1403 : decode cL_law 1403 = .ok (.lcmp, 1) := bdL_law_1392.2.2.2.2.2.2.2.1
theorem dL_law_1404 : decode cL_law 1404 = .ok (.ifCond .eq 5, 3) := bdL_law_1392.2.2.2.2.2.2.2.2.1
theorem dL_law_1407 : decode cL_law 1407 = .ok (.iconst 0, 1) := bdL_law_1392.2.2.2.2.2.2.2.2.2
theorem bdL_law_1408 : (decode cL_law 1408 = .ok (.ireturn, 1)) ∧ (decode cL_law 1409 = .ok (.goto 800, 3)) ∧ (decode cL_law 1412 = .ok (.aload_n 1, 1)) ∧ (decode cL_law 1413 = .ok (.aload_n 0, 1)) ∧ (decode cL_law 1414 = .ok (.iload 4, 2)) ∧ (decode cL_law 1416 = .ok (.iconst 1, 1)) ∧ (decode cL_law 1417 = .ok (.iadd, 1)) ∧ (decode cL_law 1418 = .ok (.iaload, 1)) ∧ (decode cL_law 1419 = .ok (.aload_n 3, 1)) ∧ (decode cL_law 1420 = .ok (.invokestatic 196, 3)) := by decide +kernel
theorem dL_law_1408 : decode cL_law 1408 = .ok (.ireturn, 1) := bdL_law_1408.1
theorem dL_law_1409 : decode cL_law 1409 = .ok (.goto 800, 3) := bdL_law_1408.2.1
theorem dL_law_1412 : decode cL_law 1412 = .ok (.aload_n 1, 1) := bdL_law_1408.2.2.1
theorem dL_law_1413 : decode cL_law 1413 = .ok (.aload_n 0, 1) := bdL_law_1408.2.2.2.1
theorem dL_law_1414 : decode cL_law 1414 = .ok (.iload 4, 2) := bdL_law_1408.2.2.2.2.1
theorem dL_law_1416 : decode cL_law 1416 = .ok (.iconst 1, 1) := bdL_law_1408.2.2.2.2.2.1
theorem dL_law_1417 : decode cL_law 1417 = .ok (.iadd, 1) := bdL_law_1408.2.2.2.2.2.2.1
theorem dL_law_1418 : decode cL_law 1418 = .ok (.iaload, 1) := bdL_law_1408.2.2.2.2.2.2.2.1
theorem dL_law_1419 : decode cL_law 1419 = .ok (.aload_n 3, 1) := bdL_law_1408.2.2.2.2.2.2.2.2.1
theorem dL_law_1420 : decode cL_law 1420 = .ok (.invokestatic 196, 3) := bdL_law_1408.2.2.2.2.2.2.2.2.2
theorem bdL_law_1423 : (decode cL_law 1423 = .ok (.istore 5, 2)) ∧ (decode cL_law 1425 = .ok (.aload_n 2, 1)) ∧ (decode cL_law 1426 = .ok (.aload_n 0, 1)) ∧ (decode cL_law 1427 = .ok (.iload 4, 2)) ∧ (decode cL_law 1429 = .ok (.iconst 1, 1)) ∧ (decode cL_law 1430 = .ok (.iadd, 1)) ∧ (decode cL_law 1431 = .ok (.iaload, 1)) ∧ (decode cL_law 1432 = .ok (.invokevirtual 198, 3)) ∧ (decode cL_law 1435 = .ok (.istore 6, 2)) ∧ (decode cL_law 1437 = .ok (.aload_n 2, 1)) := by decide +kernel
theorem dL_law_1423 : decode cL_law 1423 = .ok (.istore 5, 2) := bdL_law_1423.1
theorem dL_law_1425 : decode cL_law 1425 = .ok (.aload_n 2, 1) := bdL_law_1423.2.1
theorem dL_law_1426 : decode cL_law 1426 = .ok (.aload_n 0, 1) := bdL_law_1423.2.2.1
theorem dL_law_1427 : decode cL_law 1427 = .ok (.iload 4, 2) := bdL_law_1423.2.2.2.1
theorem dL_law_1429 : decode cL_law 1429 = .ok (.iconst 1, 1) := bdL_law_1423.2.2.2.2.1
theorem dL_law_1430 : decode cL_law 1430 = .ok (.iadd, 1) := bdL_law_1423.2.2.2.2.2.1
theorem dL_law_1431 : decode cL_law 1431 = .ok (.iaload, 1) := bdL_law_1423.2.2.2.2.2.2.1
theorem dL_law_1432 : decode cL_law 1432 = .ok (.invokevirtual 198, 3) := bdL_law_1423.2.2.2.2.2.2.2.1
theorem dL_law_1435 : decode cL_law 1435 = .ok (.istore 6, 2) := bdL_law_1423.2.2.2.2.2.2.2.2.1
theorem dL_law_1437 : decode cL_law 1437 = .ok (.aload_n 2, 1) := bdL_law_1423.2.2.2.2.2.2.2.2.2
theorem bdL_law_1438 : (decode cL_law 1438 = .ok (.invokevirtual 112, 3)) ∧ (decode cL_law 1441 = .ok (.iload 5, 2)) ∧ (decode cL_law 1443 = .ok (.if_icmp .eq 5, 3)) ∧ (decode cL_law 1446 = .ok (.iconst 0, 1)) ∧ (decode cL_law 1447 = .ok (.ireturn, 1)) ∧ (decode cL_law 1448 = .ok (.iload 5, 2)) ∧ (decode cL_law 1450 = .ok (.ifCond .ne 15, 3)) ∧ (decode cL_law 1453 = .ok (.aload_n 3, 1)) ∧ (decode cL_law 1454 = .ok (.iconst 0, 1)) ∧ (decode cL_law 1455 = .ok (.laload, 1)) := by decide +kernel
theorem dL_law_1438 : decode cL_law 1438 = .ok (.invokevirtual 112, 3) := bdL_law_1438.1
theorem dL_law_1441 : decode cL_law 1441 = .ok (.iload 5, 2) := bdL_law_1438.2.1
theorem dL_law_1443 : decode cL_law 1443 = .ok (.if_icmp .eq 5, 3) := bdL_law_1438.2.2.1
theorem dL_law_1446 : decode cL_law 1446 = .ok (.iconst 0, 1) := bdL_law_1438.2.2.2.1
theorem dL_law_1447 : decode cL_law 1447 = .ok (.ireturn, 1) := bdL_law_1438.2.2.2.2.1
theorem dL_law_1448 : decode cL_law 1448 = .ok (.iload 5, 2) := bdL_law_1438.2.2.2.2.2.1
theorem dL_law_1450 : decode cL_law 1450 = .ok (.ifCond .ne 15, 3) := bdL_law_1438.2.2.2.2.2.2.1
theorem dL_law_1453 : decode cL_law 1453 = .ok (.aload_n 3, 1) := bdL_law_1438.2.2.2.2.2.2.2.1
theorem dL_law_1454 : decode cL_law 1454 = .ok (.iconst 0, 1) := bdL_law_1438.2.2.2.2.2.2.2.2.1
theorem dL_law_1455 : decode cL_law 1455 = .ok (.laload, 1) := bdL_law_1438.2.2.2.2.2.2.2.2.2
theorem bdL_law_1456 : (decode cL_law 1456 = .ok (.iload 6, 2)) ∧ (decode cL_law 1458 = .ok (.i2l, 1)) ∧ (decode cL_law 1459 = .ok (.lcmp, 1)) ∧ (decode cL_law 1460 = .ok (.ifCond .eq 5, 3)) ∧ (decode cL_law 1463 = .ok (.iconst 0, 1)) ∧ (decode cL_law 1464 = .ok (.ireturn, 1)) ∧ (decode cL_law 1465 = .ok (.goto 744, 3)) ∧ (decode cL_law 1468 = .ok (.aload_n 1, 1)) ∧ (decode cL_law 1469 = .ok (.aload_n 0, 1)) ∧ (decode cL_law 1470 = .ok (.iload 4, 2)) := by decide +kernel
theorem dL_law_1456 : decode cL_law 1456 = .ok (.iload 6, 2) := bdL_law_1456.1
theorem dL_law_1458 : decode cL_law 1458 = .ok (.i2l, 1) := bdL_law_1456.2.1
theorem dL_law_1459 : decode cL_law 1459 = .ok (.lcmp, 1) := bdL_law_1456.2.2.1
theorem dL_law_1460 : decode cL_law 1460 = .ok (.ifCond .eq 5, 3) := bdL_law_1456.2.2.2.1
theorem dL_law_1463 : decode cL_law 1463 = .ok (.iconst 0, 1) := bdL_law_1456.2.2.2.2.1
theorem dL_law_1464 : decode cL_law 1464 = .ok (.ireturn, 1) := bdL_law_1456.2.2.2.2.2.1
theorem dL_law_1465 : decode cL_law 1465 = .ok (.goto 744, 3) := bdL_law_1456.2.2.2.2.2.2.1
theorem dL_law_1468 : decode cL_law 1468 = .ok (.aload_n 1, 1) := bdL_law_1456.2.2.2.2.2.2.2.1
theorem dL_law_1469 : decode cL_law 1469 = .ok (.aload_n 0, 1) := bdL_law_1456.2.2.2.2.2.2.2.2.1
theorem dL_law_1470 : decode cL_law 1470 = .ok (.iload 4, 2) := bdL_law_1456.2.2.2.2.2.2.2.2.2
theorem bdL_law_1472 : (decode cL_law 1472 = .ok (.iconst 1, 1)) ∧ (decode cL_law 1473 = .ok (.iadd, 1)) ∧ (decode cL_law 1474 = .ok (.iaload, 1)) ∧ (decode cL_law 1475 = .ok (.aload_n 3, 1)) ∧ (decode cL_law 1476 = .ok (.invokestatic 199, 3)) ∧ (decode cL_law 1479 = .ok (.istore 5, 2)) ∧ (decode cL_law 1481 = .ok (.aload_n 2, 1)) ∧ (decode cL_law 1482 = .ok (.aload_n 0, 1)) ∧ (decode cL_law 1483 = .ok (.iload 4, 2)) ∧ (decode cL_law 1485 = .ok (.iconst 1, 1)) := by decide +kernel
theorem dL_law_1472 : decode cL_law 1472 = .ok (.iconst 1, 1) := bdL_law_1472.1
theorem dL_law_1473 : decode cL_law 1473 = .ok (.iadd, 1) := bdL_law_1472.2.1
theorem dL_law_1474 : decode cL_law 1474 = .ok (.iaload, 1) := bdL_law_1472.2.2.1
theorem dL_law_1475 : decode cL_law 1475 = .ok (.aload_n 3, 1) := bdL_law_1472.2.2.2.1
theorem dL_law_1476 : decode cL_law 1476 = .ok (.invokestatic 199, 3) := bdL_law_1472.2.2.2.2.1
theorem dL_law_1479 : decode cL_law 1479 = .ok (.istore 5, 2) := bdL_law_1472.2.2.2.2.2.1
theorem dL_law_1481 : decode cL_law 1481 = .ok (.aload_n 2, 1) := bdL_law_1472.2.2.2.2.2.2.1
theorem dL_law_1482 : decode cL_law 1482 = .ok (.aload_n 0, 1) := bdL_law_1472.2.2.2.2.2.2.2.1
theorem dL_law_1483 : decode cL_law 1483 = .ok (.iload 4, 2) := bdL_law_1472.2.2.2.2.2.2.2.2.1
theorem dL_law_1485 : decode cL_law 1485 = .ok (.iconst 1, 1) := bdL_law_1472.2.2.2.2.2.2.2.2.2
theorem bdL_law_1486 : (decode cL_law 1486 = .ok (.iadd, 1)) ∧ (decode cL_law 1487 = .ok (.iaload, 1)) ∧ (decode cL_law 1488 = .ok (.invokevirtual 201, 3)) ∧ (decode cL_law 1491 = .ok (.istore 6, 2)) ∧ (decode cL_law 1493 = .ok (.aload_n 2, 1)) ∧ (decode cL_law 1494 = .ok (.invokevirtual 112, 3)) ∧ (decode cL_law 1497 = .ok (.iload 5, 2)) ∧ (decode cL_law 1499 = .ok (.if_icmp .eq 5, 3)) ∧ (decode cL_law 1502 = .ok (.iconst 0, 1)) ∧ (decode cL_law 1503 = .ok (.ireturn, 1)) := by decide +kernel
theorem dL_law_1486 : decode cL_law 1486 = .ok (.iadd, 1) := bdL_law_1486.1
theorem dL_law_1487 : decode cL_law 1487 = .ok (.iaload, 1) := bdL_law_1486.2.1
theorem dL_law_1488 : decode cL_law 1488 = .ok (.invokevirtual 201, 3) := bdL_law_1486.2.2.1
theorem dL_law_1491 : decode cL_law 1491 = .ok (.istore 6, 2) := bdL_law_1486.2.2.2.1
theorem dL_law_1493 : decode cL_law 1493 = .ok (.aload_n 2, 1) := bdL_law_1486.2.2.2.2.1
theorem dL_law_1494 : decode cL_law 1494 = .ok (.invokevirtual 112, 3) := bdL_law_1486.2.2.2.2.2.1
theorem dL_law_1497 : decode cL_law 1497 = .ok (.iload 5, 2) := bdL_law_1486.2.2.2.2.2.2.1
theorem dL_law_1499 : decode cL_law 1499 = .ok (.if_icmp .eq 5, 3) := bdL_law_1486.2.2.2.2.2.2.2.1
theorem dL_law_1502 : decode cL_law 1502 = .ok (.iconst 0, 1) := bdL_law_1486.2.2.2.2.2.2.2.2.1
theorem dL_law_1503 : decode cL_law 1503 = .ok (.ireturn, 1) := bdL_law_1486.2.2.2.2.2.2.2.2.2
theorem bdL_law_1504 : (decode cL_law 1504 = .ok (.iload 5, 2)) ∧ (decode cL_law 1506 = .ok (.ifCond .ne 15, 3)) ∧ (decode cL_law 1509 = .ok (.aload_n 3, 1)) ∧ (decode cL_law 1510 = .ok (.iconst 0, 1)) ∧ (decode cL_law 1511 = .ok (.laload, 1)) ∧ (decode cL_law 1512 = .ok (.iload 6, 2)) ∧ (decode cL_law 1514 = .ok (.i2l, 1)) ∧ (decode cL_law 1515 = .ok (.lcmp, 1)) ∧ (decode cL_law 1516 = .ok (.ifCond .eq 5, 3)) ∧ (decode cL_law 1519 = .ok (.iconst 0, 1)) := by decide +kernel
theorem dL_law_1504 : decode cL_law 1504 = .ok (.iload 5, 2) := bdL_law_1504.1
theorem dL_law_1506 : decode cL_law 1506 = .ok (.ifCond .ne 15, 3) := bdL_law_1504.2.1
theorem dL_law_1509 : decode cL_law 1509 = .ok (.aload_n 3, 1) := bdL_law_1504.2.2.1
theorem dL_law_1510 : decode cL_law 1510 = .ok (.iconst 0, 1) := bdL_law_1504.2.2.2.1
theorem dL_law_1511 : decode cL_law 1511 = .ok (.laload, 1) := bdL_law_1504.2.2.2.2.1
theorem dL_law_1512 : decode cL_law 1512 = .ok (.iload 6, 2) := bdL_law_1504.2.2.2.2.2.1
theorem dL_law_1514 : decode cL_law 1514 = .ok (.i2l, 1) := bdL_law_1504.2.2.2.2.2.2.1
theorem dL_law_1515 : decode cL_law 1515 = .ok (.lcmp, 1) := bdL_law_1504.2.2.2.2.2.2.2.1
theorem dL_law_1516 : decode cL_law 1516 = .ok (.ifCond .eq 5, 3) := bdL_law_1504.2.2.2.2.2.2.2.2.1
theorem dL_law_1519 : decode cL_law 1519 = .ok (.iconst 0, 1) := bdL_law_1504.2.2.2.2.2.2.2.2.2
theorem bdL_law_1520 : (decode cL_law 1520 = .ok (.ireturn, 1)) ∧ (decode cL_law 1521 = .ok (.goto 688, 3)) ∧ (decode cL_law 1524 = .ok (.aload_n 1, 1)) ∧ (decode cL_law 1525 = .ok (.aload_n 0, 1)) ∧ (decode cL_law 1526 = .ok (.iload 4, 2)) ∧ (decode cL_law 1528 = .ok (.iconst 1, 1)) ∧ (decode cL_law 1529 = .ok (.iadd, 1)) ∧ (decode cL_law 1530 = .ok (.iaload, 1)) ∧ (decode cL_law 1531 = .ok (.aload_n 0, 1)) ∧ (decode cL_law 1532 = .ok (.iload 4, 2)) := by decide +kernel
theorem dL_law_1520 : decode cL_law 1520 = .ok (.ireturn, 1) := bdL_law_1520.1
theorem dL_law_1521 : decode cL_law 1521 = .ok (.goto 688, 3) := bdL_law_1520.2.1
theorem dL_law_1524 : decode cL_law 1524 = .ok (.aload_n 1, 1) := bdL_law_1520.2.2.1
theorem dL_law_1525 : decode cL_law 1525 = .ok (.aload_n 0, 1) := bdL_law_1520.2.2.2.1
theorem dL_law_1526 : decode cL_law 1526 = .ok (.iload 4, 2) := bdL_law_1520.2.2.2.2.1
theorem dL_law_1528 : decode cL_law 1528 = .ok (.iconst 1, 1) := bdL_law_1520.2.2.2.2.2.1
theorem dL_law_1529 : decode cL_law 1529 = .ok (.iadd, 1) := bdL_law_1520.2.2.2.2.2.2.1
theorem dL_law_1530 : decode cL_law 1530 = .ok (.iaload, 1) := bdL_law_1520.2.2.2.2.2.2.2.1
theorem dL_law_1531 : decode cL_law 1531 = .ok (.aload_n 0, 1) := bdL_law_1520.2.2.2.2.2.2.2.2.1
theorem dL_law_1532 : decode cL_law 1532 = .ok (.iload 4, 2) := bdL_law_1520.2.2.2.2.2.2.2.2.2
theorem bdL_law_1534 : (decode cL_law 1534 = .ok (.iconst 2, 1)) ∧ (decode cL_law 1535 = .ok (.iadd, 1)) ∧ (decode cL_law 1536 = .ok (.iaload, 1)) ∧ (decode cL_law 1537 = .ok (.aload_n 3, 1)) ∧ (decode cL_law 1538 = .ok (.invokestatic 202, 3)) ∧ (decode cL_law 1541 = .ok (.istore 5, 2)) ∧ (decode cL_law 1543 = .ok (.aload_n 2, 1)) ∧ (decode cL_law 1544 = .ok (.aload_n 0, 1)) ∧ (decode cL_law 1545 = .ok (.iload 4, 2)) ∧ (decode cL_law 1547 = .ok (.iconst 1, 1)) := by decide +kernel
theorem dL_law_1534 : decode cL_law 1534 = .ok (.iconst 2, 1) := bdL_law_1534.1
theorem dL_law_1535 : decode cL_law 1535 = .ok (.iadd, 1) := bdL_law_1534.2.1
theorem dL_law_1536 : decode cL_law 1536 = .ok (.iaload, 1) := bdL_law_1534.2.2.1
theorem dL_law_1537 : decode cL_law 1537 = .ok (.aload_n 3, 1) := bdL_law_1534.2.2.2.1
theorem dL_law_1538 : decode cL_law 1538 = .ok (.invokestatic 202, 3) := bdL_law_1534.2.2.2.2.1
theorem dL_law_1541 : decode cL_law 1541 = .ok (.istore 5, 2) := bdL_law_1534.2.2.2.2.2.1
theorem dL_law_1543 : decode cL_law 1543 = .ok (.aload_n 2, 1) := bdL_law_1534.2.2.2.2.2.2.1
theorem dL_law_1544 : decode cL_law 1544 = .ok (.aload_n 0, 1) := bdL_law_1534.2.2.2.2.2.2.2.1
theorem dL_law_1545 : decode cL_law 1545 = .ok (.iload 4, 2) := bdL_law_1534.2.2.2.2.2.2.2.2.1
theorem dL_law_1547 : decode cL_law 1547 = .ok (.iconst 1, 1) := bdL_law_1534.2.2.2.2.2.2.2.2.2
theorem bdL_law_1548 : (decode cL_law 1548 = .ok (.iadd, 1)) ∧ (decode cL_law 1549 = .ok (.iaload, 1)) ∧ (decode cL_law 1550 = .ok (.aload_n 0, 1)) ∧ (decode cL_law 1551 = .ok (.iload 4, 2)) ∧ (decode cL_law 1553 = .ok (.iconst 2, 1)) ∧ (decode cL_law 1554 = .ok (.iadd, 1)) ∧ (decode cL_law 1555 = .ok (.iaload, 1)) ∧ (decode cL_law 1556 = .ok (.invokevirtual 204, 3)) ∧ (decode cL_law 1559 = .ok (.istore 6, 2)) ∧ (decode cL_law 1561 = .ok (.aload_n 2, 1)) := by decide +kernel
theorem dL_law_1548 : decode cL_law 1548 = .ok (.iadd, 1) := bdL_law_1548.1
theorem dL_law_1549 : decode cL_law 1549 = .ok (.iaload, 1) := bdL_law_1548.2.1
theorem dL_law_1550 : decode cL_law 1550 = .ok (.aload_n 0, 1) := bdL_law_1548.2.2.1
theorem dL_law_1551 : decode cL_law 1551 = .ok (.iload 4, 2) := bdL_law_1548.2.2.2.1
theorem dL_law_1553 : decode cL_law 1553 = .ok (.iconst 2, 1) := bdL_law_1548.2.2.2.2.1
theorem dL_law_1554 : decode cL_law 1554 = .ok (.iadd, 1) := bdL_law_1548.2.2.2.2.2.1
theorem dL_law_1555 : decode cL_law 1555 = .ok (.iaload, 1) := bdL_law_1548.2.2.2.2.2.2.1
theorem dL_law_1556 : decode cL_law 1556 = .ok (.invokevirtual 204, 3) := bdL_law_1548.2.2.2.2.2.2.2.1
theorem dL_law_1559 : decode cL_law 1559 = .ok (.istore 6, 2) := bdL_law_1548.2.2.2.2.2.2.2.2.1
theorem dL_law_1561 : decode cL_law 1561 = .ok (.aload_n 2, 1) := bdL_law_1548.2.2.2.2.2.2.2.2.2
theorem bdL_law_1562 : (decode cL_law 1562 = .ok (.invokevirtual 112, 3)) ∧ (decode cL_law 1565 = .ok (.iload 5, 2)) ∧ (decode cL_law 1567 = .ok (.if_icmp .eq 5, 3)) ∧ (decode cL_law 1570 = .ok (.iconst 0, 1)) ∧ (decode cL_law 1571 = .ok (.ireturn, 1)) ∧ (decode cL_law 1572 = .ok (.iload 5, 2)) ∧ (decode cL_law 1574 = .ok (.ifCond .ne 15, 3)) ∧ (decode cL_law 1577 = .ok (.aload_n 3, 1)) ∧ (decode cL_law 1578 = .ok (.iconst 0, 1)) ∧ (decode cL_law 1579 = .ok (.laload, 1)) := by decide +kernel
theorem dL_law_1562 : decode cL_law 1562 = .ok (.invokevirtual 112, 3) := bdL_law_1562.1
theorem dL_law_1565 : decode cL_law 1565 = .ok (.iload 5, 2) := bdL_law_1562.2.1
theorem dL_law_1567 : decode cL_law 1567 = .ok (.if_icmp .eq 5, 3) := bdL_law_1562.2.2.1
theorem dL_law_1570 : decode cL_law 1570 = .ok (.iconst 0, 1) := bdL_law_1562.2.2.2.1
theorem dL_law_1571 : decode cL_law 1571 = .ok (.ireturn, 1) := bdL_law_1562.2.2.2.2.1
theorem dL_law_1572 : decode cL_law 1572 = .ok (.iload 5, 2) := bdL_law_1562.2.2.2.2.2.1
theorem dL_law_1574 : decode cL_law 1574 = .ok (.ifCond .ne 15, 3) := bdL_law_1562.2.2.2.2.2.2.1
theorem dL_law_1577 : decode cL_law 1577 = .ok (.aload_n 3, 1) := bdL_law_1562.2.2.2.2.2.2.2.1
theorem dL_law_1578 : decode cL_law 1578 = .ok (.iconst 0, 1) := bdL_law_1562.2.2.2.2.2.2.2.2.1
theorem dL_law_1579 : decode cL_law 1579 = .ok (.laload, 1) := bdL_law_1562.2.2.2.2.2.2.2.2.2
theorem bdL_law_1580 : (decode cL_law 1580 = .ok (.iload 6, 2)) ∧ (decode cL_law 1582 = .ok (.i2l, 1)) ∧ (decode cL_law 1583 = .ok (.lcmp, 1)) ∧ (decode cL_law 1584 = .ok (.ifCond .eq 5, 3)) ∧ (decode cL_law 1587 = .ok (.iconst 0, 1)) ∧ (decode cL_law 1588 = .ok (.ireturn, 1)) ∧ (decode cL_law 1589 = .ok (.goto 620, 3)) ∧ (decode cL_law 1592 = .ok (.aload_n 1, 1)) ∧ (decode cL_law 1593 = .ok (.aload_n 0, 1)) ∧ (decode cL_law 1594 = .ok (.iload 4, 2)) := by decide +kernel
theorem dL_law_1580 : decode cL_law 1580 = .ok (.iload 6, 2) := bdL_law_1580.1
theorem dL_law_1582 : decode cL_law 1582 = .ok (.i2l, 1) := bdL_law_1580.2.1
theorem dL_law_1583 : decode cL_law 1583 = .ok (.lcmp, 1) := bdL_law_1580.2.2.1
theorem dL_law_1584 : decode cL_law 1584 = .ok (.ifCond .eq 5, 3) := bdL_law_1580.2.2.2.1
theorem dL_law_1587 : decode cL_law 1587 = .ok (.iconst 0, 1) := bdL_law_1580.2.2.2.2.1
theorem dL_law_1588 : decode cL_law 1588 = .ok (.ireturn, 1) := bdL_law_1580.2.2.2.2.2.1
theorem dL_law_1589 : decode cL_law 1589 = .ok (.goto 620, 3) := bdL_law_1580.2.2.2.2.2.2.1
theorem dL_law_1592 : decode cL_law 1592 = .ok (.aload_n 1, 1) := bdL_law_1580.2.2.2.2.2.2.2.1
theorem dL_law_1593 : decode cL_law 1593 = .ok (.aload_n 0, 1) := bdL_law_1580.2.2.2.2.2.2.2.2.1
theorem dL_law_1594 : decode cL_law 1594 = .ok (.iload 4, 2) := bdL_law_1580.2.2.2.2.2.2.2.2.2
theorem bdL_law_1596 : (decode cL_law 1596 = .ok (.iconst 1, 1)) ∧ (decode cL_law 1597 = .ok (.iadd, 1)) ∧ (decode cL_law 1598 = .ok (.iaload, 1)) ∧ (decode cL_law 1599 = .ok (.aload_n 3, 1)) ∧ (decode cL_law 1600 = .ok (.invokestatic 205, 3)) ∧ (decode cL_law 1603 = .ok (.istore 5, 2)) ∧ (decode cL_law 1605 = .ok (.aload_n 2, 1)) ∧ (decode cL_law 1606 = .ok (.aload_n 0, 1)) ∧ (decode cL_law 1607 = .ok (.iload 4, 2)) ∧ (decode cL_law 1609 = .ok (.iconst 1, 1)) := by decide +kernel
theorem dL_law_1596 : decode cL_law 1596 = .ok (.iconst 1, 1) := bdL_law_1596.1
theorem dL_law_1597 : decode cL_law 1597 = .ok (.iadd, 1) := bdL_law_1596.2.1
theorem dL_law_1598 : decode cL_law 1598 = .ok (.iaload, 1) := bdL_law_1596.2.2.1
theorem dL_law_1599 : decode cL_law 1599 = .ok (.aload_n 3, 1) := bdL_law_1596.2.2.2.1
theorem dL_law_1600 : decode cL_law 1600 = .ok (.invokestatic 205, 3) := bdL_law_1596.2.2.2.2.1
theorem dL_law_1603 : decode cL_law 1603 = .ok (.istore 5, 2) := bdL_law_1596.2.2.2.2.2.1
theorem dL_law_1605 : decode cL_law 1605 = .ok (.aload_n 2, 1) := bdL_law_1596.2.2.2.2.2.2.1
theorem dL_law_1606 : decode cL_law 1606 = .ok (.aload_n 0, 1) := bdL_law_1596.2.2.2.2.2.2.2.1
theorem dL_law_1607 : decode cL_law 1607 = .ok (.iload 4, 2) := bdL_law_1596.2.2.2.2.2.2.2.2.1
theorem dL_law_1609 : decode cL_law 1609 = .ok (.iconst 1, 1) := bdL_law_1596.2.2.2.2.2.2.2.2.2
theorem bdL_law_1610 : (decode cL_law 1610 = .ok (.iadd, 1)) ∧ (decode cL_law 1611 = .ok (.iaload, 1)) ∧ (decode cL_law 1612 = .ok (.invokevirtual 207, 3)) ∧ (decode cL_law 1615 = .ok (.istore 6, 2)) ∧ (decode cL_law 1617 = .ok (.aload_n 2, 1)) ∧ (decode cL_law 1618 = .ok (.invokevirtual 112, 3)) ∧ (decode cL_law 1621 = .ok (.iload 5, 2)) ∧ (decode cL_law 1623 = .ok (.if_icmp .eq 5, 3)) ∧ (decode cL_law 1626 = .ok (.iconst 0, 1)) ∧ (decode cL_law 1627 = .ok (.ireturn, 1)) := by decide +kernel
theorem dL_law_1610 : decode cL_law 1610 = .ok (.iadd, 1) := bdL_law_1610.1
theorem dL_law_1611 : decode cL_law 1611 = .ok (.iaload, 1) := bdL_law_1610.2.1
theorem dL_law_1612 : decode cL_law 1612 = .ok (.invokevirtual 207, 3) := bdL_law_1610.2.2.1
theorem dL_law_1615 : decode cL_law 1615 = .ok (.istore 6, 2) := bdL_law_1610.2.2.2.1
theorem dL_law_1617 : decode cL_law 1617 = .ok (.aload_n 2, 1) := bdL_law_1610.2.2.2.2.1
theorem dL_law_1618 : decode cL_law 1618 = .ok (.invokevirtual 112, 3) := bdL_law_1610.2.2.2.2.2.1
theorem dL_law_1621 : decode cL_law 1621 = .ok (.iload 5, 2) := bdL_law_1610.2.2.2.2.2.2.1
theorem dL_law_1623 : decode cL_law 1623 = .ok (.if_icmp .eq 5, 3) := bdL_law_1610.2.2.2.2.2.2.2.1
theorem dL_law_1626 : decode cL_law 1626 = .ok (.iconst 0, 1) := bdL_law_1610.2.2.2.2.2.2.2.2.1
theorem dL_law_1627 : decode cL_law 1627 = .ok (.ireturn, 1) := bdL_law_1610.2.2.2.2.2.2.2.2.2
theorem bdL_law_1628 : (decode cL_law 1628 = .ok (.iload 5, 2)) ∧ (decode cL_law 1630 = .ok (.ifCond .ne 15, 3)) ∧ (decode cL_law 1633 = .ok (.aload_n 3, 1)) ∧ (decode cL_law 1634 = .ok (.iconst 0, 1)) ∧ (decode cL_law 1635 = .ok (.laload, 1)) ∧ (decode cL_law 1636 = .ok (.iload 6, 2)) ∧ (decode cL_law 1638 = .ok (.i2l, 1)) ∧ (decode cL_law 1639 = .ok (.lcmp, 1)) ∧ (decode cL_law 1640 = .ok (.ifCond .eq 5, 3)) ∧ (decode cL_law 1643 = .ok (.iconst 0, 1)) := by decide +kernel
theorem dL_law_1628 : decode cL_law 1628 = .ok (.iload 5, 2) := bdL_law_1628.1
theorem dL_law_1630 : decode cL_law 1630 = .ok (.ifCond .ne 15, 3) := bdL_law_1628.2.1
theorem dL_law_1633 : decode cL_law 1633 = .ok (.aload_n 3, 1) := bdL_law_1628.2.2.1
theorem dL_law_1634 : decode cL_law 1634 = .ok (.iconst 0, 1) := bdL_law_1628.2.2.2.1
theorem dL_law_1635 : decode cL_law 1635 = .ok (.laload, 1) := bdL_law_1628.2.2.2.2.1
theorem dL_law_1636 : decode cL_law 1636 = .ok (.iload 6, 2) := bdL_law_1628.2.2.2.2.2.1
theorem dL_law_1638 : decode cL_law 1638 = .ok (.i2l, 1) := bdL_law_1628.2.2.2.2.2.2.1
theorem dL_law_1639 : decode cL_law 1639 = .ok (.lcmp, 1) := bdL_law_1628.2.2.2.2.2.2.2.1
theorem dL_law_1640 : decode cL_law 1640 = .ok (.ifCond .eq 5, 3) := bdL_law_1628.2.2.2.2.2.2.2.2.1
theorem dL_law_1643 : decode cL_law 1643 = .ok (.iconst 0, 1) := bdL_law_1628.2.2.2.2.2.2.2.2.2
theorem bdL_law_1644 : (decode cL_law 1644 = .ok (.ireturn, 1)) ∧ (decode cL_law 1645 = .ok (.goto 564, 3)) ∧ (decode cL_law 1648 = .ok (.aload_n 1, 1)) ∧ (decode cL_law 1649 = .ok (.aload_n 0, 1)) ∧ (decode cL_law 1650 = .ok (.iload 4, 2)) ∧ (decode cL_law 1652 = .ok (.iconst 1, 1)) ∧ (decode cL_law 1653 = .ok (.iadd, 1)) ∧ (decode cL_law 1654 = .ok (.iaload, 1)) ∧ (decode cL_law 1655 = .ok (.aload_n 3, 1)) ∧ (decode cL_law 1656 = .ok (.invokestatic 208, 3)) := by decide +kernel
theorem dL_law_1644 : decode cL_law 1644 = .ok (.ireturn, 1) := bdL_law_1644.1
theorem dL_law_1645 : decode cL_law 1645 = .ok (.goto 564, 3) := bdL_law_1644.2.1
theorem dL_law_1648 : decode cL_law 1648 = .ok (.aload_n 1, 1) := bdL_law_1644.2.2.1
theorem dL_law_1649 : decode cL_law 1649 = .ok (.aload_n 0, 1) := bdL_law_1644.2.2.2.1
theorem dL_law_1650 : decode cL_law 1650 = .ok (.iload 4, 2) := bdL_law_1644.2.2.2.2.1
theorem dL_law_1652 : decode cL_law 1652 = .ok (.iconst 1, 1) := bdL_law_1644.2.2.2.2.2.1
theorem dL_law_1653 : decode cL_law 1653 = .ok (.iadd, 1) := bdL_law_1644.2.2.2.2.2.2.1
theorem dL_law_1654 : decode cL_law 1654 = .ok (.iaload, 1) := bdL_law_1644.2.2.2.2.2.2.2.1
theorem dL_law_1655 : decode cL_law 1655 = .ok (.aload_n 3, 1) := bdL_law_1644.2.2.2.2.2.2.2.2.1
theorem dL_law_1656 : decode cL_law 1656 = .ok (.invokestatic 208, 3) := bdL_law_1644.2.2.2.2.2.2.2.2.2
theorem bdL_law_1659 : (decode cL_law 1659 = .ok (.istore 5, 2)) ∧ (decode cL_law 1661 = .ok (.aload_n 2, 1)) ∧ (decode cL_law 1662 = .ok (.aload_n 0, 1)) ∧ (decode cL_law 1663 = .ok (.iload 4, 2)) ∧ (decode cL_law 1665 = .ok (.iconst 1, 1)) ∧ (decode cL_law 1666 = .ok (.iadd, 1)) ∧ (decode cL_law 1667 = .ok (.iaload, 1)) ∧ (decode cL_law 1668 = .ok (.invokevirtual 210, 3)) ∧ (decode cL_law 1671 = .ok (.istore 6, 2)) ∧ (decode cL_law 1673 = .ok (.aload_n 2, 1)) := by decide +kernel
theorem dL_law_1659 : decode cL_law 1659 = .ok (.istore 5, 2) := bdL_law_1659.1
theorem dL_law_1661 : decode cL_law 1661 = .ok (.aload_n 2, 1) := bdL_law_1659.2.1
theorem dL_law_1662 : decode cL_law 1662 = .ok (.aload_n 0, 1) := bdL_law_1659.2.2.1
theorem dL_law_1663 : decode cL_law 1663 = .ok (.iload 4, 2) := bdL_law_1659.2.2.2.1
theorem dL_law_1665 : decode cL_law 1665 = .ok (.iconst 1, 1) := bdL_law_1659.2.2.2.2.1
theorem dL_law_1666 : decode cL_law 1666 = .ok (.iadd, 1) := bdL_law_1659.2.2.2.2.2.1
theorem dL_law_1667 : decode cL_law 1667 = .ok (.iaload, 1) := bdL_law_1659.2.2.2.2.2.2.1
theorem dL_law_1668 : decode cL_law 1668 = .ok (.invokevirtual 210, 3) := bdL_law_1659.2.2.2.2.2.2.2.1
theorem dL_law_1671 : decode cL_law 1671 = .ok (.istore 6, 2) := bdL_law_1659.2.2.2.2.2.2.2.2.1
theorem dL_law_1673 : decode cL_law 1673 = .ok (.aload_n 2, 1) := bdL_law_1659.2.2.2.2.2.2.2.2.2
theorem bdL_law_1674 : (decode cL_law 1674 = .ok (.invokevirtual 112, 3)) ∧ (decode cL_law 1677 = .ok (.iload 5, 2)) ∧ (decode cL_law 1679 = .ok (.if_icmp .eq 5, 3)) ∧ (decode cL_law 1682 = .ok (.iconst 0, 1)) ∧ (decode cL_law 1683 = .ok (.ireturn, 1)) ∧ (decode cL_law 1684 = .ok (.iload 5, 2)) ∧ (decode cL_law 1686 = .ok (.ifCond .ne 15, 3)) ∧ (decode cL_law 1689 = .ok (.aload_n 3, 1)) ∧ (decode cL_law 1690 = .ok (.iconst 0, 1)) ∧ (decode cL_law 1691 = .ok (.laload, 1)) := by decide +kernel
theorem dL_law_1674 : decode cL_law 1674 = .ok (.invokevirtual 112, 3) := bdL_law_1674.1
theorem dL_law_1677 : decode cL_law 1677 = .ok (.iload 5, 2) := bdL_law_1674.2.1
theorem dL_law_1679 : decode cL_law 1679 = .ok (.if_icmp .eq 5, 3) := bdL_law_1674.2.2.1
theorem dL_law_1682 : decode cL_law 1682 = .ok (.iconst 0, 1) := bdL_law_1674.2.2.2.1
theorem dL_law_1683 : decode cL_law 1683 = .ok (.ireturn, 1) := bdL_law_1674.2.2.2.2.1
theorem dL_law_1684 : decode cL_law 1684 = .ok (.iload 5, 2) := bdL_law_1674.2.2.2.2.2.1
theorem dL_law_1686 : decode cL_law 1686 = .ok (.ifCond .ne 15, 3) := bdL_law_1674.2.2.2.2.2.2.1
theorem dL_law_1689 : decode cL_law 1689 = .ok (.aload_n 3, 1) := bdL_law_1674.2.2.2.2.2.2.2.1
theorem dL_law_1690 : decode cL_law 1690 = .ok (.iconst 0, 1) := bdL_law_1674.2.2.2.2.2.2.2.2.1
theorem dL_law_1691 : decode cL_law 1691 = .ok (.laload, 1) := bdL_law_1674.2.2.2.2.2.2.2.2.2
theorem bdL_law_1692 : (decode cL_law 1692 = .ok (.iload 6, 2)) ∧ (decode cL_law 1694 = .ok (.i2l, 1)) ∧ (decode cL_law 1695 = .ok (.lcmp, 1)) ∧ (decode cL_law 1696 = .ok (.ifCond .eq 5, 3)) ∧ (decode cL_law 1699 = .ok (.iconst 0, 1)) ∧ (decode cL_law 1700 = .ok (.ireturn, 1)) ∧ (decode cL_law 1701 = .ok (.goto 508, 3)) ∧ (decode cL_law 1704 = .ok (.aload_n 1, 1)) ∧ (decode cL_law 1705 = .ok (.aload_n 0, 1)) ∧ (decode cL_law 1706 = .ok (.iload 4, 2)) := by decide +kernel
theorem dL_law_1692 : decode cL_law 1692 = .ok (.iload 6, 2) := bdL_law_1692.1
theorem dL_law_1694 : decode cL_law 1694 = .ok (.i2l, 1) := bdL_law_1692.2.1
theorem dL_law_1695 : decode cL_law 1695 = .ok (.lcmp, 1) := bdL_law_1692.2.2.1
theorem dL_law_1696 : decode cL_law 1696 = .ok (.ifCond .eq 5, 3) := bdL_law_1692.2.2.2.1
theorem dL_law_1699 : decode cL_law 1699 = .ok (.iconst 0, 1) := bdL_law_1692.2.2.2.2.1
theorem dL_law_1700 : decode cL_law 1700 = .ok (.ireturn, 1) := bdL_law_1692.2.2.2.2.2.1
theorem dL_law_1701 : decode cL_law 1701 = .ok (.goto 508, 3) := bdL_law_1692.2.2.2.2.2.2.1
theorem dL_law_1704 : decode cL_law 1704 = .ok (.aload_n 1, 1) := bdL_law_1692.2.2.2.2.2.2.2.1
theorem dL_law_1705 : decode cL_law 1705 = .ok (.aload_n 0, 1) := bdL_law_1692.2.2.2.2.2.2.2.2.1
theorem dL_law_1706 : decode cL_law 1706 = .ok (.iload 4, 2) := bdL_law_1692.2.2.2.2.2.2.2.2.2
theorem bdL_law_1708 : (decode cL_law 1708 = .ok (.iconst 1, 1)) ∧ (decode cL_law 1709 = .ok (.iadd, 1)) ∧ (decode cL_law 1710 = .ok (.iaload, 1)) ∧ (decode cL_law 1711 = .ok (.aload_n 0, 1)) ∧ (decode cL_law 1712 = .ok (.iload 4, 2)) ∧ (decode cL_law 1714 = .ok (.iconst 2, 1)) ∧ (decode cL_law 1715 = .ok (.iadd, 1)) ∧ (decode cL_law 1716 = .ok (.iaload, 1)) ∧ (decode cL_law 1717 = .ok (.aload_n 3, 1)) ∧ (decode cL_law 1718 = .ok (.invokestatic 211, 3)) := by decide +kernel
theorem dL_law_1708 : decode cL_law 1708 = .ok (.iconst 1, 1) := bdL_law_1708.1
theorem dL_law_1709 : decode cL_law 1709 = .ok (.iadd, 1) := bdL_law_1708.2.1
theorem dL_law_1710 : decode cL_law 1710 = .ok (.iaload, 1) := bdL_law_1708.2.2.1
theorem dL_law_1711 : decode cL_law 1711 = .ok (.aload_n 0, 1) := bdL_law_1708.2.2.2.1
theorem dL_law_1712 : decode cL_law 1712 = .ok (.iload 4, 2) := bdL_law_1708.2.2.2.2.1
theorem dL_law_1714 : decode cL_law 1714 = .ok (.iconst 2, 1) := bdL_law_1708.2.2.2.2.2.1
theorem dL_law_1715 : decode cL_law 1715 = .ok (.iadd, 1) := bdL_law_1708.2.2.2.2.2.2.1
theorem dL_law_1716 : decode cL_law 1716 = .ok (.iaload, 1) := bdL_law_1708.2.2.2.2.2.2.2.1
theorem dL_law_1717 : decode cL_law 1717 = .ok (.aload_n 3, 1) := bdL_law_1708.2.2.2.2.2.2.2.2.1
theorem dL_law_1718 : decode cL_law 1718 = .ok (.invokestatic 211, 3) := bdL_law_1708.2.2.2.2.2.2.2.2.2
theorem bdL_law_1721 : (decode cL_law 1721 = .ok (.istore 5, 2)) ∧ (decode cL_law 1723 = .ok (.aload_n 2, 1)) ∧ (decode cL_law 1724 = .ok (.aload_n 0, 1)) ∧ (decode cL_law 1725 = .ok (.iload 4, 2)) ∧ (decode cL_law 1727 = .ok (.iconst 1, 1)) ∧ (decode cL_law 1728 = .ok (.iadd, 1)) ∧ (decode cL_law 1729 = .ok (.iaload, 1)) ∧ (decode cL_law 1730 = .ok (.aload_n 0, 1)) ∧ (decode cL_law 1731 = .ok (.iload 4, 2)) ∧ (decode cL_law 1733 = .ok (.iconst 2, 1)) := by decide +kernel
theorem dL_law_1721 : decode cL_law 1721 = .ok (.istore 5, 2) := bdL_law_1721.1
theorem dL_law_1723 : decode cL_law 1723 = .ok (.aload_n 2, 1) := bdL_law_1721.2.1
theorem dL_law_1724 : decode cL_law 1724 = .ok (.aload_n 0, 1) := bdL_law_1721.2.2.1
theorem dL_law_1725 : decode cL_law 1725 = .ok (.iload 4, 2) := bdL_law_1721.2.2.2.1
theorem dL_law_1727 : decode cL_law 1727 = .ok (.iconst 1, 1) := bdL_law_1721.2.2.2.2.1
theorem dL_law_1728 : decode cL_law 1728 = .ok (.iadd, 1) := bdL_law_1721.2.2.2.2.2.1
theorem dL_law_1729 : decode cL_law 1729 = .ok (.iaload, 1) := bdL_law_1721.2.2.2.2.2.2.1
theorem dL_law_1730 : decode cL_law 1730 = .ok (.aload_n 0, 1) := bdL_law_1721.2.2.2.2.2.2.2.1
theorem dL_law_1731 : decode cL_law 1731 = .ok (.iload 4, 2) := bdL_law_1721.2.2.2.2.2.2.2.2.1
theorem dL_law_1733 : decode cL_law 1733 = .ok (.iconst 2, 1) := bdL_law_1721.2.2.2.2.2.2.2.2.2
theorem bdL_law_1734 : (decode cL_law 1734 = .ok (.iadd, 1)) ∧ (decode cL_law 1735 = .ok (.iaload, 1)) ∧ (decode cL_law 1736 = .ok (.invokevirtual 213, 3)) ∧ (decode cL_law 1739 = .ok (.istore 6, 2)) ∧ (decode cL_law 1741 = .ok (.aload_n 2, 1)) ∧ (decode cL_law 1742 = .ok (.invokevirtual 112, 3)) ∧ (decode cL_law 1745 = .ok (.iload 5, 2)) ∧ (decode cL_law 1747 = .ok (.if_icmp .eq 5, 3)) ∧ (decode cL_law 1750 = .ok (.iconst 0, 1)) ∧ (decode cL_law 1751 = .ok (.ireturn, 1)) := by decide +kernel
theorem dL_law_1734 : decode cL_law 1734 = .ok (.iadd, 1) := bdL_law_1734.1
theorem dL_law_1735 : decode cL_law 1735 = .ok (.iaload, 1) := bdL_law_1734.2.1
theorem dL_law_1736 : decode cL_law 1736 = .ok (.invokevirtual 213, 3) := bdL_law_1734.2.2.1
theorem dL_law_1739 : decode cL_law 1739 = .ok (.istore 6, 2) := bdL_law_1734.2.2.2.1
theorem dL_law_1741 : decode cL_law 1741 = .ok (.aload_n 2, 1) := bdL_law_1734.2.2.2.2.1
theorem dL_law_1742 : decode cL_law 1742 = .ok (.invokevirtual 112, 3) := bdL_law_1734.2.2.2.2.2.1
theorem dL_law_1745 : decode cL_law 1745 = .ok (.iload 5, 2) := bdL_law_1734.2.2.2.2.2.2.1
theorem dL_law_1747 : decode cL_law 1747 = .ok (.if_icmp .eq 5, 3) := bdL_law_1734.2.2.2.2.2.2.2.1
theorem dL_law_1750 : decode cL_law 1750 = .ok (.iconst 0, 1) := bdL_law_1734.2.2.2.2.2.2.2.2.1
theorem dL_law_1751 : decode cL_law 1751 = .ok (.ireturn, 1) := bdL_law_1734.2.2.2.2.2.2.2.2.2
theorem bdL_law_1752 : (decode cL_law 1752 = .ok (.iload 5, 2)) ∧ (decode cL_law 1754 = .ok (.ifCond .ne 15, 3)) ∧ (decode cL_law 1757 = .ok (.aload_n 3, 1)) ∧ (decode cL_law 1758 = .ok (.iconst 0, 1)) ∧ (decode cL_law 1759 = .ok (.laload, 1)) ∧ (decode cL_law 1760 = .ok (.iload 6, 2)) ∧ (decode cL_law 1762 = .ok (.i2l, 1)) ∧ (decode cL_law 1763 = .ok (.lcmp, 1)) ∧ (decode cL_law 1764 = .ok (.ifCond .eq 5, 3)) ∧ (decode cL_law 1767 = .ok (.iconst 0, 1)) := by decide +kernel
theorem dL_law_1752 : decode cL_law 1752 = .ok (.iload 5, 2) := bdL_law_1752.1
theorem dL_law_1754 : decode cL_law 1754 = .ok (.ifCond .ne 15, 3) := bdL_law_1752.2.1
theorem dL_law_1757 : decode cL_law 1757 = .ok (.aload_n 3, 1) := bdL_law_1752.2.2.1
theorem dL_law_1758 : decode cL_law 1758 = .ok (.iconst 0, 1) := bdL_law_1752.2.2.2.1
theorem dL_law_1759 : decode cL_law 1759 = .ok (.laload, 1) := bdL_law_1752.2.2.2.2.1
theorem dL_law_1760 : decode cL_law 1760 = .ok (.iload 6, 2) := bdL_law_1752.2.2.2.2.2.1
theorem dL_law_1762 : decode cL_law 1762 = .ok (.i2l, 1) := bdL_law_1752.2.2.2.2.2.2.1
theorem dL_law_1763 : decode cL_law 1763 = .ok (.lcmp, 1) := bdL_law_1752.2.2.2.2.2.2.2.1
theorem dL_law_1764 : decode cL_law 1764 = .ok (.ifCond .eq 5, 3) := bdL_law_1752.2.2.2.2.2.2.2.2.1
theorem dL_law_1767 : decode cL_law 1767 = .ok (.iconst 0, 1) := bdL_law_1752.2.2.2.2.2.2.2.2.2
theorem bdL_law_1768 : (decode cL_law 1768 = .ok (.ireturn, 1)) ∧ (decode cL_law 1769 = .ok (.goto 440, 3)) ∧ (decode cL_law 1772 = .ok (.aload_n 1, 1)) ∧ (decode cL_law 1773 = .ok (.invokevirtual 214, 3)) ∧ (decode cL_law 1776 = .ok (.aload_n 2, 1)) ∧ (decode cL_law 1777 = .ok (.invokevirtual 217, 3)) ∧ (decode cL_law 1780 = .ok (.if_icmp .eq 429, 3)) ∧ (decode cL_law 1783 = .ok (.iconst 0, 1)) ∧ (decode cL_law 1784 = .ok (.ireturn, 1)) ∧ (decode cL_law 1785 = .ok (.aload_n 1, 1)) := by decide +kernel
theorem dL_law_1768 : decode cL_law 1768 = .ok (.ireturn, 1) := bdL_law_1768.1
theorem dL_law_1769 : decode cL_law 1769 = .ok (.goto 440, 3) := bdL_law_1768.2.1
theorem dL_law_1772 : decode cL_law 1772 = .ok (.aload_n 1, 1) := bdL_law_1768.2.2.1
theorem dL_law_1773 : decode cL_law 1773 = .ok (.invokevirtual 214, 3) := bdL_law_1768.2.2.2.1
theorem dL_law_1776 : decode cL_law 1776 = .ok (.aload_n 2, 1) := bdL_law_1768.2.2.2.2.1
theorem dL_law_1777 : decode cL_law 1777 = .ok (.invokevirtual 217, 3) := bdL_law_1768.2.2.2.2.2.1
theorem dL_law_1780 : decode cL_law 1780 = .ok (.if_icmp .eq 429, 3) := bdL_law_1768.2.2.2.2.2.2.1
theorem dL_law_1783 : decode cL_law 1783 = .ok (.iconst 0, 1) := bdL_law_1768.2.2.2.2.2.2.2.1
theorem dL_law_1784 : decode cL_law 1784 = .ok (.ireturn, 1) := bdL_law_1768.2.2.2.2.2.2.2.2.1
theorem dL_law_1785 : decode cL_law 1785 = .ok (.aload_n 1, 1) := bdL_law_1768.2.2.2.2.2.2.2.2.2
theorem bdL_law_1786 : (decode cL_law 1786 = .ok (.aload_n 0, 1)) ∧ (decode cL_law 1787 = .ok (.iload 4, 2)) ∧ (decode cL_law 1789 = .ok (.iconst 1, 1)) ∧ (decode cL_law 1790 = .ok (.iadd, 1)) ∧ (decode cL_law 1791 = .ok (.iaload, 1)) ∧ (decode cL_law 1792 = .ok (.aload_n 3, 1)) ∧ (decode cL_law 1793 = .ok (.invokestatic 218, 3)) ∧ (decode cL_law 1796 = .ok (.istore 5, 2)) ∧ (decode cL_law 1798 = .ok (.aload_n 2, 1)) ∧ (decode cL_law 1799 = .ok (.aload_n 0, 1)) := by decide +kernel
theorem dL_law_1786 : decode cL_law 1786 = .ok (.aload_n 0, 1) := bdL_law_1786.1
theorem dL_law_1787 : decode cL_law 1787 = .ok (.iload 4, 2) := bdL_law_1786.2.1
theorem dL_law_1789 : decode cL_law 1789 = .ok (.iconst 1, 1) := bdL_law_1786.2.2.1
theorem dL_law_1790 : decode cL_law 1790 = .ok (.iadd, 1) := bdL_law_1786.2.2.2.1
theorem dL_law_1791 : decode cL_law 1791 = .ok (.iaload, 1) := bdL_law_1786.2.2.2.2.1
theorem dL_law_1792 : decode cL_law 1792 = .ok (.aload_n 3, 1) := bdL_law_1786.2.2.2.2.2.1
theorem dL_law_1793 : decode cL_law 1793 = .ok (.invokestatic 218, 3) := bdL_law_1786.2.2.2.2.2.2.1
theorem dL_law_1796 : decode cL_law 1796 = .ok (.istore 5, 2) := bdL_law_1786.2.2.2.2.2.2.2.1
theorem dL_law_1798 : decode cL_law 1798 = .ok (.aload_n 2, 1) := bdL_law_1786.2.2.2.2.2.2.2.2.1
theorem dL_law_1799 : decode cL_law 1799 = .ok (.aload_n 0, 1) := bdL_law_1786.2.2.2.2.2.2.2.2.2
theorem bdL_law_1800 : (decode cL_law 1800 = .ok (.iload 4, 2)) ∧ (decode cL_law 1802 = .ok (.iconst 1, 1)) ∧ (decode cL_law 1803 = .ok (.iadd, 1)) ∧ (decode cL_law 1804 = .ok (.iaload, 1)) ∧ (decode cL_law 1805 = .ok (.invokevirtual 220, 3)) ∧ (decode cL_law 1808 = .ok (.istore 6, 2)) ∧ (decode cL_law 1810 = .ok (.aload_n 2, 1)) ∧ (decode cL_law 1811 = .ok (.invokevirtual 112, 3)) ∧ (decode cL_law 1814 = .ok (.iload 5, 2)) ∧ (decode cL_law 1816 = .ok (.if_icmp .eq 5, 3)) := by decide +kernel
theorem dL_law_1800 : decode cL_law 1800 = .ok (.iload 4, 2) := bdL_law_1800.1
theorem dL_law_1802 : decode cL_law 1802 = .ok (.iconst 1, 1) := bdL_law_1800.2.1
theorem dL_law_1803 : decode cL_law 1803 = .ok (.iadd, 1) := bdL_law_1800.2.2.1
theorem dL_law_1804 : decode cL_law 1804 = .ok (.iaload, 1) := bdL_law_1800.2.2.2.1
theorem dL_law_1805 : decode cL_law 1805 = .ok (.invokevirtual 220, 3) := bdL_law_1800.2.2.2.2.1
theorem dL_law_1808 : decode cL_law 1808 = .ok (.istore 6, 2) := bdL_law_1800.2.2.2.2.2.1
theorem dL_law_1810 : decode cL_law 1810 = .ok (.aload_n 2, 1) := bdL_law_1800.2.2.2.2.2.2.1
theorem dL_law_1811 : decode cL_law 1811 = .ok (.invokevirtual 112, 3) := bdL_law_1800.2.2.2.2.2.2.2.1
theorem dL_law_1814 : decode cL_law 1814 = .ok (.iload 5, 2) := bdL_law_1800.2.2.2.2.2.2.2.2.1
theorem dL_law_1816 : decode cL_law 1816 = .ok (.if_icmp .eq 5, 3) := bdL_law_1800.2.2.2.2.2.2.2.2.2
theorem bdL_law_1819 : (decode cL_law 1819 = .ok (.iconst 0, 1)) ∧ (decode cL_law 1820 = .ok (.ireturn, 1)) ∧ (decode cL_law 1821 = .ok (.iload 5, 2)) ∧ (decode cL_law 1823 = .ok (.ifCond .ne 15, 3)) ∧ (decode cL_law 1826 = .ok (.aload_n 3, 1)) ∧ (decode cL_law 1827 = .ok (.iconst 0, 1)) ∧ (decode cL_law 1828 = .ok (.laload, 1)) ∧ (decode cL_law 1829 = .ok (.iload 6, 2)) ∧ (decode cL_law 1831 = .ok (.i2l, 1)) ∧ (decode cL_law 1832 = .ok (.lcmp, 1)) := by decide +kernel
theorem dL_law_1819 : decode cL_law 1819 = .ok (.iconst 0, 1) := bdL_law_1819.1
theorem dL_law_1820 : decode cL_law 1820 = .ok (.ireturn, 1) := bdL_law_1819.2.1
theorem dL_law_1821 : decode cL_law 1821 = .ok (.iload 5, 2) := bdL_law_1819.2.2.1
theorem dL_law_1823 : decode cL_law 1823 = .ok (.ifCond .ne 15, 3) := bdL_law_1819.2.2.2.1
theorem dL_law_1826 : decode cL_law 1826 = .ok (.aload_n 3, 1) := bdL_law_1819.2.2.2.2.1
theorem dL_law_1827 : decode cL_law 1827 = .ok (.iconst 0, 1) := bdL_law_1819.2.2.2.2.2.1
theorem dL_law_1828 : decode cL_law 1828 = .ok (.laload, 1) := bdL_law_1819.2.2.2.2.2.2.1
theorem dL_law_1829 : decode cL_law 1829 = .ok (.iload 6, 2) := bdL_law_1819.2.2.2.2.2.2.2.1
theorem dL_law_1831 : decode cL_law 1831 = .ok (.i2l, 1) := bdL_law_1819.2.2.2.2.2.2.2.2.1
theorem dL_law_1832 : decode cL_law 1832 = .ok (.lcmp, 1) := bdL_law_1819.2.2.2.2.2.2.2.2.2
theorem bdL_law_1833 : (decode cL_law 1833 = .ok (.ifCond .eq 5, 3)) ∧ (decode cL_law 1836 = .ok (.iconst 0, 1)) ∧ (decode cL_law 1837 = .ok (.ireturn, 1)) ∧ (decode cL_law 1838 = .ok (.goto 371, 3)) ∧ (decode cL_law 1841 = .ok (.aload_n 1, 1)) ∧ (decode cL_law 1842 = .ok (.aload_n 0, 1)) ∧ (decode cL_law 1843 = .ok (.iload 4, 2)) ∧ (decode cL_law 1845 = .ok (.iconst 1, 1)) ∧ (decode cL_law 1846 = .ok (.iadd, 1)) ∧ (decode cL_law 1847 = .ok (.iaload, 1)) := by decide +kernel
theorem dL_law_1833 : decode cL_law 1833 = .ok (.ifCond .eq 5, 3) := bdL_law_1833.1
theorem dL_law_1836 : decode cL_law 1836 = .ok (.iconst 0, 1) := bdL_law_1833.2.1
theorem dL_law_1837 : decode cL_law 1837 = .ok (.ireturn, 1) := bdL_law_1833.2.2.1
theorem dL_law_1838 : decode cL_law 1838 = .ok (.goto 371, 3) := bdL_law_1833.2.2.2.1
theorem dL_law_1841 : decode cL_law 1841 = .ok (.aload_n 1, 1) := bdL_law_1833.2.2.2.2.1
theorem dL_law_1842 : decode cL_law 1842 = .ok (.aload_n 0, 1) := bdL_law_1833.2.2.2.2.2.1
theorem dL_law_1843 : decode cL_law 1843 = .ok (.iload 4, 2) := bdL_law_1833.2.2.2.2.2.2.1
theorem dL_law_1845 : decode cL_law 1845 = .ok (.iconst 1, 1) := bdL_law_1833.2.2.2.2.2.2.2.1
theorem dL_law_1846 : decode cL_law 1846 = .ok (.iadd, 1) := bdL_law_1833.2.2.2.2.2.2.2.2.1
theorem dL_law_1847 : decode cL_law 1847 = .ok (.iaload, 1) := bdL_law_1833.2.2.2.2.2.2.2.2.2
theorem bdL_law_1848 : (decode cL_law 1848 = .ok (.aload_n 0, 1)) ∧ (decode cL_law 1849 = .ok (.iload 4, 2)) ∧ (decode cL_law 1851 = .ok (.iconst 2, 1)) ∧ (decode cL_law 1852 = .ok (.iadd, 1)) ∧ (decode cL_law 1853 = .ok (.iaload, 1)) ∧ (decode cL_law 1854 = .ok (.aload_n 0, 1)) ∧ (decode cL_law 1855 = .ok (.iload 4, 2)) ∧ (decode cL_law 1857 = .ok (.iconst 3, 1)) ∧ (decode cL_law 1858 = .ok (.iadd, 1)) ∧ (decode cL_law 1859 = .ok (.iaload, 1)) := by decide +kernel
theorem dL_law_1848 : decode cL_law 1848 = .ok (.aload_n 0, 1) := bdL_law_1848.1
theorem dL_law_1849 : decode cL_law 1849 = .ok (.iload 4, 2) := bdL_law_1848.2.1
theorem dL_law_1851 : decode cL_law 1851 = .ok (.iconst 2, 1) := bdL_law_1848.2.2.1
theorem dL_law_1852 : decode cL_law 1852 = .ok (.iadd, 1) := bdL_law_1848.2.2.2.1
theorem dL_law_1853 : decode cL_law 1853 = .ok (.iaload, 1) := bdL_law_1848.2.2.2.2.1
theorem dL_law_1854 : decode cL_law 1854 = .ok (.aload_n 0, 1) := bdL_law_1848.2.2.2.2.2.1
theorem dL_law_1855 : decode cL_law 1855 = .ok (.iload 4, 2) := bdL_law_1848.2.2.2.2.2.2.1
theorem dL_law_1857 : decode cL_law 1857 = .ok (.iconst 3, 1) := bdL_law_1848.2.2.2.2.2.2.2.1
theorem dL_law_1858 : decode cL_law 1858 = .ok (.iadd, 1) := bdL_law_1848.2.2.2.2.2.2.2.2.1
theorem dL_law_1859 : decode cL_law 1859 = .ok (.iaload, 1) := bdL_law_1848.2.2.2.2.2.2.2.2.2
theorem bdL_law_1860 : (decode cL_law 1860 = .ok (.aload_n 3, 1)) ∧ (decode cL_law 1861 = .ok (.invokestatic 221, 3)) ∧ (decode cL_law 1864 = .ok (.istore 5, 2)) ∧ (decode cL_law 1866 = .ok (.aload_n 2, 1)) ∧ (decode cL_law 1867 = .ok (.aload_n 0, 1)) ∧ (decode cL_law 1868 = .ok (.iload 4, 2)) ∧ (decode cL_law 1870 = .ok (.iconst 1, 1)) ∧ (decode cL_law 1871 = .ok (.iadd, 1)) ∧ (decode cL_law 1872 = .ok (.iaload, 1)) ∧ (decode cL_law 1873 = .ok (.aload_n 0, 1)) := by decide +kernel
theorem dL_law_1860 : decode cL_law 1860 = .ok (.aload_n 3, 1) := bdL_law_1860.1
theorem dL_law_1861 : decode cL_law 1861 = .ok (.invokestatic 221, 3) := bdL_law_1860.2.1
theorem dL_law_1864 : decode cL_law 1864 = .ok (.istore 5, 2) := bdL_law_1860.2.2.1
theorem dL_law_1866 : decode cL_law 1866 = .ok (.aload_n 2, 1) := bdL_law_1860.2.2.2.1
theorem dL_law_1867 : decode cL_law 1867 = .ok (.aload_n 0, 1) := bdL_law_1860.2.2.2.2.1
theorem dL_law_1868 : decode cL_law 1868 = .ok (.iload 4, 2) := bdL_law_1860.2.2.2.2.2.1
theorem dL_law_1870 : decode cL_law 1870 = .ok (.iconst 1, 1) := bdL_law_1860.2.2.2.2.2.2.1
theorem dL_law_1871 : decode cL_law 1871 = .ok (.iadd, 1) := bdL_law_1860.2.2.2.2.2.2.2.1
theorem dL_law_1872 : decode cL_law 1872 = .ok (.iaload, 1) := bdL_law_1860.2.2.2.2.2.2.2.2.1
theorem dL_law_1873 : decode cL_law 1873 = .ok (.aload_n 0, 1) := bdL_law_1860.2.2.2.2.2.2.2.2.2
theorem bdL_law_1874 : (decode cL_law 1874 = .ok (.iload 4, 2)) ∧ (decode cL_law 1876 = .ok (.iconst 2, 1)) ∧ (decode cL_law 1877 = .ok (.iadd, 1)) ∧ (decode cL_law 1878 = .ok (.iaload, 1)) ∧ (decode cL_law 1879 = .ok (.aload_n 0, 1)) ∧ (decode cL_law 1880 = .ok (.iload 4, 2)) ∧ (decode cL_law 1882 = .ok (.iconst 3, 1)) ∧ (decode cL_law 1883 = .ok (.iadd, 1)) ∧ (decode cL_law 1884 = .ok (.iaload, 1)) ∧ (decode cL_law 1885 = .ok (.invokevirtual 223, 3)) := by decide +kernel
theorem dL_law_1874 : decode cL_law 1874 = .ok (.iload 4, 2) := bdL_law_1874.1
theorem dL_law_1876 : decode cL_law 1876 = .ok (.iconst 2, 1) := bdL_law_1874.2.1
theorem dL_law_1877 : decode cL_law 1877 = .ok (.iadd, 1) := bdL_law_1874.2.2.1
theorem dL_law_1878 : decode cL_law 1878 = .ok (.iaload, 1) := bdL_law_1874.2.2.2.1
theorem dL_law_1879 : decode cL_law 1879 = .ok (.aload_n 0, 1) := bdL_law_1874.2.2.2.2.1
theorem dL_law_1880 : decode cL_law 1880 = .ok (.iload 4, 2) := bdL_law_1874.2.2.2.2.2.1
theorem dL_law_1882 : decode cL_law 1882 = .ok (.iconst 3, 1) := bdL_law_1874.2.2.2.2.2.2.1
theorem dL_law_1883 : decode cL_law 1883 = .ok (.iadd, 1) := bdL_law_1874.2.2.2.2.2.2.2.1
theorem dL_law_1884 : decode cL_law 1884 = .ok (.iaload, 1) := bdL_law_1874.2.2.2.2.2.2.2.2.1
theorem dL_law_1885 : decode cL_law 1885 = .ok (.invokevirtual 223, 3) := bdL_law_1874.2.2.2.2.2.2.2.2.2
theorem bdL_law_1888 : (decode cL_law 1888 = .ok (.istore 6, 2)) ∧ (decode cL_law 1890 = .ok (.aload_n 2, 1)) ∧ (decode cL_law 1891 = .ok (.invokevirtual 112, 3)) ∧ (decode cL_law 1894 = .ok (.iload 5, 2)) ∧ (decode cL_law 1896 = .ok (.if_icmp .eq 5, 3)) ∧ (decode cL_law 1899 = .ok (.iconst 0, 1)) ∧ (decode cL_law 1900 = .ok (.ireturn, 1)) ∧ (decode cL_law 1901 = .ok (.iload 5, 2)) ∧ (decode cL_law 1903 = .ok (.ifCond .ne 15, 3)) ∧ (decode cL_law 1906 = .ok (.aload_n 3, 1)) := by decide +kernel
theorem dL_law_1888 : decode cL_law 1888 = .ok (.istore 6, 2) := bdL_law_1888.1
theorem dL_law_1890 : decode cL_law 1890 = .ok (.aload_n 2, 1) := bdL_law_1888.2.1
theorem dL_law_1891 : decode cL_law 1891 = .ok (.invokevirtual 112, 3) := bdL_law_1888.2.2.1
theorem dL_law_1894 : decode cL_law 1894 = .ok (.iload 5, 2) := bdL_law_1888.2.2.2.1
theorem dL_law_1896 : decode cL_law 1896 = .ok (.if_icmp .eq 5, 3) := bdL_law_1888.2.2.2.2.1
theorem dL_law_1899 : decode cL_law 1899 = .ok (.iconst 0, 1) := bdL_law_1888.2.2.2.2.2.1
theorem dL_law_1900 : decode cL_law 1900 = .ok (.ireturn, 1) := bdL_law_1888.2.2.2.2.2.2.1
theorem dL_law_1901 : decode cL_law 1901 = .ok (.iload 5, 2) := bdL_law_1888.2.2.2.2.2.2.2.1
theorem dL_law_1903 : decode cL_law 1903 = .ok (.ifCond .ne 15, 3) := bdL_law_1888.2.2.2.2.2.2.2.2.1
theorem dL_law_1906 : decode cL_law 1906 = .ok (.aload_n 3, 1) := bdL_law_1888.2.2.2.2.2.2.2.2.2
theorem bdL_law_1907 : (decode cL_law 1907 = .ok (.iconst 0, 1)) ∧ (decode cL_law 1908 = .ok (.laload, 1)) ∧ (decode cL_law 1909 = .ok (.iload 6, 2)) ∧ (decode cL_law 1911 = .ok (.i2l, 1)) ∧ (decode cL_law 1912 = .ok (.lcmp, 1)) ∧ (decode cL_law 1913 = .ok (.ifCond .eq 5, 3)) ∧ (decode cL_law 1916 = .ok (.iconst 0, 1)) ∧ (decode cL_law 1917 = .ok (.ireturn, 1)) ∧ (decode cL_law 1918 = .ok (.goto 291, 3)) ∧ (decode cL_law 1921 = .ok (.aload_n 1, 1)) := by decide +kernel
theorem dL_law_1907 : decode cL_law 1907 = .ok (.iconst 0, 1) := bdL_law_1907.1
theorem dL_law_1908 : decode cL_law 1908 = .ok (.laload, 1) := bdL_law_1907.2.1
theorem dL_law_1909 : decode cL_law 1909 = .ok (.iload 6, 2) := bdL_law_1907.2.2.1
theorem dL_law_1911 : decode cL_law 1911 = .ok (.i2l, 1) := bdL_law_1907.2.2.2.1
theorem dL_law_1912 : decode cL_law 1912 = .ok (.lcmp, 1) := bdL_law_1907.2.2.2.2.1
theorem dL_law_1913 : decode cL_law 1913 = .ok (.ifCond .eq 5, 3) := bdL_law_1907.2.2.2.2.2.1
theorem dL_law_1916 : decode cL_law 1916 = .ok (.iconst 0, 1) := bdL_law_1907.2.2.2.2.2.2.1
theorem dL_law_1917 : decode cL_law 1917 = .ok (.ireturn, 1) := bdL_law_1907.2.2.2.2.2.2.2.1
theorem dL_law_1918 : decode cL_law 1918 = .ok (.goto 291, 3) := bdL_law_1907.2.2.2.2.2.2.2.2.1
theorem dL_law_1921 : decode cL_law 1921 = .ok (.aload_n 1, 1) := bdL_law_1907.2.2.2.2.2.2.2.2.2
theorem bdL_law_1922 : (decode cL_law 1922 = .ok (.invokevirtual 224, 3)) ∧ (decode cL_law 1925 = .ok (.aload_n 2, 1)) ∧ (decode cL_law 1926 = .ok (.invokevirtual 227, 3)) ∧ (decode cL_law 1929 = .ok (.if_icmp .eq 280, 3)) ∧ (decode cL_law 1932 = .ok (.iconst 0, 1)) ∧ (decode cL_law 1933 = .ok (.ireturn, 1)) ∧ (decode cL_law 1934 = .ok (.aload_n 1, 1)) ∧ (decode cL_law 1935 = .ok (.aload_n 0, 1)) ∧ (decode cL_law 1936 = .ok (.iload 4, 2)) ∧ (decode cL_law 1938 = .ok (.iconst 1, 1)) := by decide +kernel
theorem dL_law_1922 : decode cL_law 1922 = .ok (.invokevirtual 224, 3) := bdL_law_1922.1
theorem dL_law_1925 : decode cL_law 1925 = .ok (.aload_n 2, 1) := bdL_law_1922.2.1
theorem dL_law_1926 : decode cL_law 1926 = .ok (.invokevirtual 227, 3) := bdL_law_1922.2.2.1
theorem dL_law_1929 : decode cL_law 1929 = .ok (.if_icmp .eq 280, 3) := bdL_law_1922.2.2.2.1
theorem dL_law_1932 : decode cL_law 1932 = .ok (.iconst 0, 1) := bdL_law_1922.2.2.2.2.1
theorem dL_law_1933 : decode cL_law 1933 = .ok (.ireturn, 1) := bdL_law_1922.2.2.2.2.2.1
theorem dL_law_1934 : decode cL_law 1934 = .ok (.aload_n 1, 1) := bdL_law_1922.2.2.2.2.2.2.1
theorem dL_law_1935 : decode cL_law 1935 = .ok (.aload_n 0, 1) := bdL_law_1922.2.2.2.2.2.2.2.1
theorem dL_law_1936 : decode cL_law 1936 = .ok (.iload 4, 2) := bdL_law_1922.2.2.2.2.2.2.2.2.1
theorem dL_law_1938 : decode cL_law 1938 = .ok (.iconst 1, 1) := bdL_law_1922.2.2.2.2.2.2.2.2.2
theorem bdL_law_1939 : (decode cL_law 1939 = .ok (.iadd, 1)) ∧ (decode cL_law 1940 = .ok (.iaload, 1)) ∧ (decode cL_law 1941 = .ok (.aload_n 0, 1)) ∧ (decode cL_law 1942 = .ok (.iload 4, 2)) ∧ (decode cL_law 1944 = .ok (.iconst 2, 1)) ∧ (decode cL_law 1945 = .ok (.iadd, 1)) ∧ (decode cL_law 1946 = .ok (.iaload, 1)) ∧ (decode cL_law 1947 = .ok (.aload_n 3, 1)) ∧ (decode cL_law 1948 = .ok (.invokestatic 228, 3)) ∧ (decode cL_law 1951 = .ok (.istore 5, 2)) := by decide +kernel
theorem dL_law_1939 : decode cL_law 1939 = .ok (.iadd, 1) := bdL_law_1939.1
theorem dL_law_1940 : decode cL_law 1940 = .ok (.iaload, 1) := bdL_law_1939.2.1
theorem dL_law_1941 : decode cL_law 1941 = .ok (.aload_n 0, 1) := bdL_law_1939.2.2.1
theorem dL_law_1942 : decode cL_law 1942 = .ok (.iload 4, 2) := bdL_law_1939.2.2.2.1
theorem dL_law_1944 : decode cL_law 1944 = .ok (.iconst 2, 1) := bdL_law_1939.2.2.2.2.1
theorem dL_law_1945 : decode cL_law 1945 = .ok (.iadd, 1) := bdL_law_1939.2.2.2.2.2.1
theorem dL_law_1946 : decode cL_law 1946 = .ok (.iaload, 1) := bdL_law_1939.2.2.2.2.2.2.1
theorem dL_law_1947 : decode cL_law 1947 = .ok (.aload_n 3, 1) := bdL_law_1939.2.2.2.2.2.2.2.1
theorem dL_law_1948 : decode cL_law 1948 = .ok (.invokestatic 228, 3) := bdL_law_1939.2.2.2.2.2.2.2.2.1
theorem dL_law_1951 : decode cL_law 1951 = .ok (.istore 5, 2) := bdL_law_1939.2.2.2.2.2.2.2.2.2
theorem bdL_law_1953 : (decode cL_law 1953 = .ok (.aload_n 2, 1)) ∧ (decode cL_law 1954 = .ok (.aload_n 0, 1)) ∧ (decode cL_law 1955 = .ok (.iload 4, 2)) ∧ (decode cL_law 1957 = .ok (.iconst 1, 1)) ∧ (decode cL_law 1958 = .ok (.iadd, 1)) ∧ (decode cL_law 1959 = .ok (.iaload, 1)) ∧ (decode cL_law 1960 = .ok (.aload_n 0, 1)) ∧ (decode cL_law 1961 = .ok (.iload 4, 2)) ∧ (decode cL_law 1963 = .ok (.iconst 2, 1)) ∧ (decode cL_law 1964 = .ok (.iadd, 1)) := by decide +kernel
theorem dL_law_1953 : decode cL_law 1953 = .ok (.aload_n 2, 1) := bdL_law_1953.1
theorem dL_law_1954 : decode cL_law 1954 = .ok (.aload_n 0, 1) := bdL_law_1953.2.1
theorem dL_law_1955 : decode cL_law 1955 = .ok (.iload 4, 2) := bdL_law_1953.2.2.1
theorem dL_law_1957 : decode cL_law 1957 = .ok (.iconst 1, 1) := bdL_law_1953.2.2.2.1
theorem dL_law_1958 : decode cL_law 1958 = .ok (.iadd, 1) := bdL_law_1953.2.2.2.2.1
theorem dL_law_1959 : decode cL_law 1959 = .ok (.iaload, 1) := bdL_law_1953.2.2.2.2.2.1
theorem dL_law_1960 : decode cL_law 1960 = .ok (.aload_n 0, 1) := bdL_law_1953.2.2.2.2.2.2.1
theorem dL_law_1961 : decode cL_law 1961 = .ok (.iload 4, 2) := bdL_law_1953.2.2.2.2.2.2.2.1
theorem dL_law_1963 : decode cL_law 1963 = .ok (.iconst 2, 1) := bdL_law_1953.2.2.2.2.2.2.2.2.1
theorem dL_law_1964 : decode cL_law 1964 = .ok (.iadd, 1) := bdL_law_1953.2.2.2.2.2.2.2.2.2
theorem bdL_law_1965 : (decode cL_law 1965 = .ok (.iaload, 1)) ∧ (decode cL_law 1966 = .ok (.invokevirtual 230, 3)) ∧ (decode cL_law 1969 = .ok (.istore 6, 2)) ∧ (decode cL_law 1971 = .ok (.aload_n 2, 1)) ∧ (decode cL_law 1972 = .ok (.invokevirtual 112, 3)) ∧ (decode cL_law 1975 = .ok (.iload 5, 2)) ∧ (decode cL_law 1977 = .ok (.if_icmp .eq 5, 3)) ∧ (decode cL_law 1980 = .ok (.iconst 0, 1)) ∧ (decode cL_law 1981 = .ok (.ireturn, 1)) ∧ (decode cL_law 1982 = .ok (.iload 5, 2)) := by decide +kernel
theorem dL_law_1965 : decode cL_law 1965 = .ok (.iaload, 1) := bdL_law_1965.1
theorem dL_law_1966 : decode cL_law 1966 = .ok (.invokevirtual 230, 3) := bdL_law_1965.2.1
theorem dL_law_1969 : decode cL_law 1969 = .ok (.istore 6, 2) := bdL_law_1965.2.2.1
theorem dL_law_1971 : decode cL_law 1971 = .ok (.aload_n 2, 1) := bdL_law_1965.2.2.2.1
theorem dL_law_1972 : decode cL_law 1972 = .ok (.invokevirtual 112, 3) := bdL_law_1965.2.2.2.2.1
theorem dL_law_1975 : decode cL_law 1975 = .ok (.iload 5, 2) := bdL_law_1965.2.2.2.2.2.1
theorem dL_law_1977 : decode cL_law 1977 = .ok (.if_icmp .eq 5, 3) := bdL_law_1965.2.2.2.2.2.2.1
theorem dL_law_1980 : decode cL_law 1980 = .ok (.iconst 0, 1) := bdL_law_1965.2.2.2.2.2.2.2.1
theorem dL_law_1981 : decode cL_law 1981 = .ok (.ireturn, 1) := bdL_law_1965.2.2.2.2.2.2.2.2.1
theorem dL_law_1982 : decode cL_law 1982 = .ok (.iload 5, 2) := bdL_law_1965.2.2.2.2.2.2.2.2.2
theorem bdL_law_1984 : (decode cL_law 1984 = .ok (.ifCond .ne 15, 3)) ∧ (decode cL_law 1987 = .ok (.aload_n 3, 1)) ∧ (decode cL_law 1988 = .ok (.iconst 0, 1)) ∧ (decode cL_law 1989 = .ok (.laload, 1)) ∧ (decode cL_law 1990 = .ok (.iload 6, 2)) ∧ (decode cL_law 1992 = .ok (.i2l, 1)) ∧ (decode cL_law 1993 = .ok (.lcmp, 1)) ∧ (decode cL_law 1994 = .ok (.ifCond .eq 5, 3)) ∧ (decode cL_law 1997 = .ok (.iconst 0, 1)) ∧ (decode cL_law 1998 = .ok (.ireturn, 1)) := by decide +kernel
theorem dL_law_1984 : decode cL_law 1984 = .ok (.ifCond .ne 15, 3) := bdL_law_1984.1
theorem dL_law_1987 : decode cL_law 1987 = .ok (.aload_n 3, 1) := bdL_law_1984.2.1
theorem dL_law_1988 : decode cL_law 1988 = .ok (.iconst 0, 1) := bdL_law_1984.2.2.1
theorem dL_law_1989 : decode cL_law 1989 = .ok (.laload, 1) := bdL_law_1984.2.2.2.1
theorem dL_law_1990 : decode cL_law 1990 = .ok (.iload 6, 2) := bdL_law_1984.2.2.2.2.1
theorem dL_law_1992 : decode cL_law 1992 = .ok (.i2l, 1) := bdL_law_1984.2.2.2.2.2.1
theorem dL_law_1993 : decode cL_law 1993 = .ok (.lcmp, 1) := bdL_law_1984.2.2.2.2.2.2.1
theorem dL_law_1994 : decode cL_law 1994 = .ok (.ifCond .eq 5, 3) := bdL_law_1984.2.2.2.2.2.2.2.1
theorem dL_law_1997 : decode cL_law 1997 = .ok (.iconst 0, 1) := bdL_law_1984.2.2.2.2.2.2.2.2.1
theorem dL_law_1998 : decode cL_law 1998 = .ok (.ireturn, 1) := bdL_law_1984.2.2.2.2.2.2.2.2.2
theorem bdL_law_1999 : (decode cL_law 1999 = .ok (.goto 210, 3)) ∧ (decode cL_law 2002 = .ok (.aload_n 1, 1)) ∧ (decode cL_law 2003 = .ok (.invokevirtual 231, 3)) ∧ (decode cL_law 2006 = .ok (.aload_n 2, 1)) ∧ (decode cL_law 2007 = .ok (.invokevirtual 234, 3)) ∧ (decode cL_law 2010 = .ok (.goto 199, 3)) ∧ (decode cL_law 2013 = .ok (.aload_n 1, 1)) ∧ (decode cL_law 2014 = .ok (.aload_n 0, 1)) ∧ (decode cL_law 2015 = .ok (.iload 4, 2)) ∧ (decode cL_law 2017 = .ok (.iconst 1, 1)) := by decide +kernel
theorem dL_law_1999 : decode cL_law 1999 = .ok (.goto 210, 3) := bdL_law_1999.1
theorem dL_law_2002 : decode cL_law 2002 = .ok (.aload_n 1, 1) := bdL_law_1999.2.1
theorem dL_law_2003 : decode cL_law 2003 = .ok (.invokevirtual 231, 3) := bdL_law_1999.2.2.1
theorem dL_law_2006 : decode cL_law 2006 = .ok (.aload_n 2, 1) := bdL_law_1999.2.2.2.1
theorem dL_law_2007 : decode cL_law 2007 = .ok (.invokevirtual 234, 3) := bdL_law_1999.2.2.2.2.1
theorem dL_law_2010 : decode cL_law 2010 = .ok (.goto 199, 3) := bdL_law_1999.2.2.2.2.2.1
theorem dL_law_2013 : decode cL_law 2013 = .ok (.aload_n 1, 1) := bdL_law_1999.2.2.2.2.2.2.1
theorem dL_law_2014 : decode cL_law 2014 = .ok (.aload_n 0, 1) := bdL_law_1999.2.2.2.2.2.2.2.1
theorem dL_law_2015 : decode cL_law 2015 = .ok (.iload 4, 2) := bdL_law_1999.2.2.2.2.2.2.2.2.1
theorem dL_law_2017 : decode cL_law 2017 = .ok (.iconst 1, 1) := bdL_law_1999.2.2.2.2.2.2.2.2.2
theorem bdL_law_2018 : (decode cL_law 2018 = .ok (.iadd, 1)) ∧ (decode cL_law 2019 = .ok (.iaload, 1)) ∧ (decode cL_law 2020 = .ok (.aload_n 0, 1)) ∧ (decode cL_law 2021 = .ok (.iload 4, 2)) ∧ (decode cL_law 2023 = .ok (.iconst 2, 1)) ∧ (decode cL_law 2024 = .ok (.iadd, 1)) ∧ (decode cL_law 2025 = .ok (.iaload, 1)) ∧ (decode cL_law 2026 = .ok (.aload_n 0, 1)) ∧ (decode cL_law 2027 = .ok (.iload 4, 2)) ∧ (decode cL_law 2029 = .ok (.iconst 3, 1)) := by decide +kernel
theorem dL_law_2018 : decode cL_law 2018 = .ok (.iadd, 1) := bdL_law_2018.1
theorem dL_law_2019 : decode cL_law 2019 = .ok (.iaload, 1) := bdL_law_2018.2.1
theorem dL_law_2020 : decode cL_law 2020 = .ok (.aload_n 0, 1) := bdL_law_2018.2.2.1
theorem dL_law_2021 : decode cL_law 2021 = .ok (.iload 4, 2) := bdL_law_2018.2.2.2.1
theorem dL_law_2023 : decode cL_law 2023 = .ok (.iconst 2, 1) := bdL_law_2018.2.2.2.2.1
theorem dL_law_2024 : decode cL_law 2024 = .ok (.iadd, 1) := bdL_law_2018.2.2.2.2.2.1
theorem dL_law_2025 : decode cL_law 2025 = .ok (.iaload, 1) := bdL_law_2018.2.2.2.2.2.2.1
theorem dL_law_2026 : decode cL_law 2026 = .ok (.aload_n 0, 1) := bdL_law_2018.2.2.2.2.2.2.2.1
theorem dL_law_2027 : decode cL_law 2027 = .ok (.iload 4, 2) := bdL_law_2018.2.2.2.2.2.2.2.2.1
theorem dL_law_2029 : decode cL_law 2029 = .ok (.iconst 3, 1) := bdL_law_2018.2.2.2.2.2.2.2.2.2
theorem bdL_law_2030 : (decode cL_law 2030 = .ok (.iadd, 1)) ∧ (decode cL_law 2031 = .ok (.iaload, 1)) ∧ (decode cL_law 2032 = .ok (.aload_n 0, 1)) ∧ (decode cL_law 2033 = .ok (.iload 4, 2)) ∧ (decode cL_law 2035 = .ok (.iconst 4, 1)) ∧ (decode cL_law 2036 = .ok (.iadd, 1)) ∧ (decode cL_law 2037 = .ok (.iaload, 1)) ∧ (decode cL_law 2038 = .ok (.aload_n 3, 1)) ∧ (decode cL_law 2039 = .ok (.invokestatic 235, 3)) ∧ (decode cL_law 2042 = .ok (.istore 5, 2)) := by decide +kernel
theorem dL_law_2030 : decode cL_law 2030 = .ok (.iadd, 1) := bdL_law_2030.1
theorem dL_law_2031 : decode cL_law 2031 = .ok (.iaload, 1) := bdL_law_2030.2.1
theorem dL_law_2032 : decode cL_law 2032 = .ok (.aload_n 0, 1) := bdL_law_2030.2.2.1
theorem dL_law_2033 : decode cL_law 2033 = .ok (.iload 4, 2) := bdL_law_2030.2.2.2.1
theorem dL_law_2035 : decode cL_law 2035 = .ok (.iconst 4, 1) := bdL_law_2030.2.2.2.2.1
theorem dL_law_2036 : decode cL_law 2036 = .ok (.iadd, 1) := bdL_law_2030.2.2.2.2.2.1
theorem dL_law_2037 : decode cL_law 2037 = .ok (.iaload, 1) := bdL_law_2030.2.2.2.2.2.2.1
theorem dL_law_2038 : decode cL_law 2038 = .ok (.aload_n 3, 1) := bdL_law_2030.2.2.2.2.2.2.2.1
theorem dL_law_2039 : decode cL_law 2039 = .ok (.invokestatic 235, 3) := bdL_law_2030.2.2.2.2.2.2.2.2.1
theorem dL_law_2042 : decode cL_law 2042 = .ok (.istore 5, 2) := bdL_law_2030.2.2.2.2.2.2.2.2.2
theorem bdL_law_2044 : (decode cL_law 2044 = .ok (.aload_n 2, 1)) ∧ (decode cL_law 2045 = .ok (.aload_n 0, 1)) ∧ (decode cL_law 2046 = .ok (.iload 4, 2)) ∧ (decode cL_law 2048 = .ok (.iconst 1, 1)) ∧ (decode cL_law 2049 = .ok (.iadd, 1)) ∧ (decode cL_law 2050 = .ok (.iaload, 1)) ∧ (decode cL_law 2051 = .ok (.aload_n 0, 1)) ∧ (decode cL_law 2052 = .ok (.iload 4, 2)) ∧ (decode cL_law 2054 = .ok (.iconst 2, 1)) ∧ (decode cL_law 2055 = .ok (.iadd, 1)) := by decide +kernel
theorem dL_law_2044 : decode cL_law 2044 = .ok (.aload_n 2, 1) := bdL_law_2044.1
theorem dL_law_2045 : decode cL_law 2045 = .ok (.aload_n 0, 1) := bdL_law_2044.2.1
theorem dL_law_2046 : decode cL_law 2046 = .ok (.iload 4, 2) := bdL_law_2044.2.2.1
theorem dL_law_2048 : decode cL_law 2048 = .ok (.iconst 1, 1) := bdL_law_2044.2.2.2.1
theorem dL_law_2049 : decode cL_law 2049 = .ok (.iadd, 1) := bdL_law_2044.2.2.2.2.1
theorem dL_law_2050 : decode cL_law 2050 = .ok (.iaload, 1) := bdL_law_2044.2.2.2.2.2.1
theorem dL_law_2051 : decode cL_law 2051 = .ok (.aload_n 0, 1) := bdL_law_2044.2.2.2.2.2.2.1
theorem dL_law_2052 : decode cL_law 2052 = .ok (.iload 4, 2) := bdL_law_2044.2.2.2.2.2.2.2.1
theorem dL_law_2054 : decode cL_law 2054 = .ok (.iconst 2, 1) := bdL_law_2044.2.2.2.2.2.2.2.2.1
theorem dL_law_2055 : decode cL_law 2055 = .ok (.iadd, 1) := bdL_law_2044.2.2.2.2.2.2.2.2.2
theorem bdL_law_2056 : (decode cL_law 2056 = .ok (.iaload, 1)) ∧ (decode cL_law 2057 = .ok (.aload_n 0, 1)) ∧ (decode cL_law 2058 = .ok (.iload 4, 2)) ∧ (decode cL_law 2060 = .ok (.iconst 3, 1)) ∧ (decode cL_law 2061 = .ok (.iadd, 1)) ∧ (decode cL_law 2062 = .ok (.iaload, 1)) ∧ (decode cL_law 2063 = .ok (.aload_n 0, 1)) ∧ (decode cL_law 2064 = .ok (.iload 4, 2)) ∧ (decode cL_law 2066 = .ok (.iconst 4, 1)) ∧ (decode cL_law 2067 = .ok (.iadd, 1)) := by decide +kernel
theorem dL_law_2056 : decode cL_law 2056 = .ok (.iaload, 1) := bdL_law_2056.1
theorem dL_law_2057 : decode cL_law 2057 = .ok (.aload_n 0, 1) := bdL_law_2056.2.1
theorem dL_law_2058 : decode cL_law 2058 = .ok (.iload 4, 2) := bdL_law_2056.2.2.1
theorem dL_law_2060 : decode cL_law 2060 = .ok (.iconst 3, 1) := bdL_law_2056.2.2.2.1
theorem dL_law_2061 : decode cL_law 2061 = .ok (.iadd, 1) := bdL_law_2056.2.2.2.2.1
theorem dL_law_2062 : decode cL_law 2062 = .ok (.iaload, 1) := bdL_law_2056.2.2.2.2.2.1
theorem dL_law_2063 : decode cL_law 2063 = .ok (.aload_n 0, 1) := bdL_law_2056.2.2.2.2.2.2.1
theorem dL_law_2064 : decode cL_law 2064 = .ok (.iload 4, 2) := bdL_law_2056.2.2.2.2.2.2.2.1
theorem dL_law_2066 : decode cL_law 2066 = .ok (.iconst 4, 1) := bdL_law_2056.2.2.2.2.2.2.2.2.1
theorem dL_law_2067 : decode cL_law 2067 = .ok (.iadd, 1) := bdL_law_2056.2.2.2.2.2.2.2.2.2
theorem bdL_law_2068 : (decode cL_law 2068 = .ok (.iaload, 1)) ∧ (decode cL_law 2069 = .ok (.invokevirtual 238, 3)) ∧ (decode cL_law 2072 = .ok (.istore 6, 2)) ∧ (decode cL_law 2074 = .ok (.aload_n 2, 1)) ∧ (decode cL_law 2075 = .ok (.invokevirtual 112, 3)) ∧ (decode cL_law 2078 = .ok (.iload 5, 2)) ∧ (decode cL_law 2080 = .ok (.if_icmp .eq 5, 3)) ∧ (decode cL_law 2083 = .ok (.iconst 0, 1)) ∧ (decode cL_law 2084 = .ok (.ireturn, 1)) ∧ (decode cL_law 2085 = .ok (.iload 5, 2)) := by decide +kernel
theorem dL_law_2068 : decode cL_law 2068 = .ok (.iaload, 1) := bdL_law_2068.1
theorem dL_law_2069 : decode cL_law 2069 = .ok (.invokevirtual 238, 3) := bdL_law_2068.2.1
theorem dL_law_2072 : decode cL_law 2072 = .ok (.istore 6, 2) := bdL_law_2068.2.2.1
theorem dL_law_2074 : decode cL_law 2074 = .ok (.aload_n 2, 1) := bdL_law_2068.2.2.2.1
theorem dL_law_2075 : decode cL_law 2075 = .ok (.invokevirtual 112, 3) := bdL_law_2068.2.2.2.2.1
theorem dL_law_2078 : decode cL_law 2078 = .ok (.iload 5, 2) := bdL_law_2068.2.2.2.2.2.1
theorem dL_law_2080 : decode cL_law 2080 = .ok (.if_icmp .eq 5, 3) := bdL_law_2068.2.2.2.2.2.2.1
theorem dL_law_2083 : decode cL_law 2083 = .ok (.iconst 0, 1) := bdL_law_2068.2.2.2.2.2.2.2.1
theorem dL_law_2084 : decode cL_law 2084 = .ok (.ireturn, 1) := bdL_law_2068.2.2.2.2.2.2.2.2.1
theorem dL_law_2085 : decode cL_law 2085 = .ok (.iload 5, 2) := bdL_law_2068.2.2.2.2.2.2.2.2.2
theorem bdL_law_2087 : (decode cL_law 2087 = .ok (.ifCond .ne 15, 3)) ∧ (decode cL_law 2090 = .ok (.aload_n 3, 1)) ∧ (decode cL_law 2091 = .ok (.iconst 0, 1)) ∧ (decode cL_law 2092 = .ok (.laload, 1)) ∧ (decode cL_law 2093 = .ok (.iload 6, 2)) ∧ (decode cL_law 2095 = .ok (.i2l, 1)) ∧ (decode cL_law 2096 = .ok (.lcmp, 1)) ∧ (decode cL_law 2097 = .ok (.ifCond .eq 5, 3)) ∧ (decode cL_law 2100 = .ok (.iconst 0, 1)) ∧ (decode cL_law 2101 = .ok (.ireturn, 1)) := by decide +kernel
theorem dL_law_2087 : decode cL_law 2087 = .ok (.ifCond .ne 15, 3) := bdL_law_2087.1
theorem dL_law_2090 : decode cL_law 2090 = .ok (.aload_n 3, 1) := bdL_law_2087.2.1
theorem dL_law_2091 : decode cL_law 2091 = .ok (.iconst 0, 1) := bdL_law_2087.2.2.1
theorem dL_law_2092 : decode cL_law 2092 = .ok (.laload, 1) := bdL_law_2087.2.2.2.1
theorem dL_law_2093 : decode cL_law 2093 = .ok (.iload 6, 2) := bdL_law_2087.2.2.2.2.1
theorem dL_law_2095 : decode cL_law 2095 = .ok (.i2l, 1) := bdL_law_2087.2.2.2.2.2.1
theorem dL_law_2096 : decode cL_law 2096 = .ok (.lcmp, 1) := bdL_law_2087.2.2.2.2.2.2.1
theorem dL_law_2097 : decode cL_law 2097 = .ok (.ifCond .eq 5, 3) := bdL_law_2087.2.2.2.2.2.2.2.1
theorem dL_law_2100 : decode cL_law 2100 = .ok (.iconst 0, 1) := bdL_law_2087.2.2.2.2.2.2.2.2.1
theorem dL_law_2101 : decode cL_law 2101 = .ok (.ireturn, 1) := bdL_law_2087.2.2.2.2.2.2.2.2.2
theorem bdL_law_2102 : (decode cL_law 2102 = .ok (.goto 107, 3)) ∧ (decode cL_law 2105 = .ok (.aload_n 1, 1)) ∧ (decode cL_law 2106 = .ok (.aload_n 0, 1)) ∧ (decode cL_law 2107 = .ok (.iload 4, 2)) ∧ (decode cL_law 2109 = .ok (.iconst 1, 1)) ∧ (decode cL_law 2110 = .ok (.iadd, 1)) ∧ (decode cL_law 2111 = .ok (.iaload, 1)) ∧ (decode cL_law 2112 = .ok (.aload_n 0, 1)) ∧ (decode cL_law 2113 = .ok (.iload 4, 2)) ∧ (decode cL_law 2115 = .ok (.iconst 2, 1)) := by decide +kernel
theorem dL_law_2102 : decode cL_law 2102 = .ok (.goto 107, 3) := bdL_law_2102.1
theorem dL_law_2105 : decode cL_law 2105 = .ok (.aload_n 1, 1) := bdL_law_2102.2.1
theorem dL_law_2106 : decode cL_law 2106 = .ok (.aload_n 0, 1) := bdL_law_2102.2.2.1
theorem dL_law_2107 : decode cL_law 2107 = .ok (.iload 4, 2) := bdL_law_2102.2.2.2.1
theorem dL_law_2109 : decode cL_law 2109 = .ok (.iconst 1, 1) := bdL_law_2102.2.2.2.2.1
theorem dL_law_2110 : decode cL_law 2110 = .ok (.iadd, 1) := bdL_law_2102.2.2.2.2.2.1
theorem dL_law_2111 : decode cL_law 2111 = .ok (.iaload, 1) := bdL_law_2102.2.2.2.2.2.2.1
theorem dL_law_2112 : decode cL_law 2112 = .ok (.aload_n 0, 1) := bdL_law_2102.2.2.2.2.2.2.2.1
theorem dL_law_2113 : decode cL_law 2113 = .ok (.iload 4, 2) := bdL_law_2102.2.2.2.2.2.2.2.2.1
theorem dL_law_2115 : decode cL_law 2115 = .ok (.iconst 2, 1) := bdL_law_2102.2.2.2.2.2.2.2.2.2
theorem bdL_law_2116 : (decode cL_law 2116 = .ok (.iadd, 1)) ∧ (decode cL_law 2117 = .ok (.iaload, 1)) ∧ (decode cL_law 2118 = .ok (.aload_n 0, 1)) ∧ (decode cL_law 2119 = .ok (.iload 4, 2)) ∧ (decode cL_law 2121 = .ok (.iconst 3, 1)) ∧ (decode cL_law 2122 = .ok (.iadd, 1)) ∧ (decode cL_law 2123 = .ok (.iaload, 1)) ∧ (decode cL_law 2124 = .ok (.aload_n 3, 1)) ∧ (decode cL_law 2125 = .ok (.invokestatic 239, 3)) ∧ (decode cL_law 2128 = .ok (.istore 5, 2)) := by decide +kernel
theorem dL_law_2116 : decode cL_law 2116 = .ok (.iadd, 1) := bdL_law_2116.1
theorem dL_law_2117 : decode cL_law 2117 = .ok (.iaload, 1) := bdL_law_2116.2.1
theorem dL_law_2118 : decode cL_law 2118 = .ok (.aload_n 0, 1) := bdL_law_2116.2.2.1
theorem dL_law_2119 : decode cL_law 2119 = .ok (.iload 4, 2) := bdL_law_2116.2.2.2.1
theorem dL_law_2121 : decode cL_law 2121 = .ok (.iconst 3, 1) := bdL_law_2116.2.2.2.2.1
theorem dL_law_2122 : decode cL_law 2122 = .ok (.iadd, 1) := bdL_law_2116.2.2.2.2.2.1
theorem dL_law_2123 : decode cL_law 2123 = .ok (.iaload, 1) := bdL_law_2116.2.2.2.2.2.2.1
theorem dL_law_2124 : decode cL_law 2124 = .ok (.aload_n 3, 1) := bdL_law_2116.2.2.2.2.2.2.2.1
theorem dL_law_2125 : decode cL_law 2125 = .ok (.invokestatic 239, 3) := bdL_law_2116.2.2.2.2.2.2.2.2.1
theorem dL_law_2128 : decode cL_law 2128 = .ok (.istore 5, 2) := bdL_law_2116.2.2.2.2.2.2.2.2.2
theorem bdL_law_2130 : (decode cL_law 2130 = .ok (.aload_n 2, 1)) ∧ (decode cL_law 2131 = .ok (.aload_n 0, 1)) ∧ (decode cL_law 2132 = .ok (.iload 4, 2)) ∧ (decode cL_law 2134 = .ok (.iconst 1, 1)) ∧ (decode cL_law 2135 = .ok (.iadd, 1)) ∧ (decode cL_law 2136 = .ok (.iaload, 1)) ∧ (decode cL_law 2137 = .ok (.aload_n 0, 1)) ∧ (decode cL_law 2138 = .ok (.iload 4, 2)) ∧ (decode cL_law 2140 = .ok (.iconst 2, 1)) ∧ (decode cL_law 2141 = .ok (.iadd, 1)) := by decide +kernel
theorem dL_law_2130 : decode cL_law 2130 = .ok (.aload_n 2, 1) := bdL_law_2130.1
theorem dL_law_2131 : decode cL_law 2131 = .ok (.aload_n 0, 1) := bdL_law_2130.2.1
theorem dL_law_2132 : decode cL_law 2132 = .ok (.iload 4, 2) := bdL_law_2130.2.2.1
theorem dL_law_2134 : decode cL_law 2134 = .ok (.iconst 1, 1) := bdL_law_2130.2.2.2.1
theorem dL_law_2135 : decode cL_law 2135 = .ok (.iadd, 1) := bdL_law_2130.2.2.2.2.1
theorem dL_law_2136 : decode cL_law 2136 = .ok (.iaload, 1) := bdL_law_2130.2.2.2.2.2.1
theorem dL_law_2137 : decode cL_law 2137 = .ok (.aload_n 0, 1) := bdL_law_2130.2.2.2.2.2.2.1
theorem dL_law_2138 : decode cL_law 2138 = .ok (.iload 4, 2) := bdL_law_2130.2.2.2.2.2.2.2.1
theorem dL_law_2140 : decode cL_law 2140 = .ok (.iconst 2, 1) := bdL_law_2130.2.2.2.2.2.2.2.2.1
theorem dL_law_2141 : decode cL_law 2141 = .ok (.iadd, 1) := bdL_law_2130.2.2.2.2.2.2.2.2.2
theorem bdL_law_2142 : (decode cL_law 2142 = .ok (.iaload, 1)) ∧ (decode cL_law 2143 = .ok (.aload_n 0, 1)) ∧ (decode cL_law 2144 = .ok (.iload 4, 2)) ∧ (decode cL_law 2146 = .ok (.iconst 3, 1)) ∧ (decode cL_law 2147 = .ok (.iadd, 1)) ∧ (decode cL_law 2148 = .ok (.iaload, 1)) ∧ (decode cL_law 2149 = .ok (.invokevirtual 241, 3)) ∧ (decode cL_law 2152 = .ok (.istore 6, 2)) ∧ (decode cL_law 2154 = .ok (.aload_n 2, 1)) ∧ (decode cL_law 2155 = .ok (.invokevirtual 112, 3)) := by decide +kernel
theorem dL_law_2142 : decode cL_law 2142 = .ok (.iaload, 1) := bdL_law_2142.1
theorem dL_law_2143 : decode cL_law 2143 = .ok (.aload_n 0, 1) := bdL_law_2142.2.1
theorem dL_law_2144 : decode cL_law 2144 = .ok (.iload 4, 2) := bdL_law_2142.2.2.1
theorem dL_law_2146 : decode cL_law 2146 = .ok (.iconst 3, 1) := bdL_law_2142.2.2.2.1
theorem dL_law_2147 : decode cL_law 2147 = .ok (.iadd, 1) := bdL_law_2142.2.2.2.2.1
theorem dL_law_2148 : decode cL_law 2148 = .ok (.iaload, 1) := bdL_law_2142.2.2.2.2.2.1
theorem dL_law_2149 : decode cL_law 2149 = .ok (.invokevirtual 241, 3) := bdL_law_2142.2.2.2.2.2.2.1
theorem dL_law_2152 : decode cL_law 2152 = .ok (.istore 6, 2) := bdL_law_2142.2.2.2.2.2.2.2.1
theorem dL_law_2154 : decode cL_law 2154 = .ok (.aload_n 2, 1) := bdL_law_2142.2.2.2.2.2.2.2.2.1
theorem dL_law_2155 : decode cL_law 2155 = .ok (.invokevirtual 112, 3) := bdL_law_2142.2.2.2.2.2.2.2.2.2
theorem bdL_law_2158 : (decode cL_law 2158 = .ok (.iload 5, 2)) ∧ (decode cL_law 2160 = .ok (.if_icmp .eq 5, 3)) ∧ (decode cL_law 2163 = .ok (.iconst 0, 1)) ∧ (decode cL_law 2164 = .ok (.ireturn, 1)) ∧ (decode cL_law 2165 = .ok (.iload 5, 2)) ∧ (decode cL_law 2167 = .ok (.ifCond .ne 15, 3)) ∧ (decode cL_law 2170 = .ok (.aload_n 3, 1)) ∧ (decode cL_law 2171 = .ok (.iconst 0, 1)) ∧ (decode cL_law 2172 = .ok (.laload, 1)) ∧ (decode cL_law 2173 = .ok (.iload 6, 2)) := by decide +kernel
theorem dL_law_2158 : decode cL_law 2158 = .ok (.iload 5, 2) := bdL_law_2158.1
theorem dL_law_2160 : decode cL_law 2160 = .ok (.if_icmp .eq 5, 3) := bdL_law_2158.2.1
theorem dL_law_2163 : decode cL_law 2163 = .ok (.iconst 0, 1) := bdL_law_2158.2.2.1
theorem dL_law_2164 : decode cL_law 2164 = .ok (.ireturn, 1) := bdL_law_2158.2.2.2.1
theorem dL_law_2165 : decode cL_law 2165 = .ok (.iload 5, 2) := bdL_law_2158.2.2.2.2.1
theorem dL_law_2167 : decode cL_law 2167 = .ok (.ifCond .ne 15, 3) := bdL_law_2158.2.2.2.2.2.1
theorem dL_law_2170 : decode cL_law 2170 = .ok (.aload_n 3, 1) := bdL_law_2158.2.2.2.2.2.2.1
theorem dL_law_2171 : decode cL_law 2171 = .ok (.iconst 0, 1) := bdL_law_2158.2.2.2.2.2.2.2.1
theorem dL_law_2172 : decode cL_law 2172 = .ok (.laload, 1) := bdL_law_2158.2.2.2.2.2.2.2.2.1
theorem dL_law_2173 : decode cL_law 2173 = .ok (.iload 6, 2) := bdL_law_2158.2.2.2.2.2.2.2.2.2
theorem bdL_law_2175 : (decode cL_law 2175 = .ok (.i2l, 1)) ∧ (decode cL_law 2176 = .ok (.lcmp, 1)) ∧ (decode cL_law 2177 = .ok (.ifCond .eq 5, 3)) ∧ (decode cL_law 2180 = .ok (.iconst 0, 1)) ∧ (decode cL_law 2181 = .ok (.ireturn, 1)) ∧ (decode cL_law 2182 = .ok (.goto 27, 3)) ∧ (decode cL_law 2185 = .ok (.aload_n 1, 1)) ∧ (decode cL_law 2186 = .ok (.invokevirtual 242, 3)) ∧ (decode cL_law 2189 = .ok (.aload_n 2, 1)) ∧ (decode cL_law 2190 = .ok (.invokevirtual 245, 3)) := by decide +kernel
theorem dL_law_2175 : decode cL_law 2175 = .ok (.i2l, 1) := bdL_law_2175.1
theorem dL_law_2176 : decode cL_law 2176 = .ok (.lcmp, 1) := bdL_law_2175.2.1
theorem dL_law_2177 : decode cL_law 2177 = .ok (.ifCond .eq 5, 3) := bdL_law_2175.2.2.1
theorem dL_law_2180 : decode cL_law 2180 = .ok (.iconst 0, 1) := bdL_law_2175.2.2.2.1
theorem dL_law_2181 : decode cL_law 2181 = .ok (.ireturn, 1) := bdL_law_2175.2.2.2.2.1
theorem dL_law_2182 : decode cL_law 2182 = .ok (.goto 27, 3) := bdL_law_2175.2.2.2.2.2.1
theorem dL_law_2185 : decode cL_law 2185 = .ok (.aload_n 1, 1) := bdL_law_2175.2.2.2.2.2.2.1
theorem dL_law_2186 : decode cL_law 2186 = .ok (.invokevirtual 242, 3) := bdL_law_2175.2.2.2.2.2.2.2.1
theorem dL_law_2189 : decode cL_law 2189 = .ok (.aload_n 2, 1) := bdL_law_2175.2.2.2.2.2.2.2.2.1
theorem dL_law_2190 : decode cL_law 2190 = .ok (.invokevirtual 245, 3) := bdL_law_2175.2.2.2.2.2.2.2.2.2
theorem bdL_law_2193 : (decode cL_law 2193 = .ok (.goto 16, 3)) ∧ (decode cL_law 2196 = .ok (.aload_n 1, 1)) ∧ (decode cL_law 2197 = .ok (.invokevirtual 246, 3)) ∧ (decode cL_law 2200 = .ok (.aload_n 2, 1)) ∧ (decode cL_law 2201 = .ok (.invokevirtual 250, 3)) ∧ (decode cL_law 2204 = .ok (.if_icmp .eq 5, 3)) ∧ (decode cL_law 2207 = .ok (.iconst 0, 1)) ∧ (decode cL_law 2208 = .ok (.ireturn, 1)) ∧ (decode cL_law 2209 = .ok (.iinc 4 6, 3)) ∧ (decode cL_law 2212 = .ok (.goto (-2189), 3)) := by decide +kernel
theorem dL_law_2193 : decode cL_law 2193 = .ok (.goto 16, 3) := bdL_law_2193.1
theorem dL_law_2196 : decode cL_law 2196 = .ok (.aload_n 1, 1) := bdL_law_2193.2.1
theorem dL_law_2197 : decode cL_law 2197 = .ok (.invokevirtual 246, 3) := bdL_law_2193.2.2.1
theorem dL_law_2200 : decode cL_law 2200 = .ok (.aload_n 2, 1) := bdL_law_2193.2.2.2.1
theorem dL_law_2201 : decode cL_law 2201 = .ok (.invokevirtual 250, 3) := bdL_law_2193.2.2.2.2.1
theorem dL_law_2204 : decode cL_law 2204 = .ok (.if_icmp .eq 5, 3) := bdL_law_2193.2.2.2.2.2.1
theorem dL_law_2207 : decode cL_law 2207 = .ok (.iconst 0, 1) := bdL_law_2193.2.2.2.2.2.2.1
theorem dL_law_2208 : decode cL_law 2208 = .ok (.ireturn, 1) := bdL_law_2193.2.2.2.2.2.2.2.1
theorem dL_law_2209 : decode cL_law 2209 = .ok (.iinc 4 6, 3) := bdL_law_2193.2.2.2.2.2.2.2.2.1
theorem dL_law_2212 : decode cL_law 2212 = .ok (.goto (-2189), 3) := bdL_law_2193.2.2.2.2.2.2.2.2.2
theorem bdL_law_2215 : (decode cL_law 2215 = .ok (.iconst 1, 1)) ∧ (decode cL_law 2216 = .ok (.ireturn, 1)) := by decide +kernel
theorem dL_law_2215 : decode cL_law 2215 = .ok (.iconst 1, 1) := bdL_law_2215.1
theorem dL_law_2216 : decode cL_law 2216 = .ok (.ireturn, 1) := bdL_law_2215.2

theorem bdX0_init_0 : (decode cX0_init 0 = .ok (.aload_n 0, 1)) ∧ (decode cX0_init 1 = .ok (.invokespecial 1, 3)) ∧ (decode cX0_init 4 = .ok (.aload_n 0, 1)) ∧ (decode cX0_init 5 = .ok (.new 7, 3)) ∧ (decode cX0_init 8 = .ok (.dup, 1)) ∧ (decode cX0_init 9 = .ok (.invokespecial 9, 3)) ∧ (decode cX0_init 12 = .ok (.putfield 10, 3)) ∧ (decode cX0_init 15 = .ok (.aload_n 0, 1)) ∧ (decode cX0_init 16 = .ok (.new 16, 3)) ∧ (decode cX0_init 19 = .ok (.dup, 1)) := by decide +kernel
theorem dX0_init_0 : decode cX0_init 0 = .ok (.aload_n 0, 1) := bdX0_init_0.1
theorem dX0_init_1 : decode cX0_init 1 = .ok (.invokespecial 1, 3) := bdX0_init_0.2.1
theorem dX0_init_4 : decode cX0_init 4 = .ok (.aload_n 0, 1) := bdX0_init_0.2.2.1
theorem dX0_init_5 : decode cX0_init 5 = .ok (.new 7, 3) := bdX0_init_0.2.2.2.1
theorem dX0_init_8 : decode cX0_init 8 = .ok (.dup, 1) := bdX0_init_0.2.2.2.2.1
theorem dX0_init_9 : decode cX0_init 9 = .ok (.invokespecial 9, 3) := bdX0_init_0.2.2.2.2.2.1
theorem dX0_init_12 : decode cX0_init 12 = .ok (.putfield 10, 3) := bdX0_init_0.2.2.2.2.2.2.1
theorem dX0_init_15 : decode cX0_init 15 = .ok (.aload_n 0, 1) := bdX0_init_0.2.2.2.2.2.2.2.1
theorem dX0_init_16 : decode cX0_init 16 = .ok (.new 16, 3) := bdX0_init_0.2.2.2.2.2.2.2.2.1
theorem dX0_init_19 : decode cX0_init 19 = .ok (.dup, 1) := bdX0_init_0.2.2.2.2.2.2.2.2.2
theorem bdX0_init_20 : (decode cX0_init 20 = .ok (.invokespecial 18, 3)) ∧ (decode cX0_init 23 = .ok (.putfield 19, 3)) ∧ (decode cX0_init 26 = .ok (.aload_n 0, 1)) ∧ (decode cX0_init 27 = .ok (.new 23, 3)) ∧ (decode cX0_init 30 = .ok (.dup, 1)) ∧ (decode cX0_init 31 = .ok (.invokespecial 25, 3)) ∧ (decode cX0_init 34 = .ok (.putfield 26, 3)) ∧ (decode cX0_init 37 = .ok (.aload_n 0, 1)) ∧ (decode cX0_init 38 = .ok (.iconst 3, 1)) ∧ (decode cX0_init 39 = .ok (.newarray .int, 2)) := by decide +kernel
theorem dX0_init_20 : decode cX0_init 20 = .ok (.invokespecial 18, 3) := bdX0_init_20.1
theorem dX0_init_23 : decode cX0_init 23 = .ok (.putfield 19, 3) := bdX0_init_20.2.1
theorem dX0_init_26 : decode cX0_init 26 = .ok (.aload_n 0, 1) := bdX0_init_20.2.2.1
theorem dX0_init_27 : decode cX0_init 27 = .ok (.new 23, 3) := bdX0_init_20.2.2.2.1
theorem dX0_init_30 : decode cX0_init 30 = .ok (.dup, 1) := bdX0_init_20.2.2.2.2.1
theorem dX0_init_31 : decode cX0_init 31 = .ok (.invokespecial 25, 3) := bdX0_init_20.2.2.2.2.2.1
theorem dX0_init_34 : decode cX0_init 34 = .ok (.putfield 26, 3) := bdX0_init_20.2.2.2.2.2.2.1
theorem dX0_init_37 : decode cX0_init 37 = .ok (.aload_n 0, 1) := bdX0_init_20.2.2.2.2.2.2.2.1
theorem dX0_init_38 : decode cX0_init 38 = .ok (.iconst 3, 1) := bdX0_init_20.2.2.2.2.2.2.2.2.1
theorem dX0_init_39 : decode cX0_init 39 = .ok (.newarray .int, 2) := bdX0_init_20.2.2.2.2.2.2.2.2.2
theorem bdX0_init_41 : (decode cX0_init 41 = .ok (.putfield 30, 3)) ∧ (decode cX0_init 44 = .ok (.return_, 1)) := by decide +kernel
theorem dX0_init_41 : decode cX0_init 41 = .ok (.putfield 30, 3) := bdX0_init_41.1
theorem dX0_init_44 : decode cX0_init 44 = .ok (.return_, 1) := bdX0_init_41.2
theorem bdX0_begin_0 : (decode cX0_begin 0 = .ok (.aload_n 0, 1)) ∧ (decode cX0_begin 1 = .ok (.getfield 10, 3)) ∧ (decode cX0_begin 4 = .ok (.aload_n 1, 1)) ∧ (decode cX0_begin 5 = .ok (.invokevirtual 34, 3)) ∧ (decode cX0_begin 8 = .ok (.aload_n 0, 1)) ∧ (decode cX0_begin 9 = .ok (.getfield 19, 3)) ∧ (decode cX0_begin 12 = .ok (.invokevirtual 38, 3)) ∧ (decode cX0_begin 15 = .ok (.aload_n 0, 1)) ∧ (decode cX0_begin 16 = .ok (.getfield 26, 3)) ∧ (decode cX0_begin 19 = .ok (.iconst 0, 1)) := by decide +kernel
theorem dX0_begin_0 : decode cX0_begin 0 = .ok (.aload_n 0, 1) := bdX0_begin_0.1
theorem dX0_begin_1 : decode cX0_begin 1 = .ok (.getfield 10, 3) := bdX0_begin_0.2.1
theorem dX0_begin_4 : decode cX0_begin 4 = .ok (.aload_n 1, 1) := bdX0_begin_0.2.2.1
theorem dX0_begin_5 : decode cX0_begin 5 = .ok (.invokevirtual 34, 3) := bdX0_begin_0.2.2.2.1
theorem dX0_begin_8 : decode cX0_begin 8 = .ok (.aload_n 0, 1) := bdX0_begin_0.2.2.2.2.1
theorem dX0_begin_9 : decode cX0_begin 9 = .ok (.getfield 19, 3) := bdX0_begin_0.2.2.2.2.2.1
theorem dX0_begin_12 : decode cX0_begin 12 = .ok (.invokevirtual 38, 3) := bdX0_begin_0.2.2.2.2.2.2.1
theorem dX0_begin_15 : decode cX0_begin 15 = .ok (.aload_n 0, 1) := bdX0_begin_0.2.2.2.2.2.2.2.1
theorem dX0_begin_16 : decode cX0_begin 16 = .ok (.getfield 26, 3) := bdX0_begin_0.2.2.2.2.2.2.2.2.1
theorem dX0_begin_19 : decode cX0_begin 19 = .ok (.iconst 0, 1) := bdX0_begin_0.2.2.2.2.2.2.2.2.2
theorem bdX0_begin_20 : (decode cX0_begin 20 = .ok (.putfield 41, 3)) ∧ (decode cX0_begin 23 = .ok (.return_, 1)) := by decide +kernel
theorem dX0_begin_20 : decode cX0_begin 20 = .ok (.putfield 41, 3) := bdX0_begin_20.1
theorem dX0_begin_23 : decode cX0_begin 23 = .ok (.return_, 1) := bdX0_begin_20.2
theorem bdX0_copyFrom_0 : (decode cX0_copyFrom 0 = .ok (.aload_n 0, 1)) ∧ (decode cX0_copyFrom 1 = .ok (.getfield 10, 3)) ∧ (decode cX0_copyFrom 4 = .ok (.aload_n 1, 1)) ∧ (decode cX0_copyFrom 5 = .ok (.getfield 10, 3)) ∧ (decode cX0_copyFrom 8 = .ok (.invokevirtual 45, 3)) ∧ (decode cX0_copyFrom 11 = .ok (.aload_n 0, 1)) ∧ (decode cX0_copyFrom 12 = .ok (.getfield 19, 3)) ∧ (decode cX0_copyFrom 15 = .ok (.aload_n 1, 1)) ∧ (decode cX0_copyFrom 16 = .ok (.getfield 19, 3)) ∧ (decode cX0_copyFrom 19 = .ok (.invokevirtual 49, 3)) := by decide +kernel
theorem dX0_copyFrom_0 : decode cX0_copyFrom 0 = .ok (.aload_n 0, 1) := bdX0_copyFrom_0.1
theorem dX0_copyFrom_1 : decode cX0_copyFrom 1 = .ok (.getfield 10, 3) := bdX0_copyFrom_0.2.1
theorem dX0_copyFrom_4 : decode cX0_copyFrom 4 = .ok (.aload_n 1, 1) := bdX0_copyFrom_0.2.2.1
theorem dX0_copyFrom_5 : decode cX0_copyFrom 5 = .ok (.getfield 10, 3) := bdX0_copyFrom_0.2.2.2.1
theorem dX0_copyFrom_8 : decode cX0_copyFrom 8 = .ok (.invokevirtual 45, 3) := bdX0_copyFrom_0.2.2.2.2.1
theorem dX0_copyFrom_11 : decode cX0_copyFrom 11 = .ok (.aload_n 0, 1) := bdX0_copyFrom_0.2.2.2.2.2.1
theorem dX0_copyFrom_12 : decode cX0_copyFrom 12 = .ok (.getfield 19, 3) := bdX0_copyFrom_0.2.2.2.2.2.2.1
theorem dX0_copyFrom_15 : decode cX0_copyFrom 15 = .ok (.aload_n 1, 1) := bdX0_copyFrom_0.2.2.2.2.2.2.2.1
theorem dX0_copyFrom_16 : decode cX0_copyFrom 16 = .ok (.getfield 19, 3) := bdX0_copyFrom_0.2.2.2.2.2.2.2.2.1
theorem dX0_copyFrom_19 : decode cX0_copyFrom 19 = .ok (.invokevirtual 49, 3) := bdX0_copyFrom_0.2.2.2.2.2.2.2.2.2
theorem bdX0_copyFrom_22 : (decode cX0_copyFrom 22 = .ok (.aload_n 0, 1)) ∧ (decode cX0_copyFrom 23 = .ok (.getfield 26, 3)) ∧ (decode cX0_copyFrom 26 = .ok (.aload_n 1, 1)) ∧ (decode cX0_copyFrom 27 = .ok (.getfield 26, 3)) ∧ (decode cX0_copyFrom 30 = .ok (.invokevirtual 52, 3)) ∧ (decode cX0_copyFrom 33 = .ok (.iconst 0, 1)) ∧ (decode cX0_copyFrom 34 = .ok (.istore_n 2, 1)) ∧ (decode cX0_copyFrom 35 = .ok (.iload_n 2, 1)) ∧ (decode cX0_copyFrom 36 = .ok (.aload_n 0, 1)) ∧ (decode cX0_copyFrom 37 = .ok (.getfield 30, 3)) := by decide +kernel
theorem dX0_copyFrom_22 : decode cX0_copyFrom 22 = .ok (.aload_n 0, 1) := bdX0_copyFrom_22.1
theorem dX0_copyFrom_23 : decode cX0_copyFrom 23 = .ok (.getfield 26, 3) := bdX0_copyFrom_22.2.1
theorem dX0_copyFrom_26 : decode cX0_copyFrom 26 = .ok (.aload_n 1, 1) := bdX0_copyFrom_22.2.2.1
theorem dX0_copyFrom_27 : decode cX0_copyFrom 27 = .ok (.getfield 26, 3) := bdX0_copyFrom_22.2.2.2.1
theorem dX0_copyFrom_30 : decode cX0_copyFrom 30 = .ok (.invokevirtual 52, 3) := bdX0_copyFrom_22.2.2.2.2.1
theorem dX0_copyFrom_33 : decode cX0_copyFrom 33 = .ok (.iconst 0, 1) := bdX0_copyFrom_22.2.2.2.2.2.1
theorem dX0_copyFrom_34 : decode cX0_copyFrom 34 = .ok (.istore_n 2, 1) := bdX0_copyFrom_22.2.2.2.2.2.2.1
theorem dX0_copyFrom_35 : decode cX0_copyFrom 35 = .ok (.iload_n 2, 1) := bdX0_copyFrom_22.2.2.2.2.2.2.2.1
theorem dX0_copyFrom_36 : decode cX0_copyFrom 36 = .ok (.aload_n 0, 1) := bdX0_copyFrom_22.2.2.2.2.2.2.2.2.1
theorem dX0_copyFrom_37 : decode cX0_copyFrom 37 = .ok (.getfield 30, 3) := bdX0_copyFrom_22.2.2.2.2.2.2.2.2.2
theorem bdX0_copyFrom_40 : (decode cX0_copyFrom 40 = .ok (.arraylength, 1)) ∧ (decode cX0_copyFrom 41 = .ok (.if_icmp .ge 21, 3)) ∧ (decode cX0_copyFrom 44 = .ok (.aload_n 0, 1)) ∧ (decode cX0_copyFrom 45 = .ok (.getfield 30, 3)) ∧ (decode cX0_copyFrom 48 = .ok (.iload_n 2, 1)) ∧ (decode cX0_copyFrom 49 = .ok (.aload_n 1, 1)) ∧ (decode cX0_copyFrom 50 = .ok (.getfield 30, 3)) ∧ (decode cX0_copyFrom 53 = .ok (.iload_n 2, 1)) ∧ (decode cX0_copyFrom 54 = .ok (.iaload, 1)) ∧ (decode cX0_copyFrom 55 = .ok (.iastore, 1)) := by decide +kernel
theorem dX0_copyFrom_40 : decode cX0_copyFrom 40 = .ok (.arraylength, 1) := bdX0_copyFrom_40.1
theorem dX0_copyFrom_41 : decode cX0_copyFrom 41 = .ok (.if_icmp .ge 21, 3) := bdX0_copyFrom_40.2.1
theorem dX0_copyFrom_44 : decode cX0_copyFrom 44 = .ok (.aload_n 0, 1) := bdX0_copyFrom_40.2.2.1
theorem dX0_copyFrom_45 : decode cX0_copyFrom 45 = .ok (.getfield 30, 3) := bdX0_copyFrom_40.2.2.2.1
theorem dX0_copyFrom_48 : decode cX0_copyFrom 48 = .ok (.iload_n 2, 1) := bdX0_copyFrom_40.2.2.2.2.1
theorem dX0_copyFrom_49 : decode cX0_copyFrom 49 = .ok (.aload_n 1, 1) := bdX0_copyFrom_40.2.2.2.2.2.1
theorem dX0_copyFrom_50 : decode cX0_copyFrom 50 = .ok (.getfield 30, 3) := bdX0_copyFrom_40.2.2.2.2.2.2.1
theorem dX0_copyFrom_53 : decode cX0_copyFrom 53 = .ok (.iload_n 2, 1) := bdX0_copyFrom_40.2.2.2.2.2.2.2.1
theorem dX0_copyFrom_54 : decode cX0_copyFrom 54 = .ok (.iaload, 1) := bdX0_copyFrom_40.2.2.2.2.2.2.2.2.1
theorem dX0_copyFrom_55 : decode cX0_copyFrom 55 = .ok (.iastore, 1) := bdX0_copyFrom_40.2.2.2.2.2.2.2.2.2
theorem bdX0_copyFrom_56 : (decode cX0_copyFrom 56 = .ok (.iinc 2 1, 3)) ∧ (decode cX0_copyFrom 59 = .ok (.goto (-24), 3)) ∧ (decode cX0_copyFrom 62 = .ok (.return_, 1)) := by decide +kernel
theorem dX0_copyFrom_56 : decode cX0_copyFrom 56 = .ok (.iinc 2 1, 3) := bdX0_copyFrom_56.1
theorem dX0_copyFrom_59 : decode cX0_copyFrom 59 = .ok (.goto (-24), 3) := bdX0_copyFrom_56.2.1
theorem dX0_copyFrom_62 : decode cX0_copyFrom 62 = .ok (.return_, 1) := bdX0_copyFrom_56.2.2
theorem bdX1_init_0 : (decode cX1_init 0 = .ok (.aload_n 0, 1)) ∧ (decode cX1_init 1 = .ok (.invokespecial 3, 3)) ∧ (decode cX1_init 4 = .ok (.aload_n 0, 1)) ∧ (decode cX1_init 5 = .ok (.sipush 1240, 3)) ∧ (decode cX1_init 8 = .ok (.newarray .int, 2)) ∧ (decode cX1_init 10 = .ok (.putfield 11, 3)) ∧ (decode cX1_init 13 = .ok (.aload_n 0, 1)) ∧ (decode cX1_init 14 = .ok (.iconst 0, 1)) ∧ (decode cX1_init 15 = .ok (.putfield 17, 3)) ∧ (decode cX1_init 18 = .ok (.aload_n 0, 1)) := by decide +kernel
theorem dX1_init_0 : decode cX1_init 0 = .ok (.aload_n 0, 1) := bdX1_init_0.1
theorem dX1_init_1 : decode cX1_init 1 = .ok (.invokespecial 3, 3) := bdX1_init_0.2.1
theorem dX1_init_4 : decode cX1_init 4 = .ok (.aload_n 0, 1) := bdX1_init_0.2.2.1
theorem dX1_init_5 : decode cX1_init 5 = .ok (.sipush 1240, 3) := bdX1_init_0.2.2.2.1
theorem dX1_init_8 : decode cX1_init 8 = .ok (.newarray .int, 2) := bdX1_init_0.2.2.2.2.1
theorem dX1_init_10 : decode cX1_init 10 = .ok (.putfield 11, 3) := bdX1_init_0.2.2.2.2.2.1
theorem dX1_init_13 : decode cX1_init 13 = .ok (.aload_n 0, 1) := bdX1_init_0.2.2.2.2.2.2.1
theorem dX1_init_14 : decode cX1_init 14 = .ok (.iconst 0, 1) := bdX1_init_0.2.2.2.2.2.2.2.1
theorem dX1_init_15 : decode cX1_init 15 = .ok (.putfield 17, 3) := bdX1_init_0.2.2.2.2.2.2.2.2.1
theorem dX1_init_18 : decode cX1_init 18 = .ok (.aload_n 0, 1) := bdX1_init_0.2.2.2.2.2.2.2.2.2
theorem bdX1_init_19 : (decode cX1_init 19 = .ok (.iconst 0, 1)) ∧ (decode cX1_init 20 = .ok (.putfield 21, 3)) ∧ (decode cX1_init 23 = .ok (.return_, 1)) := by decide +kernel
theorem dX1_init_19 : decode cX1_init 19 = .ok (.iconst 0, 1) := bdX1_init_19.1
theorem dX1_init_20 : decode cX1_init 20 = .ok (.putfield 21, 3) := bdX1_init_19.2.1
theorem dX1_init_23 : decode cX1_init 23 = .ok (.return_, 1) := bdX1_init_19.2.2
theorem bdX1_clear_0 : (decode cX1_clear 0 = .ok (.aload_n 0, 1)) ∧ (decode cX1_clear 1 = .ok (.iconst 0, 1)) ∧ (decode cX1_clear 2 = .ok (.putfield 17, 3)) ∧ (decode cX1_clear 5 = .ok (.aload_n 0, 1)) ∧ (decode cX1_clear 6 = .ok (.iconst 0, 1)) ∧ (decode cX1_clear 7 = .ok (.putfield 21, 3)) ∧ (decode cX1_clear 10 = .ok (.return_, 1)) := by decide +kernel
theorem dX1_clear_0 : decode cX1_clear 0 = .ok (.aload_n 0, 1) := bdX1_clear_0.1
theorem dX1_clear_1 : decode cX1_clear 1 = .ok (.iconst 0, 1) := bdX1_clear_0.2.1
theorem dX1_clear_2 : decode cX1_clear 2 = .ok (.putfield 17, 3) := bdX1_clear_0.2.2.1
theorem dX1_clear_5 : decode cX1_clear 5 = .ok (.aload_n 0, 1) := bdX1_clear_0.2.2.2.1
theorem dX1_clear_6 : decode cX1_clear 6 = .ok (.iconst 0, 1) := bdX1_clear_0.2.2.2.2.1
theorem dX1_clear_7 : decode cX1_clear 7 = .ok (.putfield 21, 3) := bdX1_clear_0.2.2.2.2.2.1
theorem dX1_clear_10 : decode cX1_clear 10 = .ok (.return_, 1) := bdX1_clear_0.2.2.2.2.2.2
theorem bdX1_keep_0 : (decode cX1_keep 0 = .ok (.aload_n 1, 1)) ∧ (decode cX1_keep 1 = .ok (.aload_n 0, 1)) ∧ (decode cX1_keep 2 = .ok (.getfield 11, 3)) ∧ (decode cX1_keep 5 = .ok (.aload_n 0, 1)) ∧ (decode cX1_keep 6 = .ok (.getfield 17, 3)) ∧ (decode cX1_keep 9 = .ok (.aload_n 0, 1)) ∧ (decode cX1_keep 10 = .ok (.getfield 21, 3)) ∧ (decode cX1_keep 13 = .ok (.iadd, 1)) ∧ (decode cX1_keep 14 = .ok (.bipush 40, 2)) ∧ (decode cX1_keep 16 = .ok (.irem, 1)) := by decide +kernel
theorem dX1_keep_0 : decode cX1_keep 0 = .ok (.aload_n 1, 1) := bdX1_keep_0.1
theorem dX1_keep_1 : decode cX1_keep 1 = .ok (.aload_n 0, 1) := bdX1_keep_0.2.1
theorem dX1_keep_2 : decode cX1_keep 2 = .ok (.getfield 11, 3) := bdX1_keep_0.2.2.1
theorem dX1_keep_5 : decode cX1_keep 5 = .ok (.aload_n 0, 1) := bdX1_keep_0.2.2.2.1
theorem dX1_keep_6 : decode cX1_keep 6 = .ok (.getfield 17, 3) := bdX1_keep_0.2.2.2.2.1
theorem dX1_keep_9 : decode cX1_keep 9 = .ok (.aload_n 0, 1) := bdX1_keep_0.2.2.2.2.2.1
theorem dX1_keep_10 : decode cX1_keep 10 = .ok (.getfield 21, 3) := bdX1_keep_0.2.2.2.2.2.2.1
theorem dX1_keep_13 : decode cX1_keep 13 = .ok (.iadd, 1) := bdX1_keep_0.2.2.2.2.2.2.2.1
theorem dX1_keep_14 : decode cX1_keep 14 = .ok (.bipush 40, 2) := bdX1_keep_0.2.2.2.2.2.2.2.2.1
theorem dX1_keep_16 : decode cX1_keep 16 = .ok (.irem, 1) := bdX1_keep_0.2.2.2.2.2.2.2.2.2
theorem bdX1_keep_17 : (decode cX1_keep 17 = .ok (.bipush 31, 2)) ∧ (decode cX1_keep 19 = .ok (.imul, 1)) ∧ (decode cX1_keep 20 = .ok (.invokevirtual 24, 3)) ∧ (decode cX1_keep 23 = .ok (.aload_n 0, 1)) ∧ (decode cX1_keep 24 = .ok (.getfield 21, 3)) ∧ (decode cX1_keep 27 = .ok (.bipush 40, 2)) ∧ (decode cX1_keep 29 = .ok (.if_icmp .ge 16, 3)) ∧ (decode cX1_keep 32 = .ok (.aload_n 0, 1)) ∧ (decode cX1_keep 33 = .ok (.dup, 1)) ∧ (decode cX1_keep 34 = .ok (.getfield 21, 3)) := by decide +kernel
theorem dX1_keep_17 : decode cX1_keep 17 = .ok (.bipush 31, 2) := bdX1_keep_17.1
theorem dX1_keep_19 : decode cX1_keep 19 = .ok (.imul, 1) := bdX1_keep_17.2.1
theorem dX1_keep_20 : decode cX1_keep 20 = .ok (.invokevirtual 24, 3) := bdX1_keep_17.2.2.1
theorem dX1_keep_23 : decode cX1_keep 23 = .ok (.aload_n 0, 1) := bdX1_keep_17.2.2.2.1
theorem dX1_keep_24 : decode cX1_keep 24 = .ok (.getfield 21, 3) := bdX1_keep_17.2.2.2.2.1
theorem dX1_keep_27 : decode cX1_keep 27 = .ok (.bipush 40, 2) := bdX1_keep_17.2.2.2.2.2.1
theorem dX1_keep_29 : decode cX1_keep 29 = .ok (.if_icmp .ge 16, 3) := bdX1_keep_17.2.2.2.2.2.2.1
theorem dX1_keep_32 : decode cX1_keep 32 = .ok (.aload_n 0, 1) := bdX1_keep_17.2.2.2.2.2.2.2.1
theorem dX1_keep_33 : decode cX1_keep 33 = .ok (.dup, 1) := bdX1_keep_17.2.2.2.2.2.2.2.2.1
theorem dX1_keep_34 : decode cX1_keep 34 = .ok (.getfield 21, 3) := bdX1_keep_17.2.2.2.2.2.2.2.2.2
theorem bdX1_keep_37 : (decode cX1_keep 37 = .ok (.iconst 1, 1)) ∧ (decode cX1_keep 38 = .ok (.iadd, 1)) ∧ (decode cX1_keep 39 = .ok (.putfield 21, 3)) ∧ (decode cX1_keep 42 = .ok (.goto 16, 3)) ∧ (decode cX1_keep 45 = .ok (.aload_n 0, 1)) ∧ (decode cX1_keep 46 = .ok (.aload_n 0, 1)) ∧ (decode cX1_keep 47 = .ok (.getfield 17, 3)) ∧ (decode cX1_keep 50 = .ok (.iconst 1, 1)) ∧ (decode cX1_keep 51 = .ok (.iadd, 1)) ∧ (decode cX1_keep 52 = .ok (.bipush 40, 2)) := by decide +kernel
theorem dX1_keep_37 : decode cX1_keep 37 = .ok (.iconst 1, 1) := bdX1_keep_37.1
theorem dX1_keep_38 : decode cX1_keep 38 = .ok (.iadd, 1) := bdX1_keep_37.2.1
theorem dX1_keep_39 : decode cX1_keep 39 = .ok (.putfield 21, 3) := bdX1_keep_37.2.2.1
theorem dX1_keep_42 : decode cX1_keep 42 = .ok (.goto 16, 3) := bdX1_keep_37.2.2.2.1
theorem dX1_keep_45 : decode cX1_keep 45 = .ok (.aload_n 0, 1) := bdX1_keep_37.2.2.2.2.1
theorem dX1_keep_46 : decode cX1_keep 46 = .ok (.aload_n 0, 1) := bdX1_keep_37.2.2.2.2.2.1
theorem dX1_keep_47 : decode cX1_keep 47 = .ok (.getfield 17, 3) := bdX1_keep_37.2.2.2.2.2.2.1
theorem dX1_keep_50 : decode cX1_keep 50 = .ok (.iconst 1, 1) := bdX1_keep_37.2.2.2.2.2.2.2.1
theorem dX1_keep_51 : decode cX1_keep 51 = .ok (.iadd, 1) := bdX1_keep_37.2.2.2.2.2.2.2.2.1
theorem dX1_keep_52 : decode cX1_keep 52 = .ok (.bipush 40, 2) := bdX1_keep_37.2.2.2.2.2.2.2.2.2
theorem bdX1_keep_54 : (decode cX1_keep 54 = .ok (.irem, 1)) ∧ (decode cX1_keep 55 = .ok (.putfield 17, 3)) ∧ (decode cX1_keep 58 = .ok (.return_, 1)) := by decide +kernel
theorem dX1_keep_54 : decode cX1_keep 54 = .ok (.irem, 1) := bdX1_keep_54.1
theorem dX1_keep_55 : decode cX1_keep 55 = .ok (.putfield 17, 3) := bdX1_keep_54.2.1
theorem dX1_keep_58 : decode cX1_keep 58 = .ok (.return_, 1) := bdX1_keep_54.2.2
theorem bdX1_takeLast_0 : (decode cX1_takeLast 0 = .ok (.aload_n 0, 1)) ∧ (decode cX1_takeLast 1 = .ok (.getfield 21, 3)) ∧ (decode cX1_takeLast 4 = .ok (.ifCond .le 36, 3)) ∧ (decode cX1_takeLast 7 = .ok (.aload_n 0, 1)) ∧ (decode cX1_takeLast 8 = .ok (.dup, 1)) ∧ (decode cX1_takeLast 9 = .ok (.getfield 21, 3)) ∧ (decode cX1_takeLast 12 = .ok (.iconst 1, 1)) ∧ (decode cX1_takeLast 13 = .ok (.isub, 1)) ∧ (decode cX1_takeLast 14 = .ok (.putfield 21, 3)) ∧ (decode cX1_takeLast 17 = .ok (.aload_n 1, 1)) := by decide +kernel
theorem dX1_takeLast_0 : decode cX1_takeLast 0 = .ok (.aload_n 0, 1) := bdX1_takeLast_0.1
theorem dX1_takeLast_1 : decode cX1_takeLast 1 = .ok (.getfield 21, 3) := bdX1_takeLast_0.2.1
theorem dX1_takeLast_4 : decode cX1_takeLast 4 = .ok (.ifCond .le 36, 3) := bdX1_takeLast_0.2.2.1
theorem dX1_takeLast_7 : decode cX1_takeLast 7 = .ok (.aload_n 0, 1) := bdX1_takeLast_0.2.2.2.1
theorem dX1_takeLast_8 : decode cX1_takeLast 8 = .ok (.dup, 1) := bdX1_takeLast_0.2.2.2.2.1
theorem dX1_takeLast_9 : decode cX1_takeLast 9 = .ok (.getfield 21, 3) := bdX1_takeLast_0.2.2.2.2.2.1
theorem dX1_takeLast_12 : decode cX1_takeLast 12 = .ok (.iconst 1, 1) := bdX1_takeLast_0.2.2.2.2.2.2.1
theorem dX1_takeLast_13 : decode cX1_takeLast 13 = .ok (.isub, 1) := bdX1_takeLast_0.2.2.2.2.2.2.2.1
theorem dX1_takeLast_14 : decode cX1_takeLast 14 = .ok (.putfield 21, 3) := bdX1_takeLast_0.2.2.2.2.2.2.2.2.1
theorem dX1_takeLast_17 : decode cX1_takeLast 17 = .ok (.aload_n 1, 1) := bdX1_takeLast_0.2.2.2.2.2.2.2.2.2
theorem bdX1_takeLast_18 : (decode cX1_takeLast 18 = .ok (.aload_n 0, 1)) ∧ (decode cX1_takeLast 19 = .ok (.getfield 11, 3)) ∧ (decode cX1_takeLast 22 = .ok (.aload_n 0, 1)) ∧ (decode cX1_takeLast 23 = .ok (.getfield 17, 3)) ∧ (decode cX1_takeLast 26 = .ok (.aload_n 0, 1)) ∧ (decode cX1_takeLast 27 = .ok (.getfield 21, 3)) ∧ (decode cX1_takeLast 30 = .ok (.iadd, 1)) ∧ (decode cX1_takeLast 31 = .ok (.bipush 40, 2)) ∧ (decode cX1_takeLast 33 = .ok (.irem, 1)) ∧ (decode cX1_takeLast 34 = .ok (.bipush 31, 2)) := by decide +kernel
theorem dX1_takeLast_18 : decode cX1_takeLast 18 = .ok (.aload_n 0, 1) := bdX1_takeLast_18.1
theorem dX1_takeLast_19 : decode cX1_takeLast 19 = .ok (.getfield 11, 3) := bdX1_takeLast_18.2.1
theorem dX1_takeLast_22 : decode cX1_takeLast 22 = .ok (.aload_n 0, 1) := bdX1_takeLast_18.2.2.1
theorem dX1_takeLast_23 : decode cX1_takeLast 23 = .ok (.getfield 17, 3) := bdX1_takeLast_18.2.2.2.1
theorem dX1_takeLast_26 : decode cX1_takeLast 26 = .ok (.aload_n 0, 1) := bdX1_takeLast_18.2.2.2.2.1
theorem dX1_takeLast_27 : decode cX1_takeLast 27 = .ok (.getfield 21, 3) := bdX1_takeLast_18.2.2.2.2.2.1
theorem dX1_takeLast_30 : decode cX1_takeLast 30 = .ok (.iadd, 1) := bdX1_takeLast_18.2.2.2.2.2.2.1
theorem dX1_takeLast_31 : decode cX1_takeLast 31 = .ok (.bipush 40, 2) := bdX1_takeLast_18.2.2.2.2.2.2.2.1
theorem dX1_takeLast_33 : decode cX1_takeLast 33 = .ok (.irem, 1) := bdX1_takeLast_18.2.2.2.2.2.2.2.2.1
theorem dX1_takeLast_34 : decode cX1_takeLast 34 = .ok (.bipush 31, 2) := bdX1_takeLast_18.2.2.2.2.2.2.2.2.2
theorem bdX1_takeLast_36 : (decode cX1_takeLast 36 = .ok (.imul, 1)) ∧ (decode cX1_takeLast 37 = .ok (.invokevirtual 28, 3)) ∧ (decode cX1_takeLast 40 = .ok (.return_, 1)) := by decide +kernel
theorem dX1_takeLast_36 : decode cX1_takeLast 36 = .ok (.imul, 1) := bdX1_takeLast_36.1
theorem dX1_takeLast_37 : decode cX1_takeLast 37 = .ok (.invokevirtual 28, 3) := bdX1_takeLast_36.2.1
theorem dX1_takeLast_40 : decode cX1_takeLast 40 = .ok (.return_, 1) := bdX1_takeLast_36.2.2
theorem bdX1_copyFrom_0 : (decode cX1_copyFrom 0 = .ok (.aload_n 1, 1)) ∧ (decode cX1_copyFrom 1 = .ok (.getfield 11, 3)) ∧ (decode cX1_copyFrom 4 = .ok (.iconst 0, 1)) ∧ (decode cX1_copyFrom 5 = .ok (.aload_n 0, 1)) ∧ (decode cX1_copyFrom 6 = .ok (.getfield 11, 3)) ∧ (decode cX1_copyFrom 9 = .ok (.iconst 0, 1)) ∧ (decode cX1_copyFrom 10 = .ok (.aload_n 0, 1)) ∧ (decode cX1_copyFrom 11 = .ok (.getfield 11, 3)) ∧ (decode cX1_copyFrom 14 = .ok (.arraylength, 1)) ∧ (decode cX1_copyFrom 15 = .ok (.invokestatic 31, 3)) := by decide +kernel
theorem dX1_copyFrom_0 : decode cX1_copyFrom 0 = .ok (.aload_n 1, 1) := bdX1_copyFrom_0.1
theorem dX1_copyFrom_1 : decode cX1_copyFrom 1 = .ok (.getfield 11, 3) := bdX1_copyFrom_0.2.1
theorem dX1_copyFrom_4 : decode cX1_copyFrom 4 = .ok (.iconst 0, 1) := bdX1_copyFrom_0.2.2.1
theorem dX1_copyFrom_5 : decode cX1_copyFrom 5 = .ok (.aload_n 0, 1) := bdX1_copyFrom_0.2.2.2.1
theorem dX1_copyFrom_6 : decode cX1_copyFrom 6 = .ok (.getfield 11, 3) := bdX1_copyFrom_0.2.2.2.2.1
theorem dX1_copyFrom_9 : decode cX1_copyFrom 9 = .ok (.iconst 0, 1) := bdX1_copyFrom_0.2.2.2.2.2.1
theorem dX1_copyFrom_10 : decode cX1_copyFrom 10 = .ok (.aload_n 0, 1) := bdX1_copyFrom_0.2.2.2.2.2.2.1
theorem dX1_copyFrom_11 : decode cX1_copyFrom 11 = .ok (.getfield 11, 3) := bdX1_copyFrom_0.2.2.2.2.2.2.2.1
theorem dX1_copyFrom_14 : decode cX1_copyFrom 14 = .ok (.arraylength, 1) := bdX1_copyFrom_0.2.2.2.2.2.2.2.2.1
theorem dX1_copyFrom_15 : decode cX1_copyFrom 15 = .ok (.invokestatic 31, 3) := bdX1_copyFrom_0.2.2.2.2.2.2.2.2.2
theorem bdX1_copyFrom_18 : (decode cX1_copyFrom 18 = .ok (.aload_n 0, 1)) ∧ (decode cX1_copyFrom 19 = .ok (.aload_n 1, 1)) ∧ (decode cX1_copyFrom 20 = .ok (.getfield 17, 3)) ∧ (decode cX1_copyFrom 23 = .ok (.putfield 17, 3)) ∧ (decode cX1_copyFrom 26 = .ok (.aload_n 0, 1)) ∧ (decode cX1_copyFrom 27 = .ok (.aload_n 1, 1)) ∧ (decode cX1_copyFrom 28 = .ok (.getfield 21, 3)) ∧ (decode cX1_copyFrom 31 = .ok (.putfield 21, 3)) ∧ (decode cX1_copyFrom 34 = .ok (.return_, 1)) := by decide +kernel
theorem dX1_copyFrom_18 : decode cX1_copyFrom 18 = .ok (.aload_n 0, 1) := bdX1_copyFrom_18.1
theorem dX1_copyFrom_19 : decode cX1_copyFrom 19 = .ok (.aload_n 1, 1) := bdX1_copyFrom_18.2.1
theorem dX1_copyFrom_20 : decode cX1_copyFrom 20 = .ok (.getfield 17, 3) := bdX1_copyFrom_18.2.2.1
theorem dX1_copyFrom_23 : decode cX1_copyFrom 23 = .ok (.putfield 17, 3) := bdX1_copyFrom_18.2.2.2.1
theorem dX1_copyFrom_26 : decode cX1_copyFrom 26 = .ok (.aload_n 0, 1) := bdX1_copyFrom_18.2.2.2.2.1
theorem dX1_copyFrom_27 : decode cX1_copyFrom 27 = .ok (.aload_n 1, 1) := bdX1_copyFrom_18.2.2.2.2.2.1
theorem dX1_copyFrom_28 : decode cX1_copyFrom 28 = .ok (.getfield 21, 3) := bdX1_copyFrom_18.2.2.2.2.2.2.1
theorem dX1_copyFrom_31 : decode cX1_copyFrom 31 = .ok (.putfield 21, 3) := bdX1_copyFrom_18.2.2.2.2.2.2.2.1
theorem dX1_copyFrom_34 : decode cX1_copyFrom 34 = .ok (.return_, 1) := bdX1_copyFrom_18.2.2.2.2.2.2.2.2
theorem bdX2_init_0 : (decode cX2_init 0 = .ok (.aload_n 0, 1)) ∧ (decode cX2_init 1 = .ok (.invokespecial 3, 3)) ∧ (decode cX2_init 4 = .ok (.aload_n 0, 1)) ∧ (decode cX2_init 5 = .ok (.bipush 8, 2)) ∧ (decode cX2_init 7 = .ok (.newarray .int, 2)) ∧ (decode cX2_init 9 = .ok (.putfield 9, 3)) ∧ (decode cX2_init 12 = .ok (.aload_n 0, 1)) ∧ (decode cX2_init 13 = .ok (.bipush 8, 2)) ∧ (decode cX2_init 15 = .ok (.newarray .int, 2)) ∧ (decode cX2_init 17 = .ok (.putfield 15, 3)) := by decide +kernel
theorem dX2_init_0 : decode cX2_init 0 = .ok (.aload_n 0, 1) := bdX2_init_0.1
theorem dX2_init_1 : decode cX2_init 1 = .ok (.invokespecial 3, 3) := bdX2_init_0.2.1
theorem dX2_init_4 : decode cX2_init 4 = .ok (.aload_n 0, 1) := bdX2_init_0.2.2.1
theorem dX2_init_5 : decode cX2_init 5 = .ok (.bipush 8, 2) := bdX2_init_0.2.2.2.1
theorem dX2_init_7 : decode cX2_init 7 = .ok (.newarray .int, 2) := bdX2_init_0.2.2.2.2.1
theorem dX2_init_9 : decode cX2_init 9 = .ok (.putfield 9, 3) := bdX2_init_0.2.2.2.2.2.1
theorem dX2_init_12 : decode cX2_init 12 = .ok (.aload_n 0, 1) := bdX2_init_0.2.2.2.2.2.2.1
theorem dX2_init_13 : decode cX2_init 13 = .ok (.bipush 8, 2) := bdX2_init_0.2.2.2.2.2.2.2.1
theorem dX2_init_15 : decode cX2_init 15 = .ok (.newarray .int, 2) := bdX2_init_0.2.2.2.2.2.2.2.2.1
theorem dX2_init_17 : decode cX2_init 17 = .ok (.putfield 15, 3) := bdX2_init_0.2.2.2.2.2.2.2.2.2
theorem bdX2_init_20 : (decode cX2_init 20 = .ok (.aload_n 0, 1)) ∧ (decode cX2_init 21 = .ok (.bipush 8, 2)) ∧ (decode cX2_init 23 = .ok (.newarray .int, 2)) ∧ (decode cX2_init 25 = .ok (.putfield 18, 3)) ∧ (decode cX2_init 28 = .ok (.aload_n 0, 1)) ∧ (decode cX2_init 29 = .ok (.bipush 9, 2)) ∧ (decode cX2_init 31 = .ok (.newarray .int, 2)) ∧ (decode cX2_init 33 = .ok (.putfield 21, 3)) ∧ (decode cX2_init 36 = .ok (.aload_n 0, 1)) ∧ (decode cX2_init 37 = .ok (.bipush 9, 2)) := by decide +kernel
theorem dX2_init_20 : decode cX2_init 20 = .ok (.aload_n 0, 1) := bdX2_init_20.1
theorem dX2_init_21 : decode cX2_init 21 = .ok (.bipush 8, 2) := bdX2_init_20.2.1
theorem dX2_init_23 : decode cX2_init 23 = .ok (.newarray .int, 2) := bdX2_init_20.2.2.1
theorem dX2_init_25 : decode cX2_init 25 = .ok (.putfield 18, 3) := bdX2_init_20.2.2.2.1
theorem dX2_init_28 : decode cX2_init 28 = .ok (.aload_n 0, 1) := bdX2_init_20.2.2.2.2.1
theorem dX2_init_29 : decode cX2_init 29 = .ok (.bipush 9, 2) := bdX2_init_20.2.2.2.2.2.1
theorem dX2_init_31 : decode cX2_init 31 = .ok (.newarray .int, 2) := bdX2_init_20.2.2.2.2.2.2.1
theorem dX2_init_33 : decode cX2_init 33 = .ok (.putfield 21, 3) := bdX2_init_20.2.2.2.2.2.2.2.1
theorem dX2_init_36 : decode cX2_init 36 = .ok (.aload_n 0, 1) := bdX2_init_20.2.2.2.2.2.2.2.2.1
theorem dX2_init_37 : decode cX2_init 37 = .ok (.bipush 9, 2) := bdX2_init_20.2.2.2.2.2.2.2.2.2
theorem bdX2_init_39 : (decode cX2_init 39 = .ok (.newarray .int, 2)) ∧ (decode cX2_init 41 = .ok (.putfield 24, 3)) ∧ (decode cX2_init 44 = .ok (.aload_n 0, 1)) ∧ (decode cX2_init 45 = .ok (.bipush 9, 2)) ∧ (decode cX2_init 47 = .ok (.newarray .int, 2)) ∧ (decode cX2_init 49 = .ok (.putfield 27, 3)) ∧ (decode cX2_init 52 = .ok (.aload_n 0, 1)) ∧ (decode cX2_init 53 = .ok (.bipush 10, 2)) ∧ (decode cX2_init 55 = .ok (.newarray .int, 2)) ∧ (decode cX2_init 57 = .ok (.putfield 30, 3)) := by decide +kernel
theorem dX2_init_39 : decode cX2_init 39 = .ok (.newarray .int, 2) := bdX2_init_39.1
theorem dX2_init_41 : decode cX2_init 41 = .ok (.putfield 24, 3) := bdX2_init_39.2.1
theorem dX2_init_44 : decode cX2_init 44 = .ok (.aload_n 0, 1) := bdX2_init_39.2.2.1
theorem dX2_init_45 : decode cX2_init 45 = .ok (.bipush 9, 2) := bdX2_init_39.2.2.2.1
theorem dX2_init_47 : decode cX2_init 47 = .ok (.newarray .int, 2) := bdX2_init_39.2.2.2.2.1
theorem dX2_init_49 : decode cX2_init 49 = .ok (.putfield 27, 3) := bdX2_init_39.2.2.2.2.2.1
theorem dX2_init_52 : decode cX2_init 52 = .ok (.aload_n 0, 1) := bdX2_init_39.2.2.2.2.2.2.1
theorem dX2_init_53 : decode cX2_init 53 = .ok (.bipush 10, 2) := bdX2_init_39.2.2.2.2.2.2.2.1
theorem dX2_init_55 : decode cX2_init 55 = .ok (.newarray .int, 2) := bdX2_init_39.2.2.2.2.2.2.2.2.1
theorem dX2_init_57 : decode cX2_init 57 = .ok (.putfield 30, 3) := bdX2_init_39.2.2.2.2.2.2.2.2.2
theorem bdX2_init_60 : (decode cX2_init 60 = .ok (.aload_n 0, 1)) ∧ (decode cX2_init 61 = .ok (.new 33, 3)) ∧ (decode cX2_init 64 = .ok (.dup, 1)) ∧ (decode cX2_init 65 = .ok (.invokespecial 35, 3)) ∧ (decode cX2_init 68 = .ok (.putfield 36, 3)) ∧ (decode cX2_init 71 = .ok (.aload_n 0, 1)) ∧ (decode cX2_init 72 = .ok (.new 33, 3)) ∧ (decode cX2_init 75 = .ok (.dup, 1)) ∧ (decode cX2_init 76 = .ok (.invokespecial 35, 3)) ∧ (decode cX2_init 79 = .ok (.putfield 40, 3)) := by decide +kernel
theorem dX2_init_60 : decode cX2_init 60 = .ok (.aload_n 0, 1) := bdX2_init_60.1
theorem dX2_init_61 : decode cX2_init 61 = .ok (.new 33, 3) := bdX2_init_60.2.1
theorem dX2_init_64 : decode cX2_init 64 = .ok (.dup, 1) := bdX2_init_60.2.2.1
theorem dX2_init_65 : decode cX2_init 65 = .ok (.invokespecial 35, 3) := bdX2_init_60.2.2.2.1
theorem dX2_init_68 : decode cX2_init 68 = .ok (.putfield 36, 3) := bdX2_init_60.2.2.2.2.1
theorem dX2_init_71 : decode cX2_init 71 = .ok (.aload_n 0, 1) := bdX2_init_60.2.2.2.2.2.1
theorem dX2_init_72 : decode cX2_init 72 = .ok (.new 33, 3) := bdX2_init_60.2.2.2.2.2.2.1
theorem dX2_init_75 : decode cX2_init 75 = .ok (.dup, 1) := bdX2_init_60.2.2.2.2.2.2.2.1
theorem dX2_init_76 : decode cX2_init 76 = .ok (.invokespecial 35, 3) := bdX2_init_60.2.2.2.2.2.2.2.2.1
theorem dX2_init_79 : decode cX2_init 79 = .ok (.putfield 40, 3) := bdX2_init_60.2.2.2.2.2.2.2.2.2
theorem bdX2_init_82 : (decode cX2_init 82 = .ok (.aload_n 0, 1)) ∧ (decode cX2_init 83 = .ok (.iconst 0, 1)) ∧ (decode cX2_init 84 = .ok (.putfield 43, 3)) ∧ (decode cX2_init 87 = .ok (.aload_n 0, 1)) ∧ (decode cX2_init 88 = .ok (.iconst 0, 1)) ∧ (decode cX2_init 89 = .ok (.putfield 47, 3)) ∧ (decode cX2_init 92 = .ok (.aload_n 0, 1)) ∧ (decode cX2_init 93 = .ok (.iconst 0, 1)) ∧ (decode cX2_init 94 = .ok (.putfield 50, 3)) ∧ (decode cX2_init 97 = .ok (.aload_n 0, 1)) := by decide +kernel
theorem dX2_init_82 : decode cX2_init 82 = .ok (.aload_n 0, 1) := bdX2_init_82.1
theorem dX2_init_83 : decode cX2_init 83 = .ok (.iconst 0, 1) := bdX2_init_82.2.1
theorem dX2_init_84 : decode cX2_init 84 = .ok (.putfield 43, 3) := bdX2_init_82.2.2.1
theorem dX2_init_87 : decode cX2_init 87 = .ok (.aload_n 0, 1) := bdX2_init_82.2.2.2.1
theorem dX2_init_88 : decode cX2_init 88 = .ok (.iconst 0, 1) := bdX2_init_82.2.2.2.2.1
theorem dX2_init_89 : decode cX2_init 89 = .ok (.putfield 47, 3) := bdX2_init_82.2.2.2.2.2.1
theorem dX2_init_92 : decode cX2_init 92 = .ok (.aload_n 0, 1) := bdX2_init_82.2.2.2.2.2.2.1
theorem dX2_init_93 : decode cX2_init 93 = .ok (.iconst 0, 1) := bdX2_init_82.2.2.2.2.2.2.2.1
theorem dX2_init_94 : decode cX2_init 94 = .ok (.putfield 50, 3) := bdX2_init_82.2.2.2.2.2.2.2.2.1
theorem dX2_init_97 : decode cX2_init 97 = .ok (.aload_n 0, 1) := bdX2_init_82.2.2.2.2.2.2.2.2.2
theorem bdX2_init_98 : (decode cX2_init 98 = .ok (.bipush 10, 2)) ∧ (decode cX2_init 100 = .ok (.putfield 53, 3)) ∧ (decode cX2_init 103 = .ok (.aload_n 0, 1)) ∧ (decode cX2_init 104 = .ok (.bipush 10, 2)) ∧ (decode cX2_init 106 = .ok (.putfield 56, 3)) ∧ (decode cX2_init 109 = .ok (.aload_n 0, 1)) ∧ (decode cX2_init 110 = .ok (.iconst 4, 1)) ∧ (decode cX2_init 111 = .ok (.putfield 59, 3)) ∧ (decode cX2_init 114 = .ok (.aload_n 0, 1)) ∧ (decode cX2_init 115 = .ok (.iconst 0, 1)) := by decide +kernel
theorem dX2_init_98 : decode cX2_init 98 = .ok (.bipush 10, 2) := bdX2_init_98.1
theorem dX2_init_100 : decode cX2_init 100 = .ok (.putfield 53, 3) := bdX2_init_98.2.1
theorem dX2_init_103 : decode cX2_init 103 = .ok (.aload_n 0, 1) := bdX2_init_98.2.2.1
theorem dX2_init_104 : decode cX2_init 104 = .ok (.bipush 10, 2) := bdX2_init_98.2.2.2.1
theorem dX2_init_106 : decode cX2_init 106 = .ok (.putfield 56, 3) := bdX2_init_98.2.2.2.2.1
theorem dX2_init_109 : decode cX2_init 109 = .ok (.aload_n 0, 1) := bdX2_init_98.2.2.2.2.2.1
theorem dX2_init_110 : decode cX2_init 110 = .ok (.iconst 4, 1) := bdX2_init_98.2.2.2.2.2.2.1
theorem dX2_init_111 : decode cX2_init 111 = .ok (.putfield 59, 3) := bdX2_init_98.2.2.2.2.2.2.2.1
theorem dX2_init_114 : decode cX2_init 114 = .ok (.aload_n 0, 1) := bdX2_init_98.2.2.2.2.2.2.2.2.1
theorem dX2_init_115 : decode cX2_init 115 = .ok (.iconst 0, 1) := bdX2_init_98.2.2.2.2.2.2.2.2.2
theorem bdX2_init_116 : (decode cX2_init 116 = .ok (.putfield 62, 3)) ∧ (decode cX2_init 119 = .ok (.aload_n 0, 1)) ∧ (decode cX2_init 120 = .ok (.iconst 0, 1)) ∧ (decode cX2_init 121 = .ok (.putfield 66, 3)) ∧ (decode cX2_init 124 = .ok (.return_, 1)) := by decide +kernel
theorem dX2_init_116 : decode cX2_init 116 = .ok (.putfield 62, 3) := bdX2_init_116.1
theorem dX2_init_119 : decode cX2_init 119 = .ok (.aload_n 0, 1) := bdX2_init_116.2.1
theorem dX2_init_120 : decode cX2_init 120 = .ok (.iconst 0, 1) := bdX2_init_116.2.2.1
theorem dX2_init_121 : decode cX2_init 121 = .ok (.putfield 66, 3) := bdX2_init_116.2.2.2.1
theorem dX2_init_124 : decode cX2_init 124 = .ok (.return_, 1) := bdX2_init_116.2.2.2.2
theorem bdX2_clear_0 : (decode cX2_clear 0 = .ok (.aload_n 0, 1)) ∧ (decode cX2_clear 1 = .ok (.iconst 0, 1)) ∧ (decode cX2_clear 2 = .ok (.putfield 43, 3)) ∧ (decode cX2_clear 5 = .ok (.aload_n 0, 1)) ∧ (decode cX2_clear 6 = .ok (.iconst 0, 1)) ∧ (decode cX2_clear 7 = .ok (.putfield 47, 3)) ∧ (decode cX2_clear 10 = .ok (.aload_n 0, 1)) ∧ (decode cX2_clear 11 = .ok (.iconst 0, 1)) ∧ (decode cX2_clear 12 = .ok (.putfield 50, 3)) ∧ (decode cX2_clear 15 = .ok (.aload_n 0, 1)) := by decide +kernel
theorem dX2_clear_0 : decode cX2_clear 0 = .ok (.aload_n 0, 1) := bdX2_clear_0.1
theorem dX2_clear_1 : decode cX2_clear 1 = .ok (.iconst 0, 1) := bdX2_clear_0.2.1
theorem dX2_clear_2 : decode cX2_clear 2 = .ok (.putfield 43, 3) := bdX2_clear_0.2.2.1
theorem dX2_clear_5 : decode cX2_clear 5 = .ok (.aload_n 0, 1) := bdX2_clear_0.2.2.2.1
theorem dX2_clear_6 : decode cX2_clear 6 = .ok (.iconst 0, 1) := bdX2_clear_0.2.2.2.2.1
theorem dX2_clear_7 : decode cX2_clear 7 = .ok (.putfield 47, 3) := bdX2_clear_0.2.2.2.2.2.1
theorem dX2_clear_10 : decode cX2_clear 10 = .ok (.aload_n 0, 1) := bdX2_clear_0.2.2.2.2.2.2.1
theorem dX2_clear_11 : decode cX2_clear 11 = .ok (.iconst 0, 1) := bdX2_clear_0.2.2.2.2.2.2.2.1
theorem dX2_clear_12 : decode cX2_clear 12 = .ok (.putfield 50, 3) := bdX2_clear_0.2.2.2.2.2.2.2.2.1
theorem dX2_clear_15 : decode cX2_clear 15 = .ok (.aload_n 0, 1) := bdX2_clear_0.2.2.2.2.2.2.2.2.2
theorem bdX2_clear_16 : (decode cX2_clear 16 = .ok (.bipush 10, 2)) ∧ (decode cX2_clear 18 = .ok (.putfield 53, 3)) ∧ (decode cX2_clear 21 = .ok (.aload_n 0, 1)) ∧ (decode cX2_clear 22 = .ok (.bipush 10, 2)) ∧ (decode cX2_clear 24 = .ok (.putfield 56, 3)) ∧ (decode cX2_clear 27 = .ok (.aload_n 0, 1)) ∧ (decode cX2_clear 28 = .ok (.iconst 4, 1)) ∧ (decode cX2_clear 29 = .ok (.putfield 59, 3)) ∧ (decode cX2_clear 32 = .ok (.aload_n 0, 1)) ∧ (decode cX2_clear 33 = .ok (.iconst 0, 1)) := by decide +kernel
theorem dX2_clear_16 : decode cX2_clear 16 = .ok (.bipush 10, 2) := bdX2_clear_16.1
theorem dX2_clear_18 : decode cX2_clear 18 = .ok (.putfield 53, 3) := bdX2_clear_16.2.1
theorem dX2_clear_21 : decode cX2_clear 21 = .ok (.aload_n 0, 1) := bdX2_clear_16.2.2.1
theorem dX2_clear_22 : decode cX2_clear 22 = .ok (.bipush 10, 2) := bdX2_clear_16.2.2.2.1
theorem dX2_clear_24 : decode cX2_clear 24 = .ok (.putfield 56, 3) := bdX2_clear_16.2.2.2.2.1
theorem dX2_clear_27 : decode cX2_clear 27 = .ok (.aload_n 0, 1) := bdX2_clear_16.2.2.2.2.2.1
theorem dX2_clear_28 : decode cX2_clear 28 = .ok (.iconst 4, 1) := bdX2_clear_16.2.2.2.2.2.2.1
theorem dX2_clear_29 : decode cX2_clear 29 = .ok (.putfield 59, 3) := bdX2_clear_16.2.2.2.2.2.2.2.1
theorem dX2_clear_32 : decode cX2_clear 32 = .ok (.aload_n 0, 1) := bdX2_clear_16.2.2.2.2.2.2.2.2.1
theorem dX2_clear_33 : decode cX2_clear 33 = .ok (.iconst 0, 1) := bdX2_clear_16.2.2.2.2.2.2.2.2.2
theorem bdX2_clear_34 : (decode cX2_clear 34 = .ok (.putfield 62, 3)) ∧ (decode cX2_clear 37 = .ok (.aload_n 0, 1)) ∧ (decode cX2_clear 38 = .ok (.iconst 0, 1)) ∧ (decode cX2_clear 39 = .ok (.putfield 66, 3)) ∧ (decode cX2_clear 42 = .ok (.aload_n 0, 1)) ∧ (decode cX2_clear 43 = .ok (.getfield 36, 3)) ∧ (decode cX2_clear 46 = .ok (.invokevirtual 69, 3)) ∧ (decode cX2_clear 49 = .ok (.aload_n 0, 1)) ∧ (decode cX2_clear 50 = .ok (.getfield 40, 3)) ∧ (decode cX2_clear 53 = .ok (.invokevirtual 69, 3)) := by decide +kernel
theorem dX2_clear_34 : decode cX2_clear 34 = .ok (.putfield 62, 3) := bdX2_clear_34.1
theorem dX2_clear_37 : decode cX2_clear 37 = .ok (.aload_n 0, 1) := bdX2_clear_34.2.1
theorem dX2_clear_38 : decode cX2_clear 38 = .ok (.iconst 0, 1) := bdX2_clear_34.2.2.1
theorem dX2_clear_39 : decode cX2_clear 39 = .ok (.putfield 66, 3) := bdX2_clear_34.2.2.2.1
theorem dX2_clear_42 : decode cX2_clear 42 = .ok (.aload_n 0, 1) := bdX2_clear_34.2.2.2.2.1
theorem dX2_clear_43 : decode cX2_clear 43 = .ok (.getfield 36, 3) := bdX2_clear_34.2.2.2.2.2.1
theorem dX2_clear_46 : decode cX2_clear 46 = .ok (.invokevirtual 69, 3) := bdX2_clear_34.2.2.2.2.2.2.1
theorem dX2_clear_49 : decode cX2_clear 49 = .ok (.aload_n 0, 1) := bdX2_clear_34.2.2.2.2.2.2.2.1
theorem dX2_clear_50 : decode cX2_clear 50 = .ok (.getfield 40, 3) := bdX2_clear_34.2.2.2.2.2.2.2.2.1
theorem dX2_clear_53 : decode cX2_clear 53 = .ok (.invokevirtual 69, 3) := bdX2_clear_34.2.2.2.2.2.2.2.2.2
theorem bdX2_clear_56 : (decode cX2_clear 56 = .ok (.return_, 1)) := by decide +kernel
theorem dX2_clear_56 : decode cX2_clear 56 = .ok (.return_, 1) := bdX2_clear_56
theorem bdX2_addHouse_0 : (decode cX2_addHouse 0 = .ok (.aload_n 0, 1)) ∧ (decode cX2_addHouse 1 = .ok (.getfield 43, 3)) ∧ (decode cX2_addHouse 4 = .ok (.bipush 8, 2)) ∧ (decode cX2_addHouse 6 = .ok (.if_icmp .ge 43, 3)) ∧ (decode cX2_addHouse 9 = .ok (.aload_n 0, 1)) ∧ (decode cX2_addHouse 10 = .ok (.getfield 9, 3)) ∧ (decode cX2_addHouse 13 = .ok (.aload_n 0, 1)) ∧ (decode cX2_addHouse 14 = .ok (.getfield 43, 3)) ∧ (decode cX2_addHouse 17 = .ok (.iload_n 1, 1)) ∧ (decode cX2_addHouse 18 = .ok (.iastore, 1)) := by decide +kernel
theorem dX2_addHouse_0 : decode cX2_addHouse 0 = .ok (.aload_n 0, 1) := bdX2_addHouse_0.1
theorem dX2_addHouse_1 : decode cX2_addHouse 1 = .ok (.getfield 43, 3) := bdX2_addHouse_0.2.1
theorem dX2_addHouse_4 : decode cX2_addHouse 4 = .ok (.bipush 8, 2) := bdX2_addHouse_0.2.2.1
theorem dX2_addHouse_6 : decode cX2_addHouse 6 = .ok (.if_icmp .ge 43, 3) := bdX2_addHouse_0.2.2.2.1
theorem dX2_addHouse_9 : decode cX2_addHouse 9 = .ok (.aload_n 0, 1) := bdX2_addHouse_0.2.2.2.2.1
theorem dX2_addHouse_10 : decode cX2_addHouse 10 = .ok (.getfield 9, 3) := bdX2_addHouse_0.2.2.2.2.2.1
theorem dX2_addHouse_13 : decode cX2_addHouse 13 = .ok (.aload_n 0, 1) := bdX2_addHouse_0.2.2.2.2.2.2.1
theorem dX2_addHouse_14 : decode cX2_addHouse 14 = .ok (.getfield 43, 3) := bdX2_addHouse_0.2.2.2.2.2.2.2.1
theorem dX2_addHouse_17 : decode cX2_addHouse 17 = .ok (.iload_n 1, 1) := bdX2_addHouse_0.2.2.2.2.2.2.2.2.1
theorem dX2_addHouse_18 : decode cX2_addHouse 18 = .ok (.iastore, 1) := bdX2_addHouse_0.2.2.2.2.2.2.2.2.2
theorem bdX2_addHouse_19 : (decode cX2_addHouse 19 = .ok (.aload_n 0, 1)) ∧ (decode cX2_addHouse 20 = .ok (.getfield 15, 3)) ∧ (decode cX2_addHouse 23 = .ok (.aload_n 0, 1)) ∧ (decode cX2_addHouse 24 = .ok (.getfield 43, 3)) ∧ (decode cX2_addHouse 27 = .ok (.iload_n 2, 1)) ∧ (decode cX2_addHouse 28 = .ok (.iastore, 1)) ∧ (decode cX2_addHouse 29 = .ok (.aload_n 0, 1)) ∧ (decode cX2_addHouse 30 = .ok (.getfield 18, 3)) ∧ (decode cX2_addHouse 33 = .ok (.aload_n 0, 1)) ∧ (decode cX2_addHouse 34 = .ok (.getfield 43, 3)) := by decide +kernel
theorem dX2_addHouse_19 : decode cX2_addHouse 19 = .ok (.aload_n 0, 1) := bdX2_addHouse_19.1
theorem dX2_addHouse_20 : decode cX2_addHouse 20 = .ok (.getfield 15, 3) := bdX2_addHouse_19.2.1
theorem dX2_addHouse_23 : decode cX2_addHouse 23 = .ok (.aload_n 0, 1) := bdX2_addHouse_19.2.2.1
theorem dX2_addHouse_24 : decode cX2_addHouse 24 = .ok (.getfield 43, 3) := bdX2_addHouse_19.2.2.2.1
theorem dX2_addHouse_27 : decode cX2_addHouse 27 = .ok (.iload_n 2, 1) := bdX2_addHouse_19.2.2.2.2.1
theorem dX2_addHouse_28 : decode cX2_addHouse 28 = .ok (.iastore, 1) := bdX2_addHouse_19.2.2.2.2.2.1
theorem dX2_addHouse_29 : decode cX2_addHouse 29 = .ok (.aload_n 0, 1) := bdX2_addHouse_19.2.2.2.2.2.2.1
theorem dX2_addHouse_30 : decode cX2_addHouse 30 = .ok (.getfield 18, 3) := bdX2_addHouse_19.2.2.2.2.2.2.2.1
theorem dX2_addHouse_33 : decode cX2_addHouse 33 = .ok (.aload_n 0, 1) := bdX2_addHouse_19.2.2.2.2.2.2.2.2.1
theorem dX2_addHouse_34 : decode cX2_addHouse 34 = .ok (.getfield 43, 3) := bdX2_addHouse_19.2.2.2.2.2.2.2.2.2
theorem bdX2_addHouse_37 : (decode cX2_addHouse 37 = .ok (.iload_n 3, 1)) ∧ (decode cX2_addHouse 38 = .ok (.iastore, 1)) ∧ (decode cX2_addHouse 39 = .ok (.aload_n 0, 1)) ∧ (decode cX2_addHouse 40 = .ok (.dup, 1)) ∧ (decode cX2_addHouse 41 = .ok (.getfield 43, 3)) ∧ (decode cX2_addHouse 44 = .ok (.iconst 1, 1)) ∧ (decode cX2_addHouse 45 = .ok (.iadd, 1)) ∧ (decode cX2_addHouse 46 = .ok (.putfield 43, 3)) ∧ (decode cX2_addHouse 49 = .ok (.return_, 1)) := by decide +kernel
theorem dX2_addHouse_37 : decode cX2_addHouse 37 = .ok (.iload_n 3, 1) := bdX2_addHouse_37.1
theorem dX2_addHouse_38 : decode cX2_addHouse 38 = .ok (.iastore, 1) := bdX2_addHouse_37.2.1
theorem dX2_addHouse_39 : decode cX2_addHouse 39 = .ok (.aload_n 0, 1) := bdX2_addHouse_37.2.2.1
theorem dX2_addHouse_40 : decode cX2_addHouse 40 = .ok (.dup, 1) := bdX2_addHouse_37.2.2.2.1
theorem dX2_addHouse_41 : decode cX2_addHouse 41 = .ok (.getfield 43, 3) := bdX2_addHouse_37.2.2.2.2.1
theorem dX2_addHouse_44 : decode cX2_addHouse 44 = .ok (.iconst 1, 1) := bdX2_addHouse_37.2.2.2.2.2.1
theorem dX2_addHouse_45 : decode cX2_addHouse 45 = .ok (.iadd, 1) := bdX2_addHouse_37.2.2.2.2.2.2.1
theorem dX2_addHouse_46 : decode cX2_addHouse 46 = .ok (.putfield 43, 3) := bdX2_addHouse_37.2.2.2.2.2.2.2.1
theorem dX2_addHouse_49 : decode cX2_addHouse 49 = .ok (.return_, 1) := bdX2_addHouse_37.2.2.2.2.2.2.2.2
theorem bdX2_addPlot_0 : (decode cX2_addPlot 0 = .ok (.aload_n 0, 1)) ∧ (decode cX2_addPlot 1 = .ok (.getfield 47, 3)) ∧ (decode cX2_addPlot 4 = .ok (.bipush 9, 2)) ∧ (decode cX2_addPlot 6 = .ok (.if_icmp .ge 43, 3)) ∧ (decode cX2_addPlot 9 = .ok (.aload_n 0, 1)) ∧ (decode cX2_addPlot 10 = .ok (.getfield 21, 3)) ∧ (decode cX2_addPlot 13 = .ok (.aload_n 0, 1)) ∧ (decode cX2_addPlot 14 = .ok (.getfield 47, 3)) ∧ (decode cX2_addPlot 17 = .ok (.iload_n 1, 1)) ∧ (decode cX2_addPlot 18 = .ok (.iastore, 1)) := by decide +kernel
theorem dX2_addPlot_0 : decode cX2_addPlot 0 = .ok (.aload_n 0, 1) := bdX2_addPlot_0.1
theorem dX2_addPlot_1 : decode cX2_addPlot 1 = .ok (.getfield 47, 3) := bdX2_addPlot_0.2.1
theorem dX2_addPlot_4 : decode cX2_addPlot 4 = .ok (.bipush 9, 2) := bdX2_addPlot_0.2.2.1
theorem dX2_addPlot_6 : decode cX2_addPlot 6 = .ok (.if_icmp .ge 43, 3) := bdX2_addPlot_0.2.2.2.1
theorem dX2_addPlot_9 : decode cX2_addPlot 9 = .ok (.aload_n 0, 1) := bdX2_addPlot_0.2.2.2.2.1
theorem dX2_addPlot_10 : decode cX2_addPlot 10 = .ok (.getfield 21, 3) := bdX2_addPlot_0.2.2.2.2.2.1
theorem dX2_addPlot_13 : decode cX2_addPlot 13 = .ok (.aload_n 0, 1) := bdX2_addPlot_0.2.2.2.2.2.2.1
theorem dX2_addPlot_14 : decode cX2_addPlot 14 = .ok (.getfield 47, 3) := bdX2_addPlot_0.2.2.2.2.2.2.2.1
theorem dX2_addPlot_17 : decode cX2_addPlot 17 = .ok (.iload_n 1, 1) := bdX2_addPlot_0.2.2.2.2.2.2.2.2.1
theorem dX2_addPlot_18 : decode cX2_addPlot 18 = .ok (.iastore, 1) := bdX2_addPlot_0.2.2.2.2.2.2.2.2.2
theorem bdX2_addPlot_19 : (decode cX2_addPlot 19 = .ok (.aload_n 0, 1)) ∧ (decode cX2_addPlot 20 = .ok (.getfield 24, 3)) ∧ (decode cX2_addPlot 23 = .ok (.aload_n 0, 1)) ∧ (decode cX2_addPlot 24 = .ok (.getfield 47, 3)) ∧ (decode cX2_addPlot 27 = .ok (.iload_n 2, 1)) ∧ (decode cX2_addPlot 28 = .ok (.iastore, 1)) ∧ (decode cX2_addPlot 29 = .ok (.aload_n 0, 1)) ∧ (decode cX2_addPlot 30 = .ok (.getfield 27, 3)) ∧ (decode cX2_addPlot 33 = .ok (.aload_n 0, 1)) ∧ (decode cX2_addPlot 34 = .ok (.getfield 47, 3)) := by decide +kernel
theorem dX2_addPlot_19 : decode cX2_addPlot 19 = .ok (.aload_n 0, 1) := bdX2_addPlot_19.1
theorem dX2_addPlot_20 : decode cX2_addPlot 20 = .ok (.getfield 24, 3) := bdX2_addPlot_19.2.1
theorem dX2_addPlot_23 : decode cX2_addPlot 23 = .ok (.aload_n 0, 1) := bdX2_addPlot_19.2.2.1
theorem dX2_addPlot_24 : decode cX2_addPlot 24 = .ok (.getfield 47, 3) := bdX2_addPlot_19.2.2.2.1
theorem dX2_addPlot_27 : decode cX2_addPlot 27 = .ok (.iload_n 2, 1) := bdX2_addPlot_19.2.2.2.2.1
theorem dX2_addPlot_28 : decode cX2_addPlot 28 = .ok (.iastore, 1) := bdX2_addPlot_19.2.2.2.2.2.1
theorem dX2_addPlot_29 : decode cX2_addPlot 29 = .ok (.aload_n 0, 1) := bdX2_addPlot_19.2.2.2.2.2.2.1
theorem dX2_addPlot_30 : decode cX2_addPlot 30 = .ok (.getfield 27, 3) := bdX2_addPlot_19.2.2.2.2.2.2.2.1
theorem dX2_addPlot_33 : decode cX2_addPlot 33 = .ok (.aload_n 0, 1) := bdX2_addPlot_19.2.2.2.2.2.2.2.2.1
theorem dX2_addPlot_34 : decode cX2_addPlot 34 = .ok (.getfield 47, 3) := bdX2_addPlot_19.2.2.2.2.2.2.2.2.2
theorem bdX2_addPlot_37 : (decode cX2_addPlot 37 = .ok (.iload_n 3, 1)) ∧ (decode cX2_addPlot 38 = .ok (.iastore, 1)) ∧ (decode cX2_addPlot 39 = .ok (.aload_n 0, 1)) ∧ (decode cX2_addPlot 40 = .ok (.dup, 1)) ∧ (decode cX2_addPlot 41 = .ok (.getfield 47, 3)) ∧ (decode cX2_addPlot 44 = .ok (.iconst 1, 1)) ∧ (decode cX2_addPlot 45 = .ok (.iadd, 1)) ∧ (decode cX2_addPlot 46 = .ok (.putfield 47, 3)) ∧ (decode cX2_addPlot 49 = .ok (.return_, 1)) := by decide +kernel
theorem dX2_addPlot_37 : decode cX2_addPlot 37 = .ok (.iload_n 3, 1) := bdX2_addPlot_37.1
theorem dX2_addPlot_38 : decode cX2_addPlot 38 = .ok (.iastore, 1) := bdX2_addPlot_37.2.1
theorem dX2_addPlot_39 : decode cX2_addPlot 39 = .ok (.aload_n 0, 1) := bdX2_addPlot_37.2.2.1
theorem dX2_addPlot_40 : decode cX2_addPlot 40 = .ok (.dup, 1) := bdX2_addPlot_37.2.2.2.1
theorem dX2_addPlot_41 : decode cX2_addPlot 41 = .ok (.getfield 47, 3) := bdX2_addPlot_37.2.2.2.2.1
theorem dX2_addPlot_44 : decode cX2_addPlot 44 = .ok (.iconst 1, 1) := bdX2_addPlot_37.2.2.2.2.2.1
theorem dX2_addPlot_45 : decode cX2_addPlot 45 = .ok (.iadd, 1) := bdX2_addPlot_37.2.2.2.2.2.2.1
theorem dX2_addPlot_46 : decode cX2_addPlot 46 = .ok (.putfield 47, 3) := bdX2_addPlot_37.2.2.2.2.2.2.2.1
theorem dX2_addPlot_49 : decode cX2_addPlot 49 = .ok (.return_, 1) := bdX2_addPlot_37.2.2.2.2.2.2.2.2
theorem bdX2_addRain_0 : (decode cX2_addRain 0 = .ok (.aload_n 0, 1)) ∧ (decode cX2_addRain 1 = .ok (.getfield 50, 3)) ∧ (decode cX2_addRain 4 = .ok (.bipush 10, 2)) ∧ (decode cX2_addRain 6 = .ok (.if_icmp .ge 23, 3)) ∧ (decode cX2_addRain 9 = .ok (.aload_n 0, 1)) ∧ (decode cX2_addRain 10 = .ok (.getfield 30, 3)) ∧ (decode cX2_addRain 13 = .ok (.aload_n 0, 1)) ∧ (decode cX2_addRain 14 = .ok (.getfield 50, 3)) ∧ (decode cX2_addRain 17 = .ok (.iload_n 1, 1)) ∧ (decode cX2_addRain 18 = .ok (.iastore, 1)) := by decide +kernel
theorem dX2_addRain_0 : decode cX2_addRain 0 = .ok (.aload_n 0, 1) := bdX2_addRain_0.1
theorem dX2_addRain_1 : decode cX2_addRain 1 = .ok (.getfield 50, 3) := bdX2_addRain_0.2.1
theorem dX2_addRain_4 : decode cX2_addRain 4 = .ok (.bipush 10, 2) := bdX2_addRain_0.2.2.1
theorem dX2_addRain_6 : decode cX2_addRain 6 = .ok (.if_icmp .ge 23, 3) := bdX2_addRain_0.2.2.2.1
theorem dX2_addRain_9 : decode cX2_addRain 9 = .ok (.aload_n 0, 1) := bdX2_addRain_0.2.2.2.2.1
theorem dX2_addRain_10 : decode cX2_addRain 10 = .ok (.getfield 30, 3) := bdX2_addRain_0.2.2.2.2.2.1
theorem dX2_addRain_13 : decode cX2_addRain 13 = .ok (.aload_n 0, 1) := bdX2_addRain_0.2.2.2.2.2.2.1
theorem dX2_addRain_14 : decode cX2_addRain 14 = .ok (.getfield 50, 3) := bdX2_addRain_0.2.2.2.2.2.2.2.1
theorem dX2_addRain_17 : decode cX2_addRain 17 = .ok (.iload_n 1, 1) := bdX2_addRain_0.2.2.2.2.2.2.2.2.1
theorem dX2_addRain_18 : decode cX2_addRain 18 = .ok (.iastore, 1) := bdX2_addRain_0.2.2.2.2.2.2.2.2.2
theorem bdX2_addRain_19 : (decode cX2_addRain 19 = .ok (.aload_n 0, 1)) ∧ (decode cX2_addRain 20 = .ok (.dup, 1)) ∧ (decode cX2_addRain 21 = .ok (.getfield 50, 3)) ∧ (decode cX2_addRain 24 = .ok (.iconst 1, 1)) ∧ (decode cX2_addRain 25 = .ok (.iadd, 1)) ∧ (decode cX2_addRain 26 = .ok (.putfield 50, 3)) ∧ (decode cX2_addRain 29 = .ok (.return_, 1)) := by decide +kernel
theorem dX2_addRain_19 : decode cX2_addRain 19 = .ok (.aload_n 0, 1) := bdX2_addRain_19.1
theorem dX2_addRain_20 : decode cX2_addRain 20 = .ok (.dup, 1) := bdX2_addRain_19.2.1
theorem dX2_addRain_21 : decode cX2_addRain 21 = .ok (.getfield 50, 3) := bdX2_addRain_19.2.2.1
theorem dX2_addRain_24 : decode cX2_addRain 24 = .ok (.iconst 1, 1) := bdX2_addRain_19.2.2.2.1
theorem dX2_addRain_25 : decode cX2_addRain 25 = .ok (.iadd, 1) := bdX2_addRain_19.2.2.2.2.1
theorem dX2_addRain_26 : decode cX2_addRain 26 = .ok (.putfield 50, 3) := bdX2_addRain_19.2.2.2.2.2.1
theorem dX2_addRain_29 : decode cX2_addRain 29 = .ok (.return_, 1) := bdX2_addRain_19.2.2.2.2.2.2
theorem bdX2_hasHouse_0 : (decode cX2_hasHouse 0 = .ok (.iload_n 1, 1)) ∧ (decode cX2_hasHouse 1 = .ok (.ifCond .lt 21, 3)) ∧ (decode cX2_hasHouse 4 = .ok (.iload_n 1, 1)) ∧ (decode cX2_hasHouse 5 = .ok (.aload_n 0, 1)) ∧ (decode cX2_hasHouse 6 = .ok (.getfield 43, 3)) ∧ (decode cX2_hasHouse 9 = .ok (.if_icmp .ge 13, 3)) ∧ (decode cX2_hasHouse 12 = .ok (.iload_n 1, 1)) ∧ (decode cX2_hasHouse 13 = .ok (.bipush 8, 2)) ∧ (decode cX2_hasHouse 15 = .ok (.if_icmp .ge 7, 3)) ∧ (decode cX2_hasHouse 18 = .ok (.iconst 1, 1)) := by decide +kernel
theorem dX2_hasHouse_0 : decode cX2_hasHouse 0 = .ok (.iload_n 1, 1) := bdX2_hasHouse_0.1
theorem dX2_hasHouse_1 : decode cX2_hasHouse 1 = .ok (.ifCond .lt 21, 3) := bdX2_hasHouse_0.2.1
theorem dX2_hasHouse_4 : decode cX2_hasHouse 4 = .ok (.iload_n 1, 1) := bdX2_hasHouse_0.2.2.1
theorem dX2_hasHouse_5 : decode cX2_hasHouse 5 = .ok (.aload_n 0, 1) := bdX2_hasHouse_0.2.2.2.1
theorem dX2_hasHouse_6 : decode cX2_hasHouse 6 = .ok (.getfield 43, 3) := bdX2_hasHouse_0.2.2.2.2.1
theorem dX2_hasHouse_9 : decode cX2_hasHouse 9 = .ok (.if_icmp .ge 13, 3) := bdX2_hasHouse_0.2.2.2.2.2.1
theorem dX2_hasHouse_12 : decode cX2_hasHouse 12 = .ok (.iload_n 1, 1) := bdX2_hasHouse_0.2.2.2.2.2.2.1
theorem dX2_hasHouse_13 : decode cX2_hasHouse 13 = .ok (.bipush 8, 2) := bdX2_hasHouse_0.2.2.2.2.2.2.2.1
theorem dX2_hasHouse_15 : decode cX2_hasHouse 15 = .ok (.if_icmp .ge 7, 3) := bdX2_hasHouse_0.2.2.2.2.2.2.2.2.1
theorem dX2_hasHouse_18 : decode cX2_hasHouse 18 = .ok (.iconst 1, 1) := bdX2_hasHouse_0.2.2.2.2.2.2.2.2.2
theorem bdX2_hasHouse_19 : (decode cX2_hasHouse 19 = .ok (.goto 4, 3)) ∧ (decode cX2_hasHouse 22 = .ok (.iconst 0, 1)) ∧ (decode cX2_hasHouse 23 = .ok (.ireturn, 1)) := by decide +kernel
theorem dX2_hasHouse_19 : decode cX2_hasHouse 19 = .ok (.goto 4, 3) := bdX2_hasHouse_19.1
theorem dX2_hasHouse_22 : decode cX2_hasHouse 22 = .ok (.iconst 0, 1) := bdX2_hasHouse_19.2.1
theorem dX2_hasHouse_23 : decode cX2_hasHouse 23 = .ok (.ireturn, 1) := bdX2_hasHouse_19.2.2
theorem bdX2_hasPlot_0 : (decode cX2_hasPlot 0 = .ok (.iload_n 1, 1)) ∧ (decode cX2_hasPlot 1 = .ok (.ifCond .lt 21, 3)) ∧ (decode cX2_hasPlot 4 = .ok (.iload_n 1, 1)) ∧ (decode cX2_hasPlot 5 = .ok (.aload_n 0, 1)) ∧ (decode cX2_hasPlot 6 = .ok (.getfield 47, 3)) ∧ (decode cX2_hasPlot 9 = .ok (.if_icmp .ge 13, 3)) ∧ (decode cX2_hasPlot 12 = .ok (.iload_n 1, 1)) ∧ (decode cX2_hasPlot 13 = .ok (.bipush 9, 2)) ∧ (decode cX2_hasPlot 15 = .ok (.if_icmp .ge 7, 3)) ∧ (decode cX2_hasPlot 18 = .ok (.iconst 1, 1)) := by decide +kernel
theorem dX2_hasPlot_0 : decode cX2_hasPlot 0 = .ok (.iload_n 1, 1) := bdX2_hasPlot_0.1
theorem dX2_hasPlot_1 : decode cX2_hasPlot 1 = .ok (.ifCond .lt 21, 3) := bdX2_hasPlot_0.2.1
theorem dX2_hasPlot_4 : decode cX2_hasPlot 4 = .ok (.iload_n 1, 1) := bdX2_hasPlot_0.2.2.1
theorem dX2_hasPlot_5 : decode cX2_hasPlot 5 = .ok (.aload_n 0, 1) := bdX2_hasPlot_0.2.2.2.1
theorem dX2_hasPlot_6 : decode cX2_hasPlot 6 = .ok (.getfield 47, 3) := bdX2_hasPlot_0.2.2.2.2.1
theorem dX2_hasPlot_9 : decode cX2_hasPlot 9 = .ok (.if_icmp .ge 13, 3) := bdX2_hasPlot_0.2.2.2.2.2.1
theorem dX2_hasPlot_12 : decode cX2_hasPlot 12 = .ok (.iload_n 1, 1) := bdX2_hasPlot_0.2.2.2.2.2.2.1
theorem dX2_hasPlot_13 : decode cX2_hasPlot 13 = .ok (.bipush 9, 2) := bdX2_hasPlot_0.2.2.2.2.2.2.2.1
theorem dX2_hasPlot_15 : decode cX2_hasPlot 15 = .ok (.if_icmp .ge 7, 3) := bdX2_hasPlot_0.2.2.2.2.2.2.2.2.1
theorem dX2_hasPlot_18 : decode cX2_hasPlot 18 = .ok (.iconst 1, 1) := bdX2_hasPlot_0.2.2.2.2.2.2.2.2.2
theorem bdX2_hasPlot_19 : (decode cX2_hasPlot 19 = .ok (.goto 4, 3)) ∧ (decode cX2_hasPlot 22 = .ok (.iconst 0, 1)) ∧ (decode cX2_hasPlot 23 = .ok (.ireturn, 1)) := by decide +kernel
theorem dX2_hasPlot_19 : decode cX2_hasPlot 19 = .ok (.goto 4, 3) := bdX2_hasPlot_19.1
theorem dX2_hasPlot_22 : decode cX2_hasPlot 22 = .ok (.iconst 0, 1) := bdX2_hasPlot_19.2.1
theorem dX2_hasPlot_23 : decode cX2_hasPlot 23 = .ok (.ireturn, 1) := bdX2_hasPlot_19.2.2
theorem bdX2_hasPlotAt_0 : (decode cX2_hasPlotAt 0 = .ok (.iconst 0, 1)) ∧ (decode cX2_hasPlotAt 1 = .ok (.istore_n 3, 1)) ∧ (decode cX2_hasPlotAt 2 = .ok (.iload_n 3, 1)) ∧ (decode cX2_hasPlotAt 3 = .ok (.aload_n 0, 1)) ∧ (decode cX2_hasPlotAt 4 = .ok (.getfield 47, 3)) ∧ (decode cX2_hasPlotAt 7 = .ok (.if_icmp .ge 31, 3)) ∧ (decode cX2_hasPlotAt 10 = .ok (.aload_n 0, 1)) ∧ (decode cX2_hasPlotAt 11 = .ok (.getfield 21, 3)) ∧ (decode cX2_hasPlotAt 14 = .ok (.iload_n 3, 1)) ∧ (decode cX2_hasPlotAt 15 = .ok (.iaload, 1)) := by decide +kernel
theorem dX2_hasPlotAt_0 : decode cX2_hasPlotAt 0 = .ok (.iconst 0, 1) := bdX2_hasPlotAt_0.1
theorem dX2_hasPlotAt_1 : decode cX2_hasPlotAt 1 = .ok (.istore_n 3, 1) := bdX2_hasPlotAt_0.2.1
theorem dX2_hasPlotAt_2 : decode cX2_hasPlotAt 2 = .ok (.iload_n 3, 1) := bdX2_hasPlotAt_0.2.2.1
theorem dX2_hasPlotAt_3 : decode cX2_hasPlotAt 3 = .ok (.aload_n 0, 1) := bdX2_hasPlotAt_0.2.2.2.1
theorem dX2_hasPlotAt_4 : decode cX2_hasPlotAt 4 = .ok (.getfield 47, 3) := bdX2_hasPlotAt_0.2.2.2.2.1
theorem dX2_hasPlotAt_7 : decode cX2_hasPlotAt 7 = .ok (.if_icmp .ge 31, 3) := bdX2_hasPlotAt_0.2.2.2.2.2.1
theorem dX2_hasPlotAt_10 : decode cX2_hasPlotAt 10 = .ok (.aload_n 0, 1) := bdX2_hasPlotAt_0.2.2.2.2.2.2.1
theorem dX2_hasPlotAt_11 : decode cX2_hasPlotAt 11 = .ok (.getfield 21, 3) := bdX2_hasPlotAt_0.2.2.2.2.2.2.2.1
theorem dX2_hasPlotAt_14 : decode cX2_hasPlotAt 14 = .ok (.iload_n 3, 1) := bdX2_hasPlotAt_0.2.2.2.2.2.2.2.2.1
theorem dX2_hasPlotAt_15 : decode cX2_hasPlotAt 15 = .ok (.iaload, 1) := bdX2_hasPlotAt_0.2.2.2.2.2.2.2.2.2
theorem bdX2_hasPlotAt_16 : (decode cX2_hasPlotAt 16 = .ok (.iload_n 1, 1)) ∧ (decode cX2_hasPlotAt 17 = .ok (.if_icmp .ne 15, 3)) ∧ (decode cX2_hasPlotAt 20 = .ok (.aload_n 0, 1)) ∧ (decode cX2_hasPlotAt 21 = .ok (.getfield 24, 3)) ∧ (decode cX2_hasPlotAt 24 = .ok (.iload_n 3, 1)) ∧ (decode cX2_hasPlotAt 25 = .ok (.iaload, 1)) ∧ (decode cX2_hasPlotAt 26 = .ok (.iload_n 2, 1)) ∧ (decode cX2_hasPlotAt 27 = .ok (.if_icmp .ne 5, 3)) ∧ (decode cX2_hasPlotAt 30 = .ok (.iconst 1, 1)) ∧ (decode cX2_hasPlotAt 31 = .ok (.ireturn, 1)) := by decide +kernel
theorem dX2_hasPlotAt_16 : decode cX2_hasPlotAt 16 = .ok (.iload_n 1, 1) := bdX2_hasPlotAt_16.1
theorem dX2_hasPlotAt_17 : decode cX2_hasPlotAt 17 = .ok (.if_icmp .ne 15, 3) := bdX2_hasPlotAt_16.2.1
theorem dX2_hasPlotAt_20 : decode cX2_hasPlotAt 20 = .ok (.aload_n 0, 1) := bdX2_hasPlotAt_16.2.2.1
theorem dX2_hasPlotAt_21 : decode cX2_hasPlotAt 21 = .ok (.getfield 24, 3) := bdX2_hasPlotAt_16.2.2.2.1
theorem dX2_hasPlotAt_24 : decode cX2_hasPlotAt 24 = .ok (.iload_n 3, 1) := bdX2_hasPlotAt_16.2.2.2.2.1
theorem dX2_hasPlotAt_25 : decode cX2_hasPlotAt 25 = .ok (.iaload, 1) := bdX2_hasPlotAt_16.2.2.2.2.2.1
theorem dX2_hasPlotAt_26 : decode cX2_hasPlotAt 26 = .ok (.iload_n 2, 1) := bdX2_hasPlotAt_16.2.2.2.2.2.2.1
theorem dX2_hasPlotAt_27 : decode cX2_hasPlotAt 27 = .ok (.if_icmp .ne 5, 3) := bdX2_hasPlotAt_16.2.2.2.2.2.2.2.1
theorem dX2_hasPlotAt_30 : decode cX2_hasPlotAt 30 = .ok (.iconst 1, 1) := bdX2_hasPlotAt_16.2.2.2.2.2.2.2.2.1
theorem dX2_hasPlotAt_31 : decode cX2_hasPlotAt 31 = .ok (.ireturn, 1) := bdX2_hasPlotAt_16.2.2.2.2.2.2.2.2.2
theorem bdX2_hasPlotAt_32 : (decode cX2_hasPlotAt 32 = .ok (.iinc 3 1, 3)) ∧ (decode cX2_hasPlotAt 35 = .ok (.goto (-33), 3)) ∧ (decode cX2_hasPlotAt 38 = .ok (.iconst 0, 1)) ∧ (decode cX2_hasPlotAt 39 = .ok (.ireturn, 1)) := by decide +kernel
theorem dX2_hasPlotAt_32 : decode cX2_hasPlotAt 32 = .ok (.iinc 3 1, 3) := bdX2_hasPlotAt_32.1
theorem dX2_hasPlotAt_35 : decode cX2_hasPlotAt 35 = .ok (.goto (-33), 3) := bdX2_hasPlotAt_32.2.1
theorem dX2_hasPlotAt_38 : decode cX2_hasPlotAt 38 = .ok (.iconst 0, 1) := bdX2_hasPlotAt_32.2.2.1
theorem dX2_hasPlotAt_39 : decode cX2_hasPlotAt 39 = .ok (.ireturn, 1) := bdX2_hasPlotAt_32.2.2.2
theorem bdX2_rainIn_0 : (decode cX2_rainIn 0 = .ok (.aload_n 0, 1)) ∧ (decode cX2_rainIn 1 = .ok (.getfield 50, 3)) ∧ (decode cX2_rainIn 4 = .ok (.ifCond .le 12, 3)) ∧ (decode cX2_rainIn 7 = .ok (.aload_n 0, 1)) ∧ (decode cX2_rainIn 8 = .ok (.getfield 50, 3)) ∧ (decode cX2_rainIn 11 = .ok (.bipush 10, 2)) ∧ (decode cX2_rainIn 13 = .ok (.if_icmp .le 5, 3)) ∧ (decode cX2_rainIn 16 = .ok (.iconst 3, 1)) ∧ (decode cX2_rainIn 17 = .ok (.ireturn, 1)) ∧ (decode cX2_rainIn 18 = .ok (.aload_n 0, 1)) := by decide +kernel
theorem dX2_rainIn_0 : decode cX2_rainIn 0 = .ok (.aload_n 0, 1) := bdX2_rainIn_0.1
theorem dX2_rainIn_1 : decode cX2_rainIn 1 = .ok (.getfield 50, 3) := bdX2_rainIn_0.2.1
theorem dX2_rainIn_4 : decode cX2_rainIn 4 = .ok (.ifCond .le 12, 3) := bdX2_rainIn_0.2.2.1
theorem dX2_rainIn_7 : decode cX2_rainIn 7 = .ok (.aload_n 0, 1) := bdX2_rainIn_0.2.2.2.1
theorem dX2_rainIn_8 : decode cX2_rainIn 8 = .ok (.getfield 50, 3) := bdX2_rainIn_0.2.2.2.2.1
theorem dX2_rainIn_11 : decode cX2_rainIn 11 = .ok (.bipush 10, 2) := bdX2_rainIn_0.2.2.2.2.2.1
theorem dX2_rainIn_13 : decode cX2_rainIn 13 = .ok (.if_icmp .le 5, 3) := bdX2_rainIn_0.2.2.2.2.2.2.1
theorem dX2_rainIn_16 : decode cX2_rainIn 16 = .ok (.iconst 3, 1) := bdX2_rainIn_0.2.2.2.2.2.2.2.1
theorem dX2_rainIn_17 : decode cX2_rainIn 17 = .ok (.ireturn, 1) := bdX2_rainIn_0.2.2.2.2.2.2.2.2.1
theorem dX2_rainIn_18 : decode cX2_rainIn 18 = .ok (.aload_n 0, 1) := bdX2_rainIn_0.2.2.2.2.2.2.2.2.2
theorem bdX2_rainIn_19 : (decode cX2_rainIn 19 = .ok (.getfield 30, 3)) ∧ (decode cX2_rainIn 22 = .ok (.iload_n 1, 1)) ∧ (decode cX2_rainIn 23 = .ok (.aload_n 0, 1)) ∧ (decode cX2_rainIn 24 = .ok (.getfield 50, 3)) ∧ (decode cX2_rainIn 27 = .ok (.invokestatic 72, 3)) ∧ (decode cX2_rainIn 30 = .ok (.iaload, 1)) ∧ (decode cX2_rainIn 31 = .ok (.ireturn, 1)) := by decide +kernel
theorem dX2_rainIn_19 : decode cX2_rainIn 19 = .ok (.getfield 30, 3) := bdX2_rainIn_19.1
theorem dX2_rainIn_22 : decode cX2_rainIn 22 = .ok (.iload_n 1, 1) := bdX2_rainIn_19.2.1
theorem dX2_rainIn_23 : decode cX2_rainIn 23 = .ok (.aload_n 0, 1) := bdX2_rainIn_19.2.2.1
theorem dX2_rainIn_24 : decode cX2_rainIn 24 = .ok (.getfield 50, 3) := bdX2_rainIn_19.2.2.2.1
theorem dX2_rainIn_27 : decode cX2_rainIn 27 = .ok (.invokestatic 72, 3) := bdX2_rainIn_19.2.2.2.2.1
theorem dX2_rainIn_30 : decode cX2_rainIn 30 = .ok (.iaload, 1) := bdX2_rainIn_19.2.2.2.2.2.1
theorem dX2_rainIn_31 : decode cX2_rainIn 31 = .ok (.ireturn, 1) := bdX2_rainIn_19.2.2.2.2.2.2
theorem bdX3_init_0 : (decode cX3_init 0 = .ok (.aload_n 0, 1)) ∧ (decode cX3_init 1 = .ok (.invokespecial 3, 3)) ∧ (decode cX3_init 4 = .ok (.aload_n 0, 1)) ∧ (decode cX3_init 5 = .ok (.bipush 7, 2)) ∧ (decode cX3_init 7 = .ok (.newarray .int, 2)) ∧ (decode cX3_init 9 = .ok (.putfield 11, 3)) ∧ (decode cX3_init 12 = .ok (.aload_n 0, 1)) ∧ (decode cX3_init 13 = .ok (.new 15, 3)) ∧ (decode cX3_init 16 = .ok (.dup, 1)) ∧ (decode cX3_init 17 = .ok (.invokespecial 17, 3)) := by decide +kernel
theorem dX3_init_0 : decode cX3_init 0 = .ok (.aload_n 0, 1) := bdX3_init_0.1
theorem dX3_init_1 : decode cX3_init 1 = .ok (.invokespecial 3, 3) := bdX3_init_0.2.1
theorem dX3_init_4 : decode cX3_init 4 = .ok (.aload_n 0, 1) := bdX3_init_0.2.2.1
theorem dX3_init_5 : decode cX3_init 5 = .ok (.bipush 7, 2) := bdX3_init_0.2.2.2.1
theorem dX3_init_7 : decode cX3_init 7 = .ok (.newarray .int, 2) := bdX3_init_0.2.2.2.2.1
theorem dX3_init_9 : decode cX3_init 9 = .ok (.putfield 11, 3) := bdX3_init_0.2.2.2.2.2.1
theorem dX3_init_12 : decode cX3_init 12 = .ok (.aload_n 0, 1) := bdX3_init_0.2.2.2.2.2.2.1
theorem dX3_init_13 : decode cX3_init 13 = .ok (.new 15, 3) := bdX3_init_0.2.2.2.2.2.2.2.1
theorem dX3_init_16 : decode cX3_init 16 = .ok (.dup, 1) := bdX3_init_0.2.2.2.2.2.2.2.2.1
theorem dX3_init_17 : decode cX3_init 17 = .ok (.invokespecial 17, 3) := bdX3_init_0.2.2.2.2.2.2.2.2.2
theorem bdX3_init_20 : (decode cX3_init 20 = .ok (.putfield 18, 3)) ∧ (decode cX3_init 23 = .ok (.return_, 1)) := by decide +kernel
theorem dX3_init_20 : decode cX3_init 20 = .ok (.putfield 18, 3) := bdX3_init_20.1
theorem dX3_init_23 : decode cX3_init 23 = .ok (.return_, 1) := bdX3_init_20.2
theorem bdX3_strengthOf_0 : (decode cX3_strengthOf 0 = .ok (.aload_n 0, 1)) ∧ (decode cX3_strengthOf 1 = .ok (.getfield 18, 3)) ∧ (decode cX3_strengthOf 4 = .ok (.iload_n 2, 1)) ∧ (decode cX3_strengthOf 5 = .ok (.invokevirtual 22, 3)) ∧ (decode cX3_strengthOf 8 = .ok (.ifCond .ne 5, 3)) ∧ (decode cX3_strengthOf 11 = .ok (.iconst 0, 1)) ∧ (decode cX3_strengthOf 12 = .ok (.ireturn, 1)) ∧ (decode cX3_strengthOf 13 = .ok (.aload_n 1, 1)) ∧ (decode cX3_strengthOf 14 = .ok (.iload_n 2, 1)) ∧ (decode cX3_strengthOf 15 = .ok (.invokevirtual 26, 3)) := by decide +kernel
theorem dX3_strengthOf_0 : decode cX3_strengthOf 0 = .ok (.aload_n 0, 1) := bdX3_strengthOf_0.1
theorem dX3_strengthOf_1 : decode cX3_strengthOf 1 = .ok (.getfield 18, 3) := bdX3_strengthOf_0.2.1
theorem dX3_strengthOf_4 : decode cX3_strengthOf 4 = .ok (.iload_n 2, 1) := bdX3_strengthOf_0.2.2.1
theorem dX3_strengthOf_5 : decode cX3_strengthOf 5 = .ok (.invokevirtual 22, 3) := bdX3_strengthOf_0.2.2.2.1
theorem dX3_strengthOf_8 : decode cX3_strengthOf 8 = .ok (.ifCond .ne 5, 3) := bdX3_strengthOf_0.2.2.2.2.1
theorem dX3_strengthOf_11 : decode cX3_strengthOf 11 = .ok (.iconst 0, 1) := bdX3_strengthOf_0.2.2.2.2.2.1
theorem dX3_strengthOf_12 : decode cX3_strengthOf 12 = .ok (.ireturn, 1) := bdX3_strengthOf_0.2.2.2.2.2.2.1
theorem dX3_strengthOf_13 : decode cX3_strengthOf 13 = .ok (.aload_n 1, 1) := bdX3_strengthOf_0.2.2.2.2.2.2.2.1
theorem dX3_strengthOf_14 : decode cX3_strengthOf 14 = .ok (.iload_n 2, 1) := bdX3_strengthOf_0.2.2.2.2.2.2.2.2.1
theorem dX3_strengthOf_15 : decode cX3_strengthOf 15 = .ok (.invokevirtual 26, 3) := bdX3_strengthOf_0.2.2.2.2.2.2.2.2.2
theorem bdX3_strengthOf_18 : (decode cX3_strengthOf 18 = .ok (.ifCond .ne 15, 3)) ∧ (decode cX3_strengthOf 21 = .ok (.aload_n 0, 1)) ∧ (decode cX3_strengthOf 22 = .ok (.getfield 18, 3)) ∧ (decode cX3_strengthOf 25 = .ok (.getfield 32, 3)) ∧ (decode cX3_strengthOf 28 = .ok (.iload_n 2, 1)) ∧ (decode cX3_strengthOf 29 = .ok (.iaload, 1)) ∧ (decode cX3_strengthOf 30 = .ok (.goto 12, 3)) ∧ (decode cX3_strengthOf 33 = .ok (.aload_n 0, 1)) ∧ (decode cX3_strengthOf 34 = .ok (.getfield 18, 3)) ∧ (decode cX3_strengthOf 37 = .ok (.getfield 35, 3)) := by decide +kernel
theorem dX3_strengthOf_18 : decode cX3_strengthOf 18 = .ok (.ifCond .ne 15, 3) := bdX3_strengthOf_18.1
theorem dX3_strengthOf_21 : decode cX3_strengthOf 21 = .ok (.aload_n 0, 1) := bdX3_strengthOf_18.2.1
theorem dX3_strengthOf_22 : decode cX3_strengthOf 22 = .ok (.getfield 18, 3) := bdX3_strengthOf_18.2.2.1
theorem dX3_strengthOf_25 : decode cX3_strengthOf 25 = .ok (.getfield 32, 3) := bdX3_strengthOf_18.2.2.2.1
theorem dX3_strengthOf_28 : decode cX3_strengthOf 28 = .ok (.iload_n 2, 1) := bdX3_strengthOf_18.2.2.2.2.1
theorem dX3_strengthOf_29 : decode cX3_strengthOf 29 = .ok (.iaload, 1) := bdX3_strengthOf_18.2.2.2.2.2.1
theorem dX3_strengthOf_30 : decode cX3_strengthOf 30 = .ok (.goto 12, 3) := bdX3_strengthOf_18.2.2.2.2.2.2.1
theorem dX3_strengthOf_33 : decode cX3_strengthOf 33 = .ok (.aload_n 0, 1) := bdX3_strengthOf_18.2.2.2.2.2.2.2.1
theorem dX3_strengthOf_34 : decode cX3_strengthOf 34 = .ok (.getfield 18, 3) := bdX3_strengthOf_18.2.2.2.2.2.2.2.2.1
theorem dX3_strengthOf_37 : decode cX3_strengthOf 37 = .ok (.getfield 35, 3) := bdX3_strengthOf_18.2.2.2.2.2.2.2.2.2
theorem bdX3_strengthOf_40 : (decode cX3_strengthOf 40 = .ok (.iload_n 2, 1)) ∧ (decode cX3_strengthOf 41 = .ok (.iaload, 1)) ∧ (decode cX3_strengthOf 42 = .ok (.ireturn, 1)) := by decide +kernel
theorem dX3_strengthOf_40 : decode cX3_strengthOf 40 = .ok (.iload_n 2, 1) := bdX3_strengthOf_40.1
theorem dX3_strengthOf_41 : decode cX3_strengthOf 41 = .ok (.iaload, 1) := bdX3_strengthOf_40.2.1
theorem dX3_strengthOf_42 : decode cX3_strengthOf 42 = .ok (.ireturn, 1) := bdX3_strengthOf_40.2.2
theorem bdX3_allStrength_0 : (decode cX3_allStrength 0 = .ok (.iconst 0, 1)) ∧ (decode cX3_allStrength 1 = .ok (.istore_n 2, 1)) ∧ (decode cX3_allStrength 2 = .ok (.iconst 0, 1)) ∧ (decode cX3_allStrength 3 = .ok (.istore_n 3, 1)) ∧ (decode cX3_allStrength 4 = .ok (.iload_n 3, 1)) ∧ (decode cX3_allStrength 5 = .ok (.aload_n 0, 1)) ∧ (decode cX3_allStrength 6 = .ok (.getfield 18, 3)) ∧ (decode cX3_allStrength 9 = .ok (.getfield 38, 3)) ∧ (decode cX3_allStrength 12 = .ok (.if_icmp .ge 18, 3)) ∧ (decode cX3_allStrength 15 = .ok (.iload_n 2, 1)) := by decide +kernel
theorem dX3_allStrength_0 : decode cX3_allStrength 0 = .ok (.iconst 0, 1) := bdX3_allStrength_0.1
theorem dX3_allStrength_1 : decode cX3_allStrength 1 = .ok (.istore_n 2, 1) := bdX3_allStrength_0.2.1
theorem dX3_allStrength_2 : decode cX3_allStrength 2 = .ok (.iconst 0, 1) := bdX3_allStrength_0.2.2.1
theorem dX3_allStrength_3 : decode cX3_allStrength 3 = .ok (.istore_n 3, 1) := bdX3_allStrength_0.2.2.2.1
theorem dX3_allStrength_4 : decode cX3_allStrength 4 = .ok (.iload_n 3, 1) := bdX3_allStrength_0.2.2.2.2.1
theorem dX3_allStrength_5 : decode cX3_allStrength 5 = .ok (.aload_n 0, 1) := bdX3_allStrength_0.2.2.2.2.2.1
theorem dX3_allStrength_6 : decode cX3_allStrength 6 = .ok (.getfield 18, 3) := bdX3_allStrength_0.2.2.2.2.2.2.1
theorem dX3_allStrength_9 : decode cX3_allStrength 9 = .ok (.getfield 38, 3) := bdX3_allStrength_0.2.2.2.2.2.2.2.1
theorem dX3_allStrength_12 : decode cX3_allStrength 12 = .ok (.if_icmp .ge 18, 3) := bdX3_allStrength_0.2.2.2.2.2.2.2.2.1
theorem dX3_allStrength_15 : decode cX3_allStrength 15 = .ok (.iload_n 2, 1) := bdX3_allStrength_0.2.2.2.2.2.2.2.2.2
theorem bdX3_allStrength_16 : (decode cX3_allStrength 16 = .ok (.aload_n 0, 1)) ∧ (decode cX3_allStrength 17 = .ok (.aload_n 1, 1)) ∧ (decode cX3_allStrength 18 = .ok (.iload_n 3, 1)) ∧ (decode cX3_allStrength 19 = .ok (.invokevirtual 42, 3)) ∧ (decode cX3_allStrength 22 = .ok (.iadd, 1)) ∧ (decode cX3_allStrength 23 = .ok (.istore_n 2, 1)) ∧ (decode cX3_allStrength 24 = .ok (.iinc 3 1, 3)) ∧ (decode cX3_allStrength 27 = .ok (.goto (-23), 3)) ∧ (decode cX3_allStrength 30 = .ok (.iload_n 2, 1)) ∧ (decode cX3_allStrength 31 = .ok (.ireturn, 1)) := by decide +kernel
theorem dX3_allStrength_16 : decode cX3_allStrength 16 = .ok (.aload_n 0, 1) := bdX3_allStrength_16.1
theorem dX3_allStrength_17 : decode cX3_allStrength 17 = .ok (.aload_n 1, 1) := bdX3_allStrength_16.2.1
theorem dX3_allStrength_18 : decode cX3_allStrength 18 = .ok (.iload_n 3, 1) := bdX3_allStrength_16.2.2.1
theorem dX3_allStrength_19 : decode cX3_allStrength 19 = .ok (.invokevirtual 42, 3) := bdX3_allStrength_16.2.2.2.1
theorem dX3_allStrength_22 : decode cX3_allStrength 22 = .ok (.iadd, 1) := bdX3_allStrength_16.2.2.2.2.1
theorem dX3_allStrength_23 : decode cX3_allStrength 23 = .ok (.istore_n 2, 1) := bdX3_allStrength_16.2.2.2.2.2.1
theorem dX3_allStrength_24 : decode cX3_allStrength 24 = .ok (.iinc 3 1, 3) := bdX3_allStrength_16.2.2.2.2.2.2.1
theorem dX3_allStrength_27 : decode cX3_allStrength 27 = .ok (.goto (-23), 3) := bdX3_allStrength_16.2.2.2.2.2.2.2.1
theorem dX3_allStrength_30 : decode cX3_allStrength 30 = .ok (.iload_n 2, 1) := bdX3_allStrength_16.2.2.2.2.2.2.2.2.1
theorem dX3_allStrength_31 : decode cX3_allStrength 31 = .ok (.ireturn, 1) := bdX3_allStrength_16.2.2.2.2.2.2.2.2.2
theorem bdX3_walkToMarket_0 : (decode cX3_walkToMarket 0 = .ok (.aload_n 0, 1)) ∧ (decode cX3_walkToMarket 1 = .ok (.getfield 18, 3)) ∧ (decode cX3_walkToMarket 4 = .ok (.iload_n 2, 1)) ∧ (decode cX3_walkToMarket 5 = .ok (.invokevirtual 46, 3)) ∧ (decode cX3_walkToMarket 8 = .ok (.ifCond .ne 5, 3)) ∧ (decode cX3_walkToMarket 11 = .ok (.iconst 0, 1)) ∧ (decode cX3_walkToMarket 12 = .ok (.ireturn, 1)) ∧ (decode cX3_walkToMarket 13 = .ok (.aload_n 0, 1)) ∧ (decode cX3_walkToMarket 14 = .ok (.getfield 18, 3)) ∧ (decode cX3_walkToMarket 17 = .ok (.getfield 49, 3)) := by decide +kernel
theorem dX3_walkToMarket_0 : decode cX3_walkToMarket 0 = .ok (.aload_n 0, 1) := bdX3_walkToMarket_0.1
theorem dX3_walkToMarket_1 : decode cX3_walkToMarket 1 = .ok (.getfield 18, 3) := bdX3_walkToMarket_0.2.1
theorem dX3_walkToMarket_4 : decode cX3_walkToMarket 4 = .ok (.iload_n 2, 1) := bdX3_walkToMarket_0.2.2.1
theorem dX3_walkToMarket_5 : decode cX3_walkToMarket 5 = .ok (.invokevirtual 46, 3) := bdX3_walkToMarket_0.2.2.2.1
theorem dX3_walkToMarket_8 : decode cX3_walkToMarket 8 = .ok (.ifCond .ne 5, 3) := bdX3_walkToMarket_0.2.2.2.2.1
theorem dX3_walkToMarket_11 : decode cX3_walkToMarket 11 = .ok (.iconst 0, 1) := bdX3_walkToMarket_0.2.2.2.2.2.1
theorem dX3_walkToMarket_12 : decode cX3_walkToMarket 12 = .ok (.ireturn, 1) := bdX3_walkToMarket_0.2.2.2.2.2.2.1
theorem dX3_walkToMarket_13 : decode cX3_walkToMarket 13 = .ok (.aload_n 0, 1) := bdX3_walkToMarket_0.2.2.2.2.2.2.2.1
theorem dX3_walkToMarket_14 : decode cX3_walkToMarket 14 = .ok (.getfield 18, 3) := bdX3_walkToMarket_0.2.2.2.2.2.2.2.2.1
theorem dX3_walkToMarket_17 : decode cX3_walkToMarket 17 = .ok (.getfield 49, 3) := bdX3_walkToMarket_0.2.2.2.2.2.2.2.2.2
theorem bdX3_walkToMarket_20 : (decode cX3_walkToMarket 20 = .ok (.iload_n 2, 1)) ∧ (decode cX3_walkToMarket 21 = .ok (.iaload, 1)) ∧ (decode cX3_walkToMarket 22 = .ok (.aload_n 0, 1)) ∧ (decode cX3_walkToMarket 23 = .ok (.getfield 18, 3)) ∧ (decode cX3_walkToMarket 26 = .ok (.getfield 52, 3)) ∧ (decode cX3_walkToMarket 29 = .ok (.iload_n 2, 1)) ∧ (decode cX3_walkToMarket 30 = .ok (.iaload, 1)) ∧ (decode cX3_walkToMarket 31 = .ok (.aload_n 1, 1)) ∧ (decode cX3_walkToMarket 32 = .ok (.getfield 55, 3)) ∧ (decode cX3_walkToMarket 35 = .ok (.aload_n 1, 1)) := by decide +kernel
theorem dX3_walkToMarket_20 : decode cX3_walkToMarket 20 = .ok (.iload_n 2, 1) := bdX3_walkToMarket_20.1
theorem dX3_walkToMarket_21 : decode cX3_walkToMarket 21 = .ok (.iaload, 1) := bdX3_walkToMarket_20.2.1
theorem dX3_walkToMarket_22 : decode cX3_walkToMarket 22 = .ok (.aload_n 0, 1) := bdX3_walkToMarket_20.2.2.1
theorem dX3_walkToMarket_23 : decode cX3_walkToMarket 23 = .ok (.getfield 18, 3) := bdX3_walkToMarket_20.2.2.2.1
theorem dX3_walkToMarket_26 : decode cX3_walkToMarket 26 = .ok (.getfield 52, 3) := bdX3_walkToMarket_20.2.2.2.2.1
theorem dX3_walkToMarket_29 : decode cX3_walkToMarket 29 = .ok (.iload_n 2, 1) := bdX3_walkToMarket_20.2.2.2.2.2.1
theorem dX3_walkToMarket_30 : decode cX3_walkToMarket 30 = .ok (.iaload, 1) := bdX3_walkToMarket_20.2.2.2.2.2.2.1
theorem dX3_walkToMarket_31 : decode cX3_walkToMarket 31 = .ok (.aload_n 1, 1) := bdX3_walkToMarket_20.2.2.2.2.2.2.2.1
theorem dX3_walkToMarket_32 : decode cX3_walkToMarket 32 = .ok (.getfield 55, 3) := bdX3_walkToMarket_20.2.2.2.2.2.2.2.2.1
theorem dX3_walkToMarket_35 : decode cX3_walkToMarket 35 = .ok (.aload_n 1, 1) := bdX3_walkToMarket_20.2.2.2.2.2.2.2.2.2
theorem bdX3_walkToMarket_36 : (decode cX3_walkToMarket 36 = .ok (.getfield 58, 3)) ∧ (decode cX3_walkToMarket 39 = .ok (.invokestatic 61, 3)) ∧ (decode cX3_walkToMarket 42 = .ok (.ireturn, 1)) := by decide +kernel
theorem dX3_walkToMarket_36 : decode cX3_walkToMarket 36 = .ok (.getfield 58, 3) := bdX3_walkToMarket_36.1
theorem dX3_walkToMarket_39 : decode cX3_walkToMarket 39 = .ok (.invokestatic 61, 3) := bdX3_walkToMarket_36.2.1
theorem dX3_walkToMarket_42 : decode cX3_walkToMarket 42 = .ok (.ireturn, 1) := bdX3_walkToMarket_36.2.2
theorem bdX3_walksToShares_0 : (decode cX3_walksToShares 0 = .ok (.iconst 0, 1)) ∧ (decode cX3_walksToShares 1 = .ok (.istore 4, 2)) ∧ (decode cX3_walksToShares 3 = .ok (.iconst 0, 1)) ∧ (decode cX3_walksToShares 4 = .ok (.istore 5, 2)) ∧ (decode cX3_walksToShares 6 = .ok (.iload 5, 2)) ∧ (decode cX3_walksToShares 8 = .ok (.aload_n 0, 1)) ∧ (decode cX3_walksToShares 9 = .ok (.getfield 18, 3)) ∧ (decode cX3_walksToShares 12 = .ok (.getfield 38, 3)) ∧ (decode cX3_walksToShares 15 = .ok (.if_icmp .ge 60, 3)) ∧ (decode cX3_walksToShares 18 = .ok (.aload_n 1, 1)) := by decide +kernel
theorem dX3_walksToShares_0 : decode cX3_walksToShares 0 = .ok (.iconst 0, 1) := bdX3_walksToShares_0.1
theorem dX3_walksToShares_1 : decode cX3_walksToShares 1 = .ok (.istore 4, 2) := bdX3_walksToShares_0.2.1
theorem dX3_walksToShares_3 : decode cX3_walksToShares 3 = .ok (.iconst 0, 1) := bdX3_walksToShares_0.2.2.1
theorem dX3_walksToShares_4 : decode cX3_walksToShares 4 = .ok (.istore 5, 2) := bdX3_walksToShares_0.2.2.2.1
theorem dX3_walksToShares_6 : decode cX3_walksToShares 6 = .ok (.iload 5, 2) := bdX3_walksToShares_0.2.2.2.2.1
theorem dX3_walksToShares_8 : decode cX3_walksToShares 8 = .ok (.aload_n 0, 1) := bdX3_walksToShares_0.2.2.2.2.2.1
theorem dX3_walksToShares_9 : decode cX3_walksToShares 9 = .ok (.getfield 18, 3) := bdX3_walksToShares_0.2.2.2.2.2.2.1
theorem dX3_walksToShares_12 : decode cX3_walksToShares 12 = .ok (.getfield 38, 3) := bdX3_walksToShares_0.2.2.2.2.2.2.2.1
theorem dX3_walksToShares_15 : decode cX3_walksToShares 15 = .ok (.if_icmp .ge 60, 3) := bdX3_walksToShares_0.2.2.2.2.2.2.2.2.1
theorem dX3_walksToShares_18 : decode cX3_walksToShares 18 = .ok (.aload_n 1, 1) := bdX3_walksToShares_0.2.2.2.2.2.2.2.2.2
theorem bdX3_walksToShares_19 : (decode cX3_walksToShares 19 = .ok (.getfield 65, 3)) ∧ (decode cX3_walksToShares 22 = .ok (.iload 5, 2)) ∧ (decode cX3_walksToShares 24 = .ok (.iaload, 1)) ∧ (decode cX3_walksToShares 25 = .ok (.istore 6, 2)) ∧ (decode cX3_walksToShares 27 = .ok (.aload_n 0, 1)) ∧ (decode cX3_walksToShares 28 = .ok (.getfield 18, 3)) ∧ (decode cX3_walksToShares 31 = .ok (.iload 6, 2)) ∧ (decode cX3_walksToShares 33 = .ok (.invokevirtual 46, 3)) ∧ (decode cX3_walksToShares 36 = .ok (.ifCond .eq 33, 3)) ∧ (decode cX3_walksToShares 39 = .ok (.iload 4, 2)) := by decide +kernel
theorem dX3_walksToShares_19 : decode cX3_walksToShares 19 = .ok (.getfield 65, 3) := bdX3_walksToShares_19.1
theorem dX3_walksToShares_22 : decode cX3_walksToShares 22 = .ok (.iload 5, 2) := bdX3_walksToShares_19.2.1
theorem dX3_walksToShares_24 : decode cX3_walksToShares 24 = .ok (.iaload, 1) := bdX3_walksToShares_19.2.2.1
theorem dX3_walksToShares_25 : decode cX3_walksToShares 25 = .ok (.istore 6, 2) := bdX3_walksToShares_19.2.2.2.1
theorem dX3_walksToShares_27 : decode cX3_walksToShares 27 = .ok (.aload_n 0, 1) := bdX3_walksToShares_19.2.2.2.2.1
theorem dX3_walksToShares_28 : decode cX3_walksToShares 28 = .ok (.getfield 18, 3) := bdX3_walksToShares_19.2.2.2.2.2.1
theorem dX3_walksToShares_31 : decode cX3_walksToShares 31 = .ok (.iload 6, 2) := bdX3_walksToShares_19.2.2.2.2.2.2.1
theorem dX3_walksToShares_33 : decode cX3_walksToShares 33 = .ok (.invokevirtual 46, 3) := bdX3_walksToShares_19.2.2.2.2.2.2.2.1
theorem dX3_walksToShares_36 : decode cX3_walksToShares 36 = .ok (.ifCond .eq 33, 3) := bdX3_walksToShares_19.2.2.2.2.2.2.2.2.1
theorem dX3_walksToShares_39 : decode cX3_walksToShares 39 = .ok (.iload 4, 2) := bdX3_walksToShares_19.2.2.2.2.2.2.2.2.2
theorem bdX3_walksToShares_41 : (decode cX3_walksToShares 41 = .ok (.iload_n 2, 1)) ∧ (decode cX3_walksToShares 42 = .ok (.iload_n 3, 1)) ∧ (decode cX3_walksToShares 43 = .ok (.aload_n 0, 1)) ∧ (decode cX3_walksToShares 44 = .ok (.getfield 18, 3)) ∧ (decode cX3_walksToShares 47 = .ok (.getfield 49, 3)) ∧ (decode cX3_walksToShares 50 = .ok (.iload 6, 2)) ∧ (decode cX3_walksToShares 52 = .ok (.iaload, 1)) ∧ (decode cX3_walksToShares 53 = .ok (.aload_n 0, 1)) ∧ (decode cX3_walksToShares 54 = .ok (.getfield 18, 3)) ∧ (decode cX3_walksToShares 57 = .ok (.getfield 52, 3)) := by decide +kernel
theorem dX3_walksToShares_41 : decode cX3_walksToShares 41 = .ok (.iload_n 2, 1) := bdX3_walksToShares_41.1
theorem dX3_walksToShares_42 : decode cX3_walksToShares 42 = .ok (.iload_n 3, 1) := bdX3_walksToShares_41.2.1
theorem dX3_walksToShares_43 : decode cX3_walksToShares 43 = .ok (.aload_n 0, 1) := bdX3_walksToShares_41.2.2.1
theorem dX3_walksToShares_44 : decode cX3_walksToShares 44 = .ok (.getfield 18, 3) := bdX3_walksToShares_41.2.2.2.1
theorem dX3_walksToShares_47 : decode cX3_walksToShares 47 = .ok (.getfield 49, 3) := bdX3_walksToShares_41.2.2.2.2.1
theorem dX3_walksToShares_50 : decode cX3_walksToShares 50 = .ok (.iload 6, 2) := bdX3_walksToShares_41.2.2.2.2.2.1
theorem dX3_walksToShares_52 : decode cX3_walksToShares 52 = .ok (.iaload, 1) := bdX3_walksToShares_41.2.2.2.2.2.2.1
theorem dX3_walksToShares_53 : decode cX3_walksToShares 53 = .ok (.aload_n 0, 1) := bdX3_walksToShares_41.2.2.2.2.2.2.2.1
theorem dX3_walksToShares_54 : decode cX3_walksToShares 54 = .ok (.getfield 18, 3) := bdX3_walksToShares_41.2.2.2.2.2.2.2.2.1
theorem dX3_walksToShares_57 : decode cX3_walksToShares 57 = .ok (.getfield 52, 3) := bdX3_walksToShares_41.2.2.2.2.2.2.2.2.2
theorem bdX3_walksToShares_60 : (decode cX3_walksToShares 60 = .ok (.iload 6, 2)) ∧ (decode cX3_walksToShares 62 = .ok (.iaload, 1)) ∧ (decode cX3_walksToShares 63 = .ok (.invokestatic 61, 3)) ∧ (decode cX3_walksToShares 66 = .ok (.iadd, 1)) ∧ (decode cX3_walksToShares 67 = .ok (.istore 4, 2)) ∧ (decode cX3_walksToShares 69 = .ok (.iinc 5 1, 3)) ∧ (decode cX3_walksToShares 72 = .ok (.goto (-66), 3)) ∧ (decode cX3_walksToShares 75 = .ok (.iload 4, 2)) ∧ (decode cX3_walksToShares 77 = .ok (.ireturn, 1)) := by decide +kernel
theorem dX3_walksToShares_60 : decode cX3_walksToShares 60 = .ok (.iload 6, 2) := bdX3_walksToShares_60.1
theorem dX3_walksToShares_62 : decode cX3_walksToShares 62 = .ok (.iaload, 1) := bdX3_walksToShares_60.2.1
theorem dX3_walksToShares_63 : decode cX3_walksToShares 63 = .ok (.invokestatic 61, 3) := bdX3_walksToShares_60.2.2.1
theorem dX3_walksToShares_66 : decode cX3_walksToShares 66 = .ok (.iadd, 1) := bdX3_walksToShares_60.2.2.2.1
theorem dX3_walksToShares_67 : decode cX3_walksToShares 67 = .ok (.istore 4, 2) := bdX3_walksToShares_60.2.2.2.2.1
theorem dX3_walksToShares_69 : decode cX3_walksToShares 69 = .ok (.iinc 5 1, 3) := bdX3_walksToShares_60.2.2.2.2.2.1
theorem dX3_walksToShares_72 : decode cX3_walksToShares 72 = .ok (.goto (-66), 3) := bdX3_walksToShares_60.2.2.2.2.2.2.1
theorem dX3_walksToShares_75 : decode cX3_walksToShares 75 = .ok (.iload 4, 2) := bdX3_walksToShares_60.2.2.2.2.2.2.2.1
theorem dX3_walksToShares_77 : decode cX3_walksToShares 77 = .ok (.ireturn, 1) := bdX3_walksToShares_60.2.2.2.2.2.2.2.2
theorem bdX3_walk_0 : (decode cX3_walk 0 = .ok (.iload_n 2, 1)) ∧ (decode cX3_walk 1 = .ok (.iload_n 0, 1)) ∧ (decode cX3_walk 2 = .ok (.isub, 1)) ∧ (decode cX3_walk 3 = .ok (.invokestatic 68, 3)) ∧ (decode cX3_walk 6 = .ok (.iload_n 3, 1)) ∧ (decode cX3_walk 7 = .ok (.iload_n 1, 1)) ∧ (decode cX3_walk 8 = .ok (.isub, 1)) ∧ (decode cX3_walk 9 = .ok (.invokestatic 68, 3)) ∧ (decode cX3_walk 12 = .ok (.iadd, 1)) ∧ (decode cX3_walk 13 = .ok (.ireturn, 1)) := by decide +kernel
theorem dX3_walk_0 : decode cX3_walk 0 = .ok (.iload_n 2, 1) := bdX3_walk_0.1
theorem dX3_walk_1 : decode cX3_walk 1 = .ok (.iload_n 0, 1) := bdX3_walk_0.2.1
theorem dX3_walk_2 : decode cX3_walk 2 = .ok (.isub, 1) := bdX3_walk_0.2.2.1
theorem dX3_walk_3 : decode cX3_walk 3 = .ok (.invokestatic 68, 3) := bdX3_walk_0.2.2.2.1
theorem dX3_walk_6 : decode cX3_walk 6 = .ok (.iload_n 3, 1) := bdX3_walk_0.2.2.2.2.1
theorem dX3_walk_7 : decode cX3_walk 7 = .ok (.iload_n 1, 1) := bdX3_walk_0.2.2.2.2.2.1
theorem dX3_walk_8 : decode cX3_walk 8 = .ok (.isub, 1) := bdX3_walk_0.2.2.2.2.2.2.1
theorem dX3_walk_9 : decode cX3_walk 9 = .ok (.invokestatic 68, 3) := bdX3_walk_0.2.2.2.2.2.2.2.1
theorem dX3_walk_12 : decode cX3_walk 12 = .ok (.iadd, 1) := bdX3_walk_0.2.2.2.2.2.2.2.2.1
theorem dX3_walk_13 : decode cX3_walk 13 = .ok (.ireturn, 1) := bdX3_walk_0.2.2.2.2.2.2.2.2.2
theorem bdX3_tellValues_0 : (decode cX3_tellValues 0 = .ok (.aload_n 0, 1)) ∧ (decode cX3_tellValues 1 = .ok (.getfield 18, 3)) ∧ (decode cX3_tellValues 4 = .ok (.iload_n 2, 1)) ∧ (decode cX3_tellValues 5 = .ok (.invokevirtual 22, 3)) ∧ (decode cX3_tellValues 8 = .ok (.ifCond .eq 15, 3)) ∧ (decode cX3_tellValues 11 = .ok (.aload_n 0, 1)) ∧ (decode cX3_tellValues 12 = .ok (.getfield 18, 3)) ∧ (decode cX3_tellValues 15 = .ok (.iload 4, 2)) ∧ (decode cX3_tellValues 17 = .ok (.invokevirtual 46, 3)) ∧ (decode cX3_tellValues 20 = .ok (.ifCond .ne 4, 3)) := by decide +kernel
theorem dX3_tellValues_0 : decode cX3_tellValues 0 = .ok (.aload_n 0, 1) := bdX3_tellValues_0.1
theorem dX3_tellValues_1 : decode cX3_tellValues 1 = .ok (.getfield 18, 3) := bdX3_tellValues_0.2.1
theorem dX3_tellValues_4 : decode cX3_tellValues 4 = .ok (.iload_n 2, 1) := bdX3_tellValues_0.2.2.1
theorem dX3_tellValues_5 : decode cX3_tellValues 5 = .ok (.invokevirtual 22, 3) := bdX3_tellValues_0.2.2.2.1
theorem dX3_tellValues_8 : decode cX3_tellValues 8 = .ok (.ifCond .eq 15, 3) := bdX3_tellValues_0.2.2.2.2.1
theorem dX3_tellValues_11 : decode cX3_tellValues 11 = .ok (.aload_n 0, 1) := bdX3_tellValues_0.2.2.2.2.2.1
theorem dX3_tellValues_12 : decode cX3_tellValues 12 = .ok (.getfield 18, 3) := bdX3_tellValues_0.2.2.2.2.2.2.1
theorem dX3_tellValues_15 : decode cX3_tellValues 15 = .ok (.iload 4, 2) := bdX3_tellValues_0.2.2.2.2.2.2.2.1
theorem dX3_tellValues_17 : decode cX3_tellValues 17 = .ok (.invokevirtual 46, 3) := bdX3_tellValues_0.2.2.2.2.2.2.2.2.1
theorem dX3_tellValues_20 : decode cX3_tellValues 20 = .ok (.ifCond .ne 4, 3) := bdX3_tellValues_0.2.2.2.2.2.2.2.2.2
theorem bdX3_tellValues_23 : (decode cX3_tellValues 23 = .ok (.return_, 1)) ∧ (decode cX3_tellValues 24 = .ok (.aload_n 0, 1)) ∧ (decode cX3_tellValues 25 = .ok (.getfield 11, 3)) ∧ (decode cX3_tellValues 28 = .ok (.iconst 0, 1)) ∧ (decode cX3_tellValues 29 = .ok (.iload_n 3, 1)) ∧ (decode cX3_tellValues 30 = .ok (.ifCond .ne 15, 3)) ∧ (decode cX3_tellValues 33 = .ok (.aload_n 0, 1)) ∧ (decode cX3_tellValues 34 = .ok (.getfield 18, 3)) ∧ (decode cX3_tellValues 37 = .ok (.getfield 32, 3)) ∧ (decode cX3_tellValues 40 = .ok (.iload_n 2, 1)) := by decide +kernel
theorem dX3_tellValues_23 : decode cX3_tellValues 23 = .ok (.return_, 1) := bdX3_tellValues_23.1
theorem dX3_tellValues_24 : decode cX3_tellValues 24 = .ok (.aload_n 0, 1) := bdX3_tellValues_23.2.1
theorem dX3_tellValues_25 : decode cX3_tellValues 25 = .ok (.getfield 11, 3) := bdX3_tellValues_23.2.2.1
theorem dX3_tellValues_28 : decode cX3_tellValues 28 = .ok (.iconst 0, 1) := bdX3_tellValues_23.2.2.2.1
theorem dX3_tellValues_29 : decode cX3_tellValues 29 = .ok (.iload_n 3, 1) := bdX3_tellValues_23.2.2.2.2.1
theorem dX3_tellValues_30 : decode cX3_tellValues 30 = .ok (.ifCond .ne 15, 3) := bdX3_tellValues_23.2.2.2.2.2.1
theorem dX3_tellValues_33 : decode cX3_tellValues 33 = .ok (.aload_n 0, 1) := bdX3_tellValues_23.2.2.2.2.2.2.1
theorem dX3_tellValues_34 : decode cX3_tellValues 34 = .ok (.getfield 18, 3) := bdX3_tellValues_23.2.2.2.2.2.2.2.1
theorem dX3_tellValues_37 : decode cX3_tellValues 37 = .ok (.getfield 32, 3) := bdX3_tellValues_23.2.2.2.2.2.2.2.2.1
theorem dX3_tellValues_40 : decode cX3_tellValues 40 = .ok (.iload_n 2, 1) := bdX3_tellValues_23.2.2.2.2.2.2.2.2.2
theorem bdX3_tellValues_41 : (decode cX3_tellValues 41 = .ok (.iaload, 1)) ∧ (decode cX3_tellValues 42 = .ok (.goto 12, 3)) ∧ (decode cX3_tellValues 45 = .ok (.aload_n 0, 1)) ∧ (decode cX3_tellValues 46 = .ok (.getfield 18, 3)) ∧ (decode cX3_tellValues 49 = .ok (.getfield 35, 3)) ∧ (decode cX3_tellValues 52 = .ok (.iload_n 2, 1)) ∧ (decode cX3_tellValues 53 = .ok (.iaload, 1)) ∧ (decode cX3_tellValues 54 = .ok (.iastore, 1)) ∧ (decode cX3_tellValues 55 = .ok (.aload_n 0, 1)) ∧ (decode cX3_tellValues 56 = .ok (.getfield 11, 3)) := by decide +kernel
theorem dX3_tellValues_41 : decode cX3_tellValues 41 = .ok (.iaload, 1) := bdX3_tellValues_41.1
theorem dX3_tellValues_42 : decode cX3_tellValues 42 = .ok (.goto 12, 3) := bdX3_tellValues_41.2.1
theorem dX3_tellValues_45 : decode cX3_tellValues 45 = .ok (.aload_n 0, 1) := bdX3_tellValues_41.2.2.1
theorem dX3_tellValues_46 : decode cX3_tellValues 46 = .ok (.getfield 18, 3) := bdX3_tellValues_41.2.2.2.1
theorem dX3_tellValues_49 : decode cX3_tellValues 49 = .ok (.getfield 35, 3) := bdX3_tellValues_41.2.2.2.2.1
theorem dX3_tellValues_52 : decode cX3_tellValues 52 = .ok (.iload_n 2, 1) := bdX3_tellValues_41.2.2.2.2.2.1
theorem dX3_tellValues_53 : decode cX3_tellValues 53 = .ok (.iaload, 1) := bdX3_tellValues_41.2.2.2.2.2.2.1
theorem dX3_tellValues_54 : decode cX3_tellValues 54 = .ok (.iastore, 1) := bdX3_tellValues_41.2.2.2.2.2.2.2.1
theorem dX3_tellValues_55 : decode cX3_tellValues 55 = .ok (.aload_n 0, 1) := bdX3_tellValues_41.2.2.2.2.2.2.2.2.1
theorem dX3_tellValues_56 : decode cX3_tellValues 56 = .ok (.getfield 11, 3) := bdX3_tellValues_41.2.2.2.2.2.2.2.2.2
theorem bdX3_tellValues_59 : (decode cX3_tellValues 59 = .ok (.iconst 1, 1)) ∧ (decode cX3_tellValues 60 = .ok (.aload_n 0, 1)) ∧ (decode cX3_tellValues 61 = .ok (.getfield 18, 3)) ∧ (decode cX3_tellValues 64 = .ok (.getfield 73, 3)) ∧ (decode cX3_tellValues 67 = .ok (.iload_n 2, 1)) ∧ (decode cX3_tellValues 68 = .ok (.iaload, 1)) ∧ (decode cX3_tellValues 69 = .ok (.iastore, 1)) ∧ (decode cX3_tellValues 70 = .ok (.aload_n 0, 1)) ∧ (decode cX3_tellValues 71 = .ok (.getfield 11, 3)) ∧ (decode cX3_tellValues 74 = .ok (.iconst 2, 1)) := by decide +kernel
theorem dX3_tellValues_59 : decode cX3_tellValues 59 = .ok (.iconst 1, 1) := bdX3_tellValues_59.1
theorem dX3_tellValues_60 : decode cX3_tellValues 60 = .ok (.aload_n 0, 1) := bdX3_tellValues_59.2.1
theorem dX3_tellValues_61 : decode cX3_tellValues 61 = .ok (.getfield 18, 3) := bdX3_tellValues_59.2.2.1
theorem dX3_tellValues_64 : decode cX3_tellValues 64 = .ok (.getfield 73, 3) := bdX3_tellValues_59.2.2.2.1
theorem dX3_tellValues_67 : decode cX3_tellValues 67 = .ok (.iload_n 2, 1) := bdX3_tellValues_59.2.2.2.2.1
theorem dX3_tellValues_68 : decode cX3_tellValues 68 = .ok (.iaload, 1) := bdX3_tellValues_59.2.2.2.2.2.1
theorem dX3_tellValues_69 : decode cX3_tellValues 69 = .ok (.iastore, 1) := bdX3_tellValues_59.2.2.2.2.2.2.1
theorem dX3_tellValues_70 : decode cX3_tellValues 70 = .ok (.aload_n 0, 1) := bdX3_tellValues_59.2.2.2.2.2.2.2.1
theorem dX3_tellValues_71 : decode cX3_tellValues 71 = .ok (.getfield 11, 3) := bdX3_tellValues_59.2.2.2.2.2.2.2.2.1
theorem dX3_tellValues_74 : decode cX3_tellValues 74 = .ok (.iconst 2, 1) := bdX3_tellValues_59.2.2.2.2.2.2.2.2.2
theorem bdX3_tellValues_75 : (decode cX3_tellValues 75 = .ok (.aload_n 0, 1)) ∧ (decode cX3_tellValues 76 = .ok (.getfield 18, 3)) ∧ (decode cX3_tellValues 79 = .ok (.getfield 76, 3)) ∧ (decode cX3_tellValues 82 = .ok (.iload 4, 2)) ∧ (decode cX3_tellValues 84 = .ok (.iaload, 1)) ∧ (decode cX3_tellValues 85 = .ok (.iastore, 1)) ∧ (decode cX3_tellValues 86 = .ok (.aload_n 0, 1)) ∧ (decode cX3_tellValues 87 = .ok (.getfield 11, 3)) ∧ (decode cX3_tellValues 90 = .ok (.iconst 3, 1)) ∧ (decode cX3_tellValues 91 = .ok (.aload_n 0, 1)) := by decide +kernel
theorem dX3_tellValues_75 : decode cX3_tellValues 75 = .ok (.aload_n 0, 1) := bdX3_tellValues_75.1
theorem dX3_tellValues_76 : decode cX3_tellValues 76 = .ok (.getfield 18, 3) := bdX3_tellValues_75.2.1
theorem dX3_tellValues_79 : decode cX3_tellValues 79 = .ok (.getfield 76, 3) := bdX3_tellValues_75.2.2.1
theorem dX3_tellValues_82 : decode cX3_tellValues 82 = .ok (.iload 4, 2) := bdX3_tellValues_75.2.2.2.1
theorem dX3_tellValues_84 : decode cX3_tellValues 84 = .ok (.iaload, 1) := bdX3_tellValues_75.2.2.2.2.1
theorem dX3_tellValues_85 : decode cX3_tellValues 85 = .ok (.iastore, 1) := bdX3_tellValues_75.2.2.2.2.2.1
theorem dX3_tellValues_86 : decode cX3_tellValues 86 = .ok (.aload_n 0, 1) := bdX3_tellValues_75.2.2.2.2.2.2.1
theorem dX3_tellValues_87 : decode cX3_tellValues 87 = .ok (.getfield 11, 3) := bdX3_tellValues_75.2.2.2.2.2.2.2.1
theorem dX3_tellValues_90 : decode cX3_tellValues 90 = .ok (.iconst 3, 1) := bdX3_tellValues_75.2.2.2.2.2.2.2.2.1
theorem dX3_tellValues_91 : decode cX3_tellValues 91 = .ok (.aload_n 0, 1) := bdX3_tellValues_75.2.2.2.2.2.2.2.2.2
theorem bdX3_tellValues_92 : (decode cX3_tellValues 92 = .ok (.getfield 18, 3)) ∧ (decode cX3_tellValues 95 = .ok (.getfield 49, 3)) ∧ (decode cX3_tellValues 98 = .ok (.iload 4, 2)) ∧ (decode cX3_tellValues 100 = .ok (.iaload, 1)) ∧ (decode cX3_tellValues 101 = .ok (.aload_n 0, 1)) ∧ (decode cX3_tellValues 102 = .ok (.getfield 18, 3)) ∧ (decode cX3_tellValues 105 = .ok (.getfield 52, 3)) ∧ (decode cX3_tellValues 108 = .ok (.iload 4, 2)) ∧ (decode cX3_tellValues 110 = .ok (.iaload, 1)) ∧ (decode cX3_tellValues 111 = .ok (.aload_n 1, 1)) := by decide +kernel
theorem dX3_tellValues_92 : decode cX3_tellValues 92 = .ok (.getfield 18, 3) := bdX3_tellValues_92.1
theorem dX3_tellValues_95 : decode cX3_tellValues 95 = .ok (.getfield 49, 3) := bdX3_tellValues_92.2.1
theorem dX3_tellValues_98 : decode cX3_tellValues 98 = .ok (.iload 4, 2) := bdX3_tellValues_92.2.2.1
theorem dX3_tellValues_100 : decode cX3_tellValues 100 = .ok (.iaload, 1) := bdX3_tellValues_92.2.2.2.1
theorem dX3_tellValues_101 : decode cX3_tellValues 101 = .ok (.aload_n 0, 1) := bdX3_tellValues_92.2.2.2.2.1
theorem dX3_tellValues_102 : decode cX3_tellValues 102 = .ok (.getfield 18, 3) := bdX3_tellValues_92.2.2.2.2.2.1
theorem dX3_tellValues_105 : decode cX3_tellValues 105 = .ok (.getfield 52, 3) := bdX3_tellValues_92.2.2.2.2.2.2.1
theorem dX3_tellValues_108 : decode cX3_tellValues 108 = .ok (.iload 4, 2) := bdX3_tellValues_92.2.2.2.2.2.2.2.1
theorem dX3_tellValues_110 : decode cX3_tellValues 110 = .ok (.iaload, 1) := bdX3_tellValues_92.2.2.2.2.2.2.2.2.1
theorem dX3_tellValues_111 : decode cX3_tellValues 111 = .ok (.aload_n 1, 1) := bdX3_tellValues_92.2.2.2.2.2.2.2.2.2
theorem bdX3_tellValues_112 : (decode cX3_tellValues 112 = .ok (.getfield 55, 3)) ∧ (decode cX3_tellValues 115 = .ok (.aload_n 1, 1)) ∧ (decode cX3_tellValues 116 = .ok (.getfield 58, 3)) ∧ (decode cX3_tellValues 119 = .ok (.invokestatic 61, 3)) ∧ (decode cX3_tellValues 122 = .ok (.iastore, 1)) ∧ (decode cX3_tellValues 123 = .ok (.aload_n 0, 1)) ∧ (decode cX3_tellValues 124 = .ok (.getfield 11, 3)) ∧ (decode cX3_tellValues 127 = .ok (.iconst 4, 1)) ∧ (decode cX3_tellValues 128 = .ok (.iload_n 3, 1)) ∧ (decode cX3_tellValues 129 = .ok (.iastore, 1)) := by decide +kernel
theorem dX3_tellValues_112 : decode cX3_tellValues 112 = .ok (.getfield 55, 3) := bdX3_tellValues_112.1
theorem dX3_tellValues_115 : decode cX3_tellValues 115 = .ok (.aload_n 1, 1) := bdX3_tellValues_112.2.1
theorem dX3_tellValues_116 : decode cX3_tellValues 116 = .ok (.getfield 58, 3) := bdX3_tellValues_112.2.2.1
theorem dX3_tellValues_119 : decode cX3_tellValues 119 = .ok (.invokestatic 61, 3) := bdX3_tellValues_112.2.2.2.1
theorem dX3_tellValues_122 : decode cX3_tellValues 122 = .ok (.iastore, 1) := bdX3_tellValues_112.2.2.2.2.1
theorem dX3_tellValues_123 : decode cX3_tellValues 123 = .ok (.aload_n 0, 1) := bdX3_tellValues_112.2.2.2.2.2.1
theorem dX3_tellValues_124 : decode cX3_tellValues 124 = .ok (.getfield 11, 3) := bdX3_tellValues_112.2.2.2.2.2.2.1
theorem dX3_tellValues_127 : decode cX3_tellValues 127 = .ok (.iconst 4, 1) := bdX3_tellValues_112.2.2.2.2.2.2.2.1
theorem dX3_tellValues_128 : decode cX3_tellValues 128 = .ok (.iload_n 3, 1) := bdX3_tellValues_112.2.2.2.2.2.2.2.2.1
theorem dX3_tellValues_129 : decode cX3_tellValues 129 = .ok (.iastore, 1) := bdX3_tellValues_112.2.2.2.2.2.2.2.2.2
theorem bdX3_tellValues_130 : (decode cX3_tellValues 130 = .ok (.return_, 1)) := by decide +kernel
theorem dX3_tellValues_130 : decode cX3_tellValues 130 = .ok (.return_, 1) := bdX3_tellValues_130
theorem bdX3_worthOf_0 : (decode cX3_worthOf 0 = .ok (.aload_n 0, 1)) ∧ (decode cX3_worthOf 1 = .ok (.aload_n 1, 1)) ∧ (decode cX3_worthOf 2 = .ok (.iload_n 2, 1)) ∧ (decode cX3_worthOf 3 = .ok (.aload_n 1, 1)) ∧ (decode cX3_worthOf 4 = .ok (.iload_n 2, 1)) ∧ (decode cX3_worthOf 5 = .ok (.invokevirtual 26, 3)) ∧ (decode cX3_worthOf 8 = .ok (.iload_n 3, 1)) ∧ (decode cX3_worthOf 9 = .ok (.invokevirtual 79, 3)) ∧ (decode cX3_worthOf 12 = .ok (.aload_n 0, 1)) ∧ (decode cX3_worthOf 13 = .ok (.getfield 18, 3)) := by decide +kernel
theorem dX3_worthOf_0 : decode cX3_worthOf 0 = .ok (.aload_n 0, 1) := bdX3_worthOf_0.1
theorem dX3_worthOf_1 : decode cX3_worthOf 1 = .ok (.aload_n 1, 1) := bdX3_worthOf_0.2.1
theorem dX3_worthOf_2 : decode cX3_worthOf 2 = .ok (.iload_n 2, 1) := bdX3_worthOf_0.2.2.1
theorem dX3_worthOf_3 : decode cX3_worthOf 3 = .ok (.aload_n 1, 1) := bdX3_worthOf_0.2.2.2.1
theorem dX3_worthOf_4 : decode cX3_worthOf 4 = .ok (.iload_n 2, 1) := bdX3_worthOf_0.2.2.2.2.1
theorem dX3_worthOf_5 : decode cX3_worthOf 5 = .ok (.invokevirtual 26, 3) := bdX3_worthOf_0.2.2.2.2.2.1
theorem dX3_worthOf_8 : decode cX3_worthOf 8 = .ok (.iload_n 3, 1) := bdX3_worthOf_0.2.2.2.2.2.2.1
theorem dX3_worthOf_9 : decode cX3_worthOf 9 = .ok (.invokevirtual 79, 3) := bdX3_worthOf_0.2.2.2.2.2.2.2.1
theorem dX3_worthOf_12 : decode cX3_worthOf 12 = .ok (.aload_n 0, 1) := bdX3_worthOf_0.2.2.2.2.2.2.2.2.1
theorem dX3_worthOf_13 : decode cX3_worthOf 13 = .ok (.getfield 18, 3) := bdX3_worthOf_0.2.2.2.2.2.2.2.2.2
theorem bdX3_worthOf_16 : (decode cX3_worthOf 16 = .ok (.getfield 83, 3)) ∧ (decode cX3_worthOf 19 = .ok (.invokevirtual 87, 3)) ∧ (decode cX3_worthOf 22 = .ok (.ifCond .eq 18, 3)) ∧ (decode cX3_worthOf 25 = .ok (.aload_n 0, 1)) ∧ (decode cX3_worthOf 26 = .ok (.getfield 18, 3)) ∧ (decode cX3_worthOf 29 = .ok (.getfield 83, 3)) ∧ (decode cX3_worthOf 32 = .ok (.aload_n 0, 1)) ∧ (decode cX3_worthOf 33 = .ok (.getfield 11, 3)) ∧ (decode cX3_worthOf 36 = .ok (.invokevirtual 93, 3)) ∧ (decode cX3_worthOf 39 = .ok (.ireturn, 1)) := by decide +kernel
theorem dX3_worthOf_16 : decode cX3_worthOf 16 = .ok (.getfield 83, 3) := bdX3_worthOf_16.1
theorem dX3_worthOf_19 : decode cX3_worthOf 19 = .ok (.invokevirtual 87, 3) := bdX3_worthOf_16.2.1
theorem dX3_worthOf_22 : decode cX3_worthOf 22 = .ok (.ifCond .eq 18, 3) := bdX3_worthOf_16.2.2.1
theorem dX3_worthOf_25 : decode cX3_worthOf 25 = .ok (.aload_n 0, 1) := bdX3_worthOf_16.2.2.2.1
theorem dX3_worthOf_26 : decode cX3_worthOf 26 = .ok (.getfield 18, 3) := bdX3_worthOf_16.2.2.2.2.1
theorem dX3_worthOf_29 : decode cX3_worthOf 29 = .ok (.getfield 83, 3) := bdX3_worthOf_16.2.2.2.2.2.1
theorem dX3_worthOf_32 : decode cX3_worthOf 32 = .ok (.aload_n 0, 1) := bdX3_worthOf_16.2.2.2.2.2.2.1
theorem dX3_worthOf_33 : decode cX3_worthOf 33 = .ok (.getfield 11, 3) := bdX3_worthOf_16.2.2.2.2.2.2.2.1
theorem dX3_worthOf_36 : decode cX3_worthOf 36 = .ok (.invokevirtual 93, 3) := bdX3_worthOf_16.2.2.2.2.2.2.2.2.1
theorem dX3_worthOf_39 : decode cX3_worthOf 39 = .ok (.ireturn, 1) := bdX3_worthOf_16.2.2.2.2.2.2.2.2.2
theorem bdX3_worthOf_40 : (decode cX3_worthOf 40 = .ok (.iconst 2, 1)) ∧ (decode cX3_worthOf 41 = .ok (.aload_n 0, 1)) ∧ (decode cX3_worthOf 42 = .ok (.getfield 11, 3)) ∧ (decode cX3_worthOf 45 = .ok (.iconst 2, 1)) ∧ (decode cX3_worthOf 46 = .ok (.iaload, 1)) ∧ (decode cX3_worthOf 47 = .ok (.imul, 1)) ∧ (decode cX3_worthOf 48 = .ok (.aload_n 0, 1)) ∧ (decode cX3_worthOf 49 = .ok (.getfield 11, 3)) ∧ (decode cX3_worthOf 52 = .ok (.iconst 3, 1)) ∧ (decode cX3_worthOf 53 = .ok (.iaload, 1)) := by decide +kernel
theorem dX3_worthOf_40 : decode cX3_worthOf 40 = .ok (.iconst 2, 1) := bdX3_worthOf_40.1
theorem dX3_worthOf_41 : decode cX3_worthOf 41 = .ok (.aload_n 0, 1) := bdX3_worthOf_40.2.1
theorem dX3_worthOf_42 : decode cX3_worthOf 42 = .ok (.getfield 11, 3) := bdX3_worthOf_40.2.2.1
theorem dX3_worthOf_45 : decode cX3_worthOf 45 = .ok (.iconst 2, 1) := bdX3_worthOf_40.2.2.2.1
theorem dX3_worthOf_46 : decode cX3_worthOf 46 = .ok (.iaload, 1) := bdX3_worthOf_40.2.2.2.2.1
theorem dX3_worthOf_47 : decode cX3_worthOf 47 = .ok (.imul, 1) := bdX3_worthOf_40.2.2.2.2.2.1
theorem dX3_worthOf_48 : decode cX3_worthOf 48 = .ok (.aload_n 0, 1) := bdX3_worthOf_40.2.2.2.2.2.2.1
theorem dX3_worthOf_49 : decode cX3_worthOf 49 = .ok (.getfield 11, 3) := bdX3_worthOf_40.2.2.2.2.2.2.2.1
theorem dX3_worthOf_52 : decode cX3_worthOf 52 = .ok (.iconst 3, 1) := bdX3_worthOf_40.2.2.2.2.2.2.2.2.1
theorem dX3_worthOf_53 : decode cX3_worthOf 53 = .ok (.iaload, 1) := bdX3_worthOf_40.2.2.2.2.2.2.2.2.2
theorem bdX3_worthOf_54 : (decode cX3_worthOf 54 = .ok (.isub, 1)) ∧ (decode cX3_worthOf 55 = .ok (.ireturn, 1)) := by decide +kernel
theorem dX3_worthOf_54 : decode cX3_worthOf 54 = .ok (.isub, 1) := bdX3_worthOf_54.1
theorem dX3_worthOf_55 : decode cX3_worthOf 55 = .ok (.ireturn, 1) := bdX3_worthOf_54.2
theorem bdX3_worthOfShare_0 : (decode cX3_worthOfShare 0 = .ok (.aload_n 0, 1)) ∧ (decode cX3_worthOfShare 1 = .ok (.getfield 18, 3)) ∧ (decode cX3_worthOfShare 4 = .ok (.iload_n 2, 1)) ∧ (decode cX3_worthOfShare 5 = .ok (.invokevirtual 22, 3)) ∧ (decode cX3_worthOfShare 8 = .ok (.ifCond .eq 13, 3)) ∧ (decode cX3_worthOfShare 11 = .ok (.aload_n 1, 1)) ∧ (decode cX3_worthOfShare 12 = .ok (.getfield 65, 3)) ∧ (decode cX3_worthOfShare 15 = .ok (.iload_n 2, 1)) ∧ (decode cX3_worthOfShare 16 = .ok (.iaload, 1)) ∧ (decode cX3_worthOfShare 17 = .ok (.iconst (-1), 1)) := by decide +kernel
theorem dX3_worthOfShare_0 : decode cX3_worthOfShare 0 = .ok (.aload_n 0, 1) := bdX3_worthOfShare_0.1
theorem dX3_worthOfShare_1 : decode cX3_worthOfShare 1 = .ok (.getfield 18, 3) := bdX3_worthOfShare_0.2.1
theorem dX3_worthOfShare_4 : decode cX3_worthOfShare 4 = .ok (.iload_n 2, 1) := bdX3_worthOfShare_0.2.2.1
theorem dX3_worthOfShare_5 : decode cX3_worthOfShare 5 = .ok (.invokevirtual 22, 3) := bdX3_worthOfShare_0.2.2.2.1
theorem dX3_worthOfShare_8 : decode cX3_worthOfShare 8 = .ok (.ifCond .eq 13, 3) := bdX3_worthOfShare_0.2.2.2.2.1
theorem dX3_worthOfShare_11 : decode cX3_worthOfShare 11 = .ok (.aload_n 1, 1) := bdX3_worthOfShare_0.2.2.2.2.2.1
theorem dX3_worthOfShare_12 : decode cX3_worthOfShare 12 = .ok (.getfield 65, 3) := bdX3_worthOfShare_0.2.2.2.2.2.2.1
theorem dX3_worthOfShare_15 : decode cX3_worthOfShare 15 = .ok (.iload_n 2, 1) := bdX3_worthOfShare_0.2.2.2.2.2.2.2.1
theorem dX3_worthOfShare_16 : decode cX3_worthOfShare 16 = .ok (.iaload, 1) := bdX3_worthOfShare_0.2.2.2.2.2.2.2.2.1
theorem dX3_worthOfShare_17 : decode cX3_worthOfShare 17 = .ok (.iconst (-1), 1) := bdX3_worthOfShare_0.2.2.2.2.2.2.2.2.2
theorem bdX3_worthOfShare_18 : (decode cX3_worthOfShare 18 = .ok (.if_icmp .ne 5, 3)) ∧ (decode cX3_worthOfShare 21 = .ok (.lload_n 3, 1)) ∧ (decode cX3_worthOfShare 22 = .ok (.lreturn, 1)) ∧ (decode cX3_worthOfShare 23 = .ok (.aload_n 0, 1)) ∧ (decode cX3_worthOfShare 24 = .ok (.aload_n 1, 1)) ∧ (decode cX3_worthOfShare 25 = .ok (.iload_n 2, 1)) ∧ (decode cX3_worthOfShare 26 = .ok (.aload_n 1, 1)) ∧ (decode cX3_worthOfShare 27 = .ok (.getfield 65, 3)) ∧ (decode cX3_worthOfShare 30 = .ok (.iload_n 2, 1)) ∧ (decode cX3_worthOfShare 31 = .ok (.iaload, 1)) := by decide +kernel
theorem dX3_worthOfShare_18 : decode cX3_worthOfShare 18 = .ok (.if_icmp .ne 5, 3) := bdX3_worthOfShare_18.1
theorem dX3_worthOfShare_21 : decode cX3_worthOfShare 21 = .ok (.lload_n 3, 1) := bdX3_worthOfShare_18.2.1
theorem dX3_worthOfShare_22 : decode cX3_worthOfShare 22 = .ok (.lreturn, 1) := bdX3_worthOfShare_18.2.2.1
theorem dX3_worthOfShare_23 : decode cX3_worthOfShare 23 = .ok (.aload_n 0, 1) := bdX3_worthOfShare_18.2.2.2.1
theorem dX3_worthOfShare_24 : decode cX3_worthOfShare 24 = .ok (.aload_n 1, 1) := bdX3_worthOfShare_18.2.2.2.2.1
theorem dX3_worthOfShare_25 : decode cX3_worthOfShare 25 = .ok (.iload_n 2, 1) := bdX3_worthOfShare_18.2.2.2.2.2.1
theorem dX3_worthOfShare_26 : decode cX3_worthOfShare 26 = .ok (.aload_n 1, 1) := bdX3_worthOfShare_18.2.2.2.2.2.2.1
theorem dX3_worthOfShare_27 : decode cX3_worthOfShare 27 = .ok (.getfield 65, 3) := bdX3_worthOfShare_18.2.2.2.2.2.2.2.1
theorem dX3_worthOfShare_30 : decode cX3_worthOfShare 30 = .ok (.iload_n 2, 1) := bdX3_worthOfShare_18.2.2.2.2.2.2.2.2.1
theorem dX3_worthOfShare_31 : decode cX3_worthOfShare 31 = .ok (.iaload, 1) := bdX3_worthOfShare_18.2.2.2.2.2.2.2.2.2
theorem bdX3_worthOfShare_32 : (decode cX3_worthOfShare 32 = .ok (.invokevirtual 97, 3)) ∧ (decode cX3_worthOfShare 35 = .ok (.i2l, 1)) ∧ (decode cX3_worthOfShare 36 = .ok (.lreturn, 1)) := by decide +kernel
theorem dX3_worthOfShare_32 : decode cX3_worthOfShare 32 = .ok (.invokevirtual 97, 3) := bdX3_worthOfShare_32.1
theorem dX3_worthOfShare_35 : decode cX3_worthOfShare 35 = .ok (.i2l, 1) := bdX3_worthOfShare_32.2.1
theorem dX3_worthOfShare_36 : decode cX3_worthOfShare 36 = .ok (.lreturn, 1) := bdX3_worthOfShare_32.2.2
theorem bdX3_cropOf_0 : (decode cX3_cropOf 0 = .ok (.aload_n 0, 1)) ∧ (decode cX3_cropOf 1 = .ok (.getfield 18, 3)) ∧ (decode cX3_cropOf 4 = .ok (.iload 4, 2)) ∧ (decode cX3_cropOf 6 = .ok (.invokevirtual 46, 3)) ∧ (decode cX3_cropOf 9 = .ok (.ifCond .ne 5, 3)) ∧ (decode cX3_cropOf 12 = .ok (.iconst 0, 1)) ∧ (decode cX3_cropOf 13 = .ok (.ireturn, 1)) ∧ (decode cX3_cropOf 14 = .ok (.aload_n 0, 1)) ∧ (decode cX3_cropOf 15 = .ok (.aload_n 1, 1)) ∧ (decode cX3_cropOf 16 = .ok (.iload_n 2, 1)) := by decide +kernel
theorem dX3_cropOf_0 : decode cX3_cropOf 0 = .ok (.aload_n 0, 1) := bdX3_cropOf_0.1
theorem dX3_cropOf_1 : decode cX3_cropOf 1 = .ok (.getfield 18, 3) := bdX3_cropOf_0.2.1
theorem dX3_cropOf_4 : decode cX3_cropOf 4 = .ok (.iload 4, 2) := bdX3_cropOf_0.2.2.1
theorem dX3_cropOf_6 : decode cX3_cropOf 6 = .ok (.invokevirtual 46, 3) := bdX3_cropOf_0.2.2.2.1
theorem dX3_cropOf_9 : decode cX3_cropOf 9 = .ok (.ifCond .ne 5, 3) := bdX3_cropOf_0.2.2.2.2.1
theorem dX3_cropOf_12 : decode cX3_cropOf 12 = .ok (.iconst 0, 1) := bdX3_cropOf_0.2.2.2.2.2.1
theorem dX3_cropOf_13 : decode cX3_cropOf 13 = .ok (.ireturn, 1) := bdX3_cropOf_0.2.2.2.2.2.2.1
theorem dX3_cropOf_14 : decode cX3_cropOf 14 = .ok (.aload_n 0, 1) := bdX3_cropOf_0.2.2.2.2.2.2.2.1
theorem dX3_cropOf_15 : decode cX3_cropOf 15 = .ok (.aload_n 1, 1) := bdX3_cropOf_0.2.2.2.2.2.2.2.2.1
theorem dX3_cropOf_16 : decode cX3_cropOf 16 = .ok (.iload_n 2, 1) := bdX3_cropOf_0.2.2.2.2.2.2.2.2.2
theorem bdX3_cropOf_17 : (decode cX3_cropOf 17 = .ok (.iload_n 3, 1)) ∧ (decode cX3_cropOf 18 = .ok (.iload 4, 2)) ∧ (decode cX3_cropOf 20 = .ok (.invokevirtual 79, 3)) ∧ (decode cX3_cropOf 23 = .ok (.aload_n 0, 1)) ∧ (decode cX3_cropOf 24 = .ok (.getfield 11, 3)) ∧ (decode cX3_cropOf 27 = .ok (.iconst 5, 1)) ∧ (decode cX3_cropOf 28 = .ok (.aload_n 0, 1)) ∧ (decode cX3_cropOf 29 = .ok (.getfield 18, 3)) ∧ (decode cX3_cropOf 32 = .ok (.iload 5, 2)) ∧ (decode cX3_cropOf 34 = .ok (.invokevirtual 101, 3)) := by decide +kernel
theorem dX3_cropOf_17 : decode cX3_cropOf 17 = .ok (.iload_n 3, 1) := bdX3_cropOf_17.1
theorem dX3_cropOf_18 : decode cX3_cropOf 18 = .ok (.iload 4, 2) := bdX3_cropOf_17.2.1
theorem dX3_cropOf_20 : decode cX3_cropOf 20 = .ok (.invokevirtual 79, 3) := bdX3_cropOf_17.2.2.1
theorem dX3_cropOf_23 : decode cX3_cropOf 23 = .ok (.aload_n 0, 1) := bdX3_cropOf_17.2.2.2.1
theorem dX3_cropOf_24 : decode cX3_cropOf 24 = .ok (.getfield 11, 3) := bdX3_cropOf_17.2.2.2.2.1
theorem dX3_cropOf_27 : decode cX3_cropOf 27 = .ok (.iconst 5, 1) := bdX3_cropOf_17.2.2.2.2.2.1
theorem dX3_cropOf_28 : decode cX3_cropOf 28 = .ok (.aload_n 0, 1) := bdX3_cropOf_17.2.2.2.2.2.2.1
theorem dX3_cropOf_29 : decode cX3_cropOf 29 = .ok (.getfield 18, 3) := bdX3_cropOf_17.2.2.2.2.2.2.2.1
theorem dX3_cropOf_32 : decode cX3_cropOf 32 = .ok (.iload 5, 2) := bdX3_cropOf_17.2.2.2.2.2.2.2.2.1
theorem dX3_cropOf_34 : decode cX3_cropOf 34 = .ok (.invokevirtual 101, 3) := bdX3_cropOf_17.2.2.2.2.2.2.2.2.2
theorem bdX3_cropOf_37 : (decode cX3_cropOf 37 = .ok (.iastore, 1)) ∧ (decode cX3_cropOf 38 = .ok (.aload_n 0, 1)) ∧ (decode cX3_cropOf 39 = .ok (.getfield 11, 3)) ∧ (decode cX3_cropOf 42 = .ok (.bipush 6, 2)) ∧ (decode cX3_cropOf 44 = .ok (.iload 5, 2)) ∧ (decode cX3_cropOf 46 = .ok (.iastore, 1)) ∧ (decode cX3_cropOf 47 = .ok (.aload_n 0, 1)) ∧ (decode cX3_cropOf 48 = .ok (.getfield 11, 3)) ∧ (decode cX3_cropOf 51 = .ok (.iconst 2, 1)) ∧ (decode cX3_cropOf 52 = .ok (.iaload, 1)) := by decide +kernel
theorem dX3_cropOf_37 : decode cX3_cropOf 37 = .ok (.iastore, 1) := bdX3_cropOf_37.1
theorem dX3_cropOf_38 : decode cX3_cropOf 38 = .ok (.aload_n 0, 1) := bdX3_cropOf_37.2.1
theorem dX3_cropOf_39 : decode cX3_cropOf 39 = .ok (.getfield 11, 3) := bdX3_cropOf_37.2.2.1
theorem dX3_cropOf_42 : decode cX3_cropOf 42 = .ok (.bipush 6, 2) := bdX3_cropOf_37.2.2.2.1
theorem dX3_cropOf_44 : decode cX3_cropOf 44 = .ok (.iload 5, 2) := bdX3_cropOf_37.2.2.2.2.1
theorem dX3_cropOf_46 : decode cX3_cropOf 46 = .ok (.iastore, 1) := bdX3_cropOf_37.2.2.2.2.2.1
theorem dX3_cropOf_47 : decode cX3_cropOf 47 = .ok (.aload_n 0, 1) := bdX3_cropOf_37.2.2.2.2.2.2.1
theorem dX3_cropOf_48 : decode cX3_cropOf 48 = .ok (.getfield 11, 3) := bdX3_cropOf_37.2.2.2.2.2.2.2.1
theorem dX3_cropOf_51 : decode cX3_cropOf 51 = .ok (.iconst 2, 1) := bdX3_cropOf_37.2.2.2.2.2.2.2.2.1
theorem dX3_cropOf_52 : decode cX3_cropOf 52 = .ok (.iaload, 1) := bdX3_cropOf_37.2.2.2.2.2.2.2.2.2
theorem bdX3_cropOf_53 : (decode cX3_cropOf 53 = .ok (.aload_n 0, 1)) ∧ (decode cX3_cropOf 54 = .ok (.getfield 11, 3)) ∧ (decode cX3_cropOf 57 = .ok (.iconst 5, 1)) ∧ (decode cX3_cropOf 58 = .ok (.iaload, 1)) ∧ (decode cX3_cropOf 59 = .ok (.iadd, 1)) ∧ (decode cX3_cropOf 60 = .ok (.istore 6, 2)) ∧ (decode cX3_cropOf 62 = .ok (.aload_n 0, 1)) ∧ (decode cX3_cropOf 63 = .ok (.getfield 18, 3)) ∧ (decode cX3_cropOf 66 = .ok (.getfield 104, 3)) ∧ (decode cX3_cropOf 69 = .ok (.invokevirtual 87, 3)) := by decide +kernel
theorem dX3_cropOf_53 : decode cX3_cropOf 53 = .ok (.aload_n 0, 1) := bdX3_cropOf_53.1
theorem dX3_cropOf_54 : decode cX3_cropOf 54 = .ok (.getfield 11, 3) := bdX3_cropOf_53.2.1
theorem dX3_cropOf_57 : decode cX3_cropOf 57 = .ok (.iconst 5, 1) := bdX3_cropOf_53.2.2.1
theorem dX3_cropOf_58 : decode cX3_cropOf 58 = .ok (.iaload, 1) := bdX3_cropOf_53.2.2.2.1
theorem dX3_cropOf_59 : decode cX3_cropOf 59 = .ok (.iadd, 1) := bdX3_cropOf_53.2.2.2.2.1
theorem dX3_cropOf_60 : decode cX3_cropOf 60 = .ok (.istore 6, 2) := bdX3_cropOf_53.2.2.2.2.2.1
theorem dX3_cropOf_62 : decode cX3_cropOf 62 = .ok (.aload_n 0, 1) := bdX3_cropOf_53.2.2.2.2.2.2.1
theorem dX3_cropOf_63 : decode cX3_cropOf 63 = .ok (.getfield 18, 3) := bdX3_cropOf_53.2.2.2.2.2.2.2.1
theorem dX3_cropOf_66 : decode cX3_cropOf 66 = .ok (.getfield 104, 3) := bdX3_cropOf_53.2.2.2.2.2.2.2.2.1
theorem dX3_cropOf_69 : decode cX3_cropOf 69 = .ok (.invokevirtual 87, 3) := bdX3_cropOf_53.2.2.2.2.2.2.2.2.2
theorem bdX3_cropOf_72 : (decode cX3_cropOf 72 = .ok (.ifCond .eq 19, 3)) ∧ (decode cX3_cropOf 75 = .ok (.aload_n 0, 1)) ∧ (decode cX3_cropOf 76 = .ok (.getfield 18, 3)) ∧ (decode cX3_cropOf 79 = .ok (.getfield 104, 3)) ∧ (decode cX3_cropOf 82 = .ok (.aload_n 0, 1)) ∧ (decode cX3_cropOf 83 = .ok (.getfield 11, 3)) ∧ (decode cX3_cropOf 86 = .ok (.invokevirtual 93, 3)) ∧ (decode cX3_cropOf 89 = .ok (.istore 6, 2)) ∧ (decode cX3_cropOf 91 = .ok (.iconst 0, 1)) ∧ (decode cX3_cropOf 92 = .ok (.bipush 99, 2)) := by decide +kernel
theorem dX3_cropOf_72 : decode cX3_cropOf 72 = .ok (.ifCond .eq 19, 3) := bdX3_cropOf_72.1
theorem dX3_cropOf_75 : decode cX3_cropOf 75 = .ok (.aload_n 0, 1) := bdX3_cropOf_72.2.1
theorem dX3_cropOf_76 : decode cX3_cropOf 76 = .ok (.getfield 18, 3) := bdX3_cropOf_72.2.2.1
theorem dX3_cropOf_79 : decode cX3_cropOf 79 = .ok (.getfield 104, 3) := bdX3_cropOf_72.2.2.2.1
theorem dX3_cropOf_82 : decode cX3_cropOf 82 = .ok (.aload_n 0, 1) := bdX3_cropOf_72.2.2.2.2.1
theorem dX3_cropOf_83 : decode cX3_cropOf 83 = .ok (.getfield 11, 3) := bdX3_cropOf_72.2.2.2.2.2.1
theorem dX3_cropOf_86 : decode cX3_cropOf 86 = .ok (.invokevirtual 93, 3) := bdX3_cropOf_72.2.2.2.2.2.2.1
theorem dX3_cropOf_89 : decode cX3_cropOf 89 = .ok (.istore 6, 2) := bdX3_cropOf_72.2.2.2.2.2.2.2.1
theorem dX3_cropOf_91 : decode cX3_cropOf 91 = .ok (.iconst 0, 1) := bdX3_cropOf_72.2.2.2.2.2.2.2.2.1
theorem dX3_cropOf_92 : decode cX3_cropOf 92 = .ok (.bipush 99, 2) := bdX3_cropOf_72.2.2.2.2.2.2.2.2.2
theorem bdX3_cropOf_94 : (decode cX3_cropOf 94 = .ok (.iload 6, 2)) ∧ (decode cX3_cropOf 96 = .ok (.invokestatic 107, 3)) ∧ (decode cX3_cropOf 99 = .ok (.invokestatic 111, 3)) ∧ (decode cX3_cropOf 102 = .ok (.ireturn, 1)) := by decide +kernel
theorem dX3_cropOf_94 : decode cX3_cropOf 94 = .ok (.iload 6, 2) := bdX3_cropOf_94.1
theorem dX3_cropOf_96 : decode cX3_cropOf 96 = .ok (.invokestatic 107, 3) := bdX3_cropOf_94.2.1
theorem dX3_cropOf_99 : decode cX3_cropOf 99 = .ok (.invokestatic 111, 3) := bdX3_cropOf_94.2.2.1
theorem dX3_cropOf_102 : decode cX3_cropOf 102 = .ok (.ireturn, 1) := bdX3_cropOf_94.2.2.2
theorem bdX3_cropOnShare_0 : (decode cX3_cropOnShare 0 = .ok (.aload_n 0, 1)) ∧ (decode cX3_cropOnShare 1 = .ok (.getfield 18, 3)) ∧ (decode cX3_cropOnShare 4 = .ok (.iload_n 2, 1)) ∧ (decode cX3_cropOnShare 5 = .ok (.invokevirtual 22, 3)) ∧ (decode cX3_cropOnShare 8 = .ok (.ifCond .ne 5, 3)) ∧ (decode cX3_cropOnShare 11 = .ok (.iconst 0, 1)) ∧ (decode cX3_cropOnShare 12 = .ok (.ireturn, 1)) ∧ (decode cX3_cropOnShare 13 = .ok (.aload_n 0, 1)) ∧ (decode cX3_cropOnShare 14 = .ok (.aload_n 1, 1)) ∧ (decode cX3_cropOnShare 15 = .ok (.iload_n 2, 1)) := by decide +kernel
theorem dX3_cropOnShare_0 : decode cX3_cropOnShare 0 = .ok (.aload_n 0, 1) := bdX3_cropOnShare_0.1
theorem dX3_cropOnShare_1 : decode cX3_cropOnShare 1 = .ok (.getfield 18, 3) := bdX3_cropOnShare_0.2.1
theorem dX3_cropOnShare_4 : decode cX3_cropOnShare 4 = .ok (.iload_n 2, 1) := bdX3_cropOnShare_0.2.2.1
theorem dX3_cropOnShare_5 : decode cX3_cropOnShare 5 = .ok (.invokevirtual 22, 3) := bdX3_cropOnShare_0.2.2.2.1
theorem dX3_cropOnShare_8 : decode cX3_cropOnShare 8 = .ok (.ifCond .ne 5, 3) := bdX3_cropOnShare_0.2.2.2.2.1
theorem dX3_cropOnShare_11 : decode cX3_cropOnShare 11 = .ok (.iconst 0, 1) := bdX3_cropOnShare_0.2.2.2.2.2.1
theorem dX3_cropOnShare_12 : decode cX3_cropOnShare 12 = .ok (.ireturn, 1) := bdX3_cropOnShare_0.2.2.2.2.2.2.1
theorem dX3_cropOnShare_13 : decode cX3_cropOnShare 13 = .ok (.aload_n 0, 1) := bdX3_cropOnShare_0.2.2.2.2.2.2.2.1
theorem dX3_cropOnShare_14 : decode cX3_cropOnShare 14 = .ok (.aload_n 1, 1) := bdX3_cropOnShare_0.2.2.2.2.2.2.2.2.1
theorem dX3_cropOnShare_15 : decode cX3_cropOnShare 15 = .ok (.iload_n 2, 1) := bdX3_cropOnShare_0.2.2.2.2.2.2.2.2.2
theorem bdX3_cropOnShare_16 : (decode cX3_cropOnShare 16 = .ok (.aload_n 1, 1)) ∧ (decode cX3_cropOnShare 17 = .ok (.iload_n 2, 1)) ∧ (decode cX3_cropOnShare 18 = .ok (.invokevirtual 26, 3)) ∧ (decode cX3_cropOnShare 21 = .ok (.aload_n 1, 1)) ∧ (decode cX3_cropOnShare 22 = .ok (.getfield 65, 3)) ∧ (decode cX3_cropOnShare 25 = .ok (.iload_n 2, 1)) ∧ (decode cX3_cropOnShare 26 = .ok (.iaload, 1)) ∧ (decode cX3_cropOnShare 27 = .ok (.aload_n 1, 1)) ∧ (decode cX3_cropOnShare 28 = .ok (.getfield 114, 3)) ∧ (decode cX3_cropOnShare 31 = .ok (.invokevirtual 117, 3)) := by decide +kernel
theorem dX3_cropOnShare_16 : decode cX3_cropOnShare 16 = .ok (.aload_n 1, 1) := bdX3_cropOnShare_16.1
theorem dX3_cropOnShare_17 : decode cX3_cropOnShare 17 = .ok (.iload_n 2, 1) := bdX3_cropOnShare_16.2.1
theorem dX3_cropOnShare_18 : decode cX3_cropOnShare 18 = .ok (.invokevirtual 26, 3) := bdX3_cropOnShare_16.2.2.1
theorem dX3_cropOnShare_21 : decode cX3_cropOnShare 21 = .ok (.aload_n 1, 1) := bdX3_cropOnShare_16.2.2.2.1
theorem dX3_cropOnShare_22 : decode cX3_cropOnShare 22 = .ok (.getfield 65, 3) := bdX3_cropOnShare_16.2.2.2.2.1
theorem dX3_cropOnShare_25 : decode cX3_cropOnShare 25 = .ok (.iload_n 2, 1) := bdX3_cropOnShare_16.2.2.2.2.2.1
theorem dX3_cropOnShare_26 : decode cX3_cropOnShare 26 = .ok (.iaload, 1) := bdX3_cropOnShare_16.2.2.2.2.2.2.1
theorem dX3_cropOnShare_27 : decode cX3_cropOnShare 27 = .ok (.aload_n 1, 1) := bdX3_cropOnShare_16.2.2.2.2.2.2.2.1
theorem dX3_cropOnShare_28 : decode cX3_cropOnShare 28 = .ok (.getfield 114, 3) := bdX3_cropOnShare_16.2.2.2.2.2.2.2.2.1
theorem dX3_cropOnShare_31 : decode cX3_cropOnShare 31 = .ok (.invokevirtual 117, 3) := bdX3_cropOnShare_16.2.2.2.2.2.2.2.2.2
theorem bdX3_cropOnShare_34 : (decode cX3_cropOnShare 34 = .ok (.ireturn, 1)) := by decide +kernel
theorem dX3_cropOnShare_34 : decode cX3_cropOnShare 34 = .ok (.ireturn, 1) := bdX3_cropOnShare_34
theorem bdX3_takeShares_0 : (decode cX3_takeShares 0 = .ok (.aload_n 0, 1)) ∧ (decode cX3_takeShares 1 = .ok (.invokevirtual 121, 3)) ∧ (decode cX3_takeShares 4 = .ok (.istore_n 3, 1)) ∧ (decode cX3_takeShares 5 = .ok (.iconst 0, 1)) ∧ (decode cX3_takeShares 6 = .ok (.istore 4, 2)) ∧ (decode cX3_takeShares 8 = .ok (.iload 4, 2)) ∧ (decode cX3_takeShares 10 = .ok (.aload_n 0, 1)) ∧ (decode cX3_takeShares 11 = .ok (.getfield 18, 3)) ∧ (decode cX3_takeShares 14 = .ok (.getfield 38, 3)) ∧ (decode cX3_takeShares 17 = .ok (.if_icmp .ge 76, 3)) := by decide +kernel
theorem dX3_takeShares_0 : decode cX3_takeShares 0 = .ok (.aload_n 0, 1) := bdX3_takeShares_0.1
theorem dX3_takeShares_1 : decode cX3_takeShares 1 = .ok (.invokevirtual 121, 3) := bdX3_takeShares_0.2.1
theorem dX3_takeShares_4 : decode cX3_takeShares 4 = .ok (.istore_n 3, 1) := bdX3_takeShares_0.2.2.1
theorem dX3_takeShares_5 : decode cX3_takeShares 5 = .ok (.iconst 0, 1) := bdX3_takeShares_0.2.2.2.1
theorem dX3_takeShares_6 : decode cX3_takeShares 6 = .ok (.istore 4, 2) := bdX3_takeShares_0.2.2.2.2.1
theorem dX3_takeShares_8 : decode cX3_takeShares 8 = .ok (.iload 4, 2) := bdX3_takeShares_0.2.2.2.2.2.1
theorem dX3_takeShares_10 : decode cX3_takeShares 10 = .ok (.aload_n 0, 1) := bdX3_takeShares_0.2.2.2.2.2.2.1
theorem dX3_takeShares_11 : decode cX3_takeShares 11 = .ok (.getfield 18, 3) := bdX3_takeShares_0.2.2.2.2.2.2.2.1
theorem dX3_takeShares_14 : decode cX3_takeShares 14 = .ok (.getfield 38, 3) := bdX3_takeShares_0.2.2.2.2.2.2.2.2.1
theorem dX3_takeShares_17 : decode cX3_takeShares 17 = .ok (.if_icmp .ge 76, 3) := bdX3_takeShares_0.2.2.2.2.2.2.2.2.2
theorem bdX3_takeShares_20 : (decode cX3_takeShares 20 = .ok (.aload_n 1, 1)) ∧ (decode cX3_takeShares 21 = .ok (.iload 4, 2)) ∧ (decode cX3_takeShares 23 = .ok (.invokevirtual 125, 3)) ∧ (decode cX3_takeShares 26 = .ok (.istore 5, 2)) ∧ (decode cX3_takeShares 28 = .ok (.iload 5, 2)) ∧ (decode cX3_takeShares 30 = .ok (.iconst (-1), 1)) ∧ (decode cX3_takeShares 31 = .ok (.if_icmp .ne 6, 3)) ∧ (decode cX3_takeShares 34 = .ok (.goto 53, 3)) ∧ (decode cX3_takeShares 37 = .ok (.aload_n 1, 1)) ∧ (decode cX3_takeShares 38 = .ok (.getfield 65, 3)) := by decide +kernel
theorem dX3_takeShares_20 : decode cX3_takeShares 20 = .ok (.aload_n 1, 1) := bdX3_takeShares_20.1
theorem dX3_takeShares_21 : decode cX3_takeShares 21 = .ok (.iload 4, 2) := bdX3_takeShares_20.2.1
theorem dX3_takeShares_23 : decode cX3_takeShares 23 = .ok (.invokevirtual 125, 3) := bdX3_takeShares_20.2.2.1
theorem dX3_takeShares_26 : decode cX3_takeShares 26 = .ok (.istore 5, 2) := bdX3_takeShares_20.2.2.2.1
theorem dX3_takeShares_28 : decode cX3_takeShares 28 = .ok (.iload 5, 2) := bdX3_takeShares_20.2.2.2.2.1
theorem dX3_takeShares_30 : decode cX3_takeShares 30 = .ok (.iconst (-1), 1) := bdX3_takeShares_20.2.2.2.2.2.1
theorem dX3_takeShares_31 : decode cX3_takeShares 31 = .ok (.if_icmp .ne 6, 3) := bdX3_takeShares_20.2.2.2.2.2.2.1
theorem dX3_takeShares_34 : decode cX3_takeShares 34 = .ok (.goto 53, 3) := bdX3_takeShares_20.2.2.2.2.2.2.2.1
theorem dX3_takeShares_37 : decode cX3_takeShares 37 = .ok (.aload_n 1, 1) := bdX3_takeShares_20.2.2.2.2.2.2.2.2.1
theorem dX3_takeShares_38 : decode cX3_takeShares 38 = .ok (.getfield 65, 3) := bdX3_takeShares_20.2.2.2.2.2.2.2.2.2
theorem bdX3_takeShares_41 : (decode cX3_takeShares 41 = .ok (.iload 5, 2)) ∧ (decode cX3_takeShares 43 = .ok (.iload 5, 2)) ∧ (decode cX3_takeShares 45 = .ok (.iload_n 2, 1)) ∧ (decode cX3_takeShares 46 = .ok (.if_icmp .ne 7, 3)) ∧ (decode cX3_takeShares 49 = .ok (.iconst (-1), 1)) ∧ (decode cX3_takeShares 50 = .ok (.goto 11, 3)) ∧ (decode cX3_takeShares 53 = .ok (.aload_n 0, 1)) ∧ (decode cX3_takeShares 54 = .ok (.aload_n 1, 1)) ∧ (decode cX3_takeShares 55 = .ok (.iload 5, 2)) ∧ (decode cX3_takeShares 57 = .ok (.iload_n 3, 1)) := by decide +kernel
theorem dX3_takeShares_41 : decode cX3_takeShares 41 = .ok (.iload 5, 2) := bdX3_takeShares_41.1
theorem dX3_takeShares_43 : decode cX3_takeShares 43 = .ok (.iload 5, 2) := bdX3_takeShares_41.2.1
theorem dX3_takeShares_45 : decode cX3_takeShares 45 = .ok (.iload_n 2, 1) := bdX3_takeShares_41.2.2.1
theorem dX3_takeShares_46 : decode cX3_takeShares 46 = .ok (.if_icmp .ne 7, 3) := bdX3_takeShares_41.2.2.2.1
theorem dX3_takeShares_49 : decode cX3_takeShares 49 = .ok (.iconst (-1), 1) := bdX3_takeShares_41.2.2.2.2.1
theorem dX3_takeShares_50 : decode cX3_takeShares 50 = .ok (.goto 11, 3) := bdX3_takeShares_41.2.2.2.2.2.1
theorem dX3_takeShares_53 : decode cX3_takeShares 53 = .ok (.aload_n 0, 1) := bdX3_takeShares_41.2.2.2.2.2.2.1
theorem dX3_takeShares_54 : decode cX3_takeShares 54 = .ok (.aload_n 1, 1) := bdX3_takeShares_41.2.2.2.2.2.2.2.1
theorem dX3_takeShares_55 : decode cX3_takeShares 55 = .ok (.iload 5, 2) := bdX3_takeShares_41.2.2.2.2.2.2.2.2.1
theorem dX3_takeShares_57 : decode cX3_takeShares 57 = .ok (.iload_n 3, 1) := bdX3_takeShares_41.2.2.2.2.2.2.2.2.2
theorem bdX3_takeShares_58 : (decode cX3_takeShares 58 = .ok (.invokevirtual 128, 3)) ∧ (decode cX3_takeShares 61 = .ok (.iastore, 1)) ∧ (decode cX3_takeShares 62 = .ok (.aload_n 1, 1)) ∧ (decode cX3_takeShares 63 = .ok (.getfield 65, 3)) ∧ (decode cX3_takeShares 66 = .ok (.iload 5, 2)) ∧ (decode cX3_takeShares 68 = .ok (.iaload, 1)) ∧ (decode cX3_takeShares 69 = .ok (.iconst (-1), 1)) ∧ (decode cX3_takeShares 70 = .ok (.if_icmp .eq 17, 3)) ∧ (decode cX3_takeShares 73 = .ok (.iload_n 3, 1)) ∧ (decode cX3_takeShares 74 = .ok (.iconst 1, 1)) := by decide +kernel
theorem dX3_takeShares_58 : decode cX3_takeShares 58 = .ok (.invokevirtual 128, 3) := bdX3_takeShares_58.1
theorem dX3_takeShares_61 : decode cX3_takeShares 61 = .ok (.iastore, 1) := bdX3_takeShares_58.2.1
theorem dX3_takeShares_62 : decode cX3_takeShares 62 = .ok (.aload_n 1, 1) := bdX3_takeShares_58.2.2.1
theorem dX3_takeShares_63 : decode cX3_takeShares 63 = .ok (.getfield 65, 3) := bdX3_takeShares_58.2.2.2.1
theorem dX3_takeShares_66 : decode cX3_takeShares 66 = .ok (.iload 5, 2) := bdX3_takeShares_58.2.2.2.2.1
theorem dX3_takeShares_68 : decode cX3_takeShares 68 = .ok (.iaload, 1) := bdX3_takeShares_58.2.2.2.2.2.1
theorem dX3_takeShares_69 : decode cX3_takeShares 69 = .ok (.iconst (-1), 1) := bdX3_takeShares_58.2.2.2.2.2.2.1
theorem dX3_takeShares_70 : decode cX3_takeShares 70 = .ok (.if_icmp .eq 17, 3) := bdX3_takeShares_58.2.2.2.2.2.2.2.1
theorem dX3_takeShares_73 : decode cX3_takeShares 73 = .ok (.iload_n 3, 1) := bdX3_takeShares_58.2.2.2.2.2.2.2.2.1
theorem dX3_takeShares_74 : decode cX3_takeShares 74 = .ok (.iconst 1, 1) := bdX3_takeShares_58.2.2.2.2.2.2.2.2.2
theorem bdX3_takeShares_75 : (decode cX3_takeShares 75 = .ok (.aload_n 1, 1)) ∧ (decode cX3_takeShares 76 = .ok (.getfield 65, 3)) ∧ (decode cX3_takeShares 79 = .ok (.iload 5, 2)) ∧ (decode cX3_takeShares 81 = .ok (.iaload, 1)) ∧ (decode cX3_takeShares 82 = .ok (.ishl, 1)) ∧ (decode cX3_takeShares 83 = .ok (.iconst (-1), 1)) ∧ (decode cX3_takeShares 84 = .ok (.ixor, 1)) ∧ (decode cX3_takeShares 85 = .ok (.iand, 1)) ∧ (decode cX3_takeShares 86 = .ok (.istore_n 3, 1)) ∧ (decode cX3_takeShares 87 = .ok (.iinc 4 1, 3)) := by decide +kernel
theorem dX3_takeShares_75 : decode cX3_takeShares 75 = .ok (.aload_n 1, 1) := bdX3_takeShares_75.1
theorem dX3_takeShares_76 : decode cX3_takeShares 76 = .ok (.getfield 65, 3) := bdX3_takeShares_75.2.1
theorem dX3_takeShares_79 : decode cX3_takeShares 79 = .ok (.iload 5, 2) := bdX3_takeShares_75.2.2.1
theorem dX3_takeShares_81 : decode cX3_takeShares 81 = .ok (.iaload, 1) := bdX3_takeShares_75.2.2.2.1
theorem dX3_takeShares_82 : decode cX3_takeShares 82 = .ok (.ishl, 1) := bdX3_takeShares_75.2.2.2.2.1
theorem dX3_takeShares_83 : decode cX3_takeShares 83 = .ok (.iconst (-1), 1) := bdX3_takeShares_75.2.2.2.2.2.1
theorem dX3_takeShares_84 : decode cX3_takeShares 84 = .ok (.ixor, 1) := bdX3_takeShares_75.2.2.2.2.2.2.1
theorem dX3_takeShares_85 : decode cX3_takeShares 85 = .ok (.iand, 1) := bdX3_takeShares_75.2.2.2.2.2.2.2.1
theorem dX3_takeShares_86 : decode cX3_takeShares 86 = .ok (.istore_n 3, 1) := bdX3_takeShares_75.2.2.2.2.2.2.2.2.1
theorem dX3_takeShares_87 : decode cX3_takeShares 87 = .ok (.iinc 4 1, 3) := bdX3_takeShares_75.2.2.2.2.2.2.2.2.2
theorem bdX3_takeShares_90 : (decode cX3_takeShares 90 = .ok (.goto (-82), 3)) ∧ (decode cX3_takeShares 93 = .ok (.return_, 1)) := by decide +kernel
theorem dX3_takeShares_90 : decode cX3_takeShares 90 = .ok (.goto (-82), 3) := bdX3_takeShares_90.1
theorem dX3_takeShares_93 : decode cX3_takeShares 93 = .ok (.return_, 1) := bdX3_takeShares_90.2
theorem bdX3_allPlots_0 : (decode cX3_allPlots 0 = .ok (.iconst 1, 1)) ∧ (decode cX3_allPlots 1 = .ok (.aload_n 0, 1)) ∧ (decode cX3_allPlots 2 = .ok (.getfield 18, 3)) ∧ (decode cX3_allPlots 5 = .ok (.getfield 131, 3)) ∧ (decode cX3_allPlots 8 = .ok (.ishl, 1)) ∧ (decode cX3_allPlots 9 = .ok (.iconst 1, 1)) ∧ (decode cX3_allPlots 10 = .ok (.isub, 1)) ∧ (decode cX3_allPlots 11 = .ok (.ireturn, 1)) := by decide +kernel
theorem dX3_allPlots_0 : decode cX3_allPlots 0 = .ok (.iconst 1, 1) := bdX3_allPlots_0.1
theorem dX3_allPlots_1 : decode cX3_allPlots 1 = .ok (.aload_n 0, 1) := bdX3_allPlots_0.2.1
theorem dX3_allPlots_2 : decode cX3_allPlots 2 = .ok (.getfield 18, 3) := bdX3_allPlots_0.2.2.1
theorem dX3_allPlots_5 : decode cX3_allPlots 5 = .ok (.getfield 131, 3) := bdX3_allPlots_0.2.2.2.1
theorem dX3_allPlots_8 : decode cX3_allPlots 8 = .ok (.ishl, 1) := bdX3_allPlots_0.2.2.2.2.1
theorem dX3_allPlots_9 : decode cX3_allPlots 9 = .ok (.iconst 1, 1) := bdX3_allPlots_0.2.2.2.2.2.1
theorem dX3_allPlots_10 : decode cX3_allPlots 10 = .ok (.isub, 1) := bdX3_allPlots_0.2.2.2.2.2.2.1
theorem dX3_allPlots_11 : decode cX3_allPlots 11 = .ok (.ireturn, 1) := bdX3_allPlots_0.2.2.2.2.2.2.2
theorem bdX3_dearest_0 : (decode cX3_dearest 0 = .ok (.iconst (-1), 1)) ∧ (decode cX3_dearest 1 = .ok (.istore 4, 2)) ∧ (decode cX3_dearest 3 = .ok (.iconst 0, 1)) ∧ (decode cX3_dearest 4 = .ok (.istore 5, 2)) ∧ (decode cX3_dearest 6 = .ok (.iconst 0, 1)) ∧ (decode cX3_dearest 7 = .ok (.istore 6, 2)) ∧ (decode cX3_dearest 9 = .ok (.iload 6, 2)) ∧ (decode cX3_dearest 11 = .ok (.aload_n 0, 1)) ∧ (decode cX3_dearest 12 = .ok (.getfield 18, 3)) ∧ (decode cX3_dearest 15 = .ok (.getfield 131, 3)) := by decide +kernel
theorem dX3_dearest_0 : decode cX3_dearest 0 = .ok (.iconst (-1), 1) := bdX3_dearest_0.1
theorem dX3_dearest_1 : decode cX3_dearest 1 = .ok (.istore 4, 2) := bdX3_dearest_0.2.1
theorem dX3_dearest_3 : decode cX3_dearest 3 = .ok (.iconst 0, 1) := bdX3_dearest_0.2.2.1
theorem dX3_dearest_4 : decode cX3_dearest 4 = .ok (.istore 5, 2) := bdX3_dearest_0.2.2.2.1
theorem dX3_dearest_6 : decode cX3_dearest 6 = .ok (.iconst 0, 1) := bdX3_dearest_0.2.2.2.2.1
theorem dX3_dearest_7 : decode cX3_dearest 7 = .ok (.istore 6, 2) := bdX3_dearest_0.2.2.2.2.2.1
theorem dX3_dearest_9 : decode cX3_dearest 9 = .ok (.iload 6, 2) := bdX3_dearest_0.2.2.2.2.2.2.1
theorem dX3_dearest_11 : decode cX3_dearest 11 = .ok (.aload_n 0, 1) := bdX3_dearest_0.2.2.2.2.2.2.2.1
theorem dX3_dearest_12 : decode cX3_dearest 12 = .ok (.getfield 18, 3) := bdX3_dearest_0.2.2.2.2.2.2.2.2.1
theorem dX3_dearest_15 : decode cX3_dearest 15 = .ok (.getfield 131, 3) := bdX3_dearest_0.2.2.2.2.2.2.2.2.2
theorem bdX3_dearest_18 : (decode cX3_dearest 18 = .ok (.if_icmp .ge 52, 3)) ∧ (decode cX3_dearest 21 = .ok (.iload_n 3, 1)) ∧ (decode cX3_dearest 22 = .ok (.iload 6, 2)) ∧ (decode cX3_dearest 24 = .ok (.ishr, 1)) ∧ (decode cX3_dearest 25 = .ok (.iconst 1, 1)) ∧ (decode cX3_dearest 26 = .ok (.iand, 1)) ∧ (decode cX3_dearest 27 = .ok (.ifCond .ne 6, 3)) ∧ (decode cX3_dearest 30 = .ok (.goto 34, 3)) ∧ (decode cX3_dearest 33 = .ok (.aload_n 0, 1)) ∧ (decode cX3_dearest 34 = .ok (.aload_n 1, 1)) := by decide +kernel
theorem dX3_dearest_18 : decode cX3_dearest 18 = .ok (.if_icmp .ge 52, 3) := bdX3_dearest_18.1
theorem dX3_dearest_21 : decode cX3_dearest 21 = .ok (.iload_n 3, 1) := bdX3_dearest_18.2.1
theorem dX3_dearest_22 : decode cX3_dearest 22 = .ok (.iload 6, 2) := bdX3_dearest_18.2.2.1
theorem dX3_dearest_24 : decode cX3_dearest 24 = .ok (.ishr, 1) := bdX3_dearest_18.2.2.2.1
theorem dX3_dearest_25 : decode cX3_dearest 25 = .ok (.iconst 1, 1) := bdX3_dearest_18.2.2.2.2.1
theorem dX3_dearest_26 : decode cX3_dearest 26 = .ok (.iand, 1) := bdX3_dearest_18.2.2.2.2.2.1
theorem dX3_dearest_27 : decode cX3_dearest 27 = .ok (.ifCond .ne 6, 3) := bdX3_dearest_18.2.2.2.2.2.2.1
theorem dX3_dearest_30 : decode cX3_dearest 30 = .ok (.goto 34, 3) := bdX3_dearest_18.2.2.2.2.2.2.2.1
theorem dX3_dearest_33 : decode cX3_dearest 33 = .ok (.aload_n 0, 1) := bdX3_dearest_18.2.2.2.2.2.2.2.2.1
theorem dX3_dearest_34 : decode cX3_dearest 34 = .ok (.aload_n 1, 1) := bdX3_dearest_18.2.2.2.2.2.2.2.2.2
theorem bdX3_dearest_35 : (decode cX3_dearest 35 = .ok (.iload_n 2, 1)) ∧ (decode cX3_dearest 36 = .ok (.iload 6, 2)) ∧ (decode cX3_dearest 38 = .ok (.invokevirtual 97, 3)) ∧ (decode cX3_dearest 41 = .ok (.istore 7, 2)) ∧ (decode cX3_dearest 43 = .ok (.iload 4, 2)) ∧ (decode cX3_dearest 45 = .ok (.iconst (-1), 1)) ∧ (decode cX3_dearest 46 = .ok (.if_icmp .eq 10, 3)) ∧ (decode cX3_dearest 49 = .ok (.iload 7, 2)) ∧ (decode cX3_dearest 51 = .ok (.iload 5, 2)) ∧ (decode cX3_dearest 53 = .ok (.if_icmp .le 11, 3)) := by decide +kernel
theorem dX3_dearest_35 : decode cX3_dearest 35 = .ok (.iload_n 2, 1) := bdX3_dearest_35.1
theorem dX3_dearest_36 : decode cX3_dearest 36 = .ok (.iload 6, 2) := bdX3_dearest_35.2.1
theorem dX3_dearest_38 : decode cX3_dearest 38 = .ok (.invokevirtual 97, 3) := bdX3_dearest_35.2.2.1
theorem dX3_dearest_41 : decode cX3_dearest 41 = .ok (.istore 7, 2) := bdX3_dearest_35.2.2.2.1
theorem dX3_dearest_43 : decode cX3_dearest 43 = .ok (.iload 4, 2) := bdX3_dearest_35.2.2.2.2.1
theorem dX3_dearest_45 : decode cX3_dearest 45 = .ok (.iconst (-1), 1) := bdX3_dearest_35.2.2.2.2.2.1
theorem dX3_dearest_46 : decode cX3_dearest 46 = .ok (.if_icmp .eq 10, 3) := bdX3_dearest_35.2.2.2.2.2.2.1
theorem dX3_dearest_49 : decode cX3_dearest 49 = .ok (.iload 7, 2) := bdX3_dearest_35.2.2.2.2.2.2.2.1
theorem dX3_dearest_51 : decode cX3_dearest 51 = .ok (.iload 5, 2) := bdX3_dearest_35.2.2.2.2.2.2.2.2.1
theorem dX3_dearest_53 : decode cX3_dearest 53 = .ok (.if_icmp .le 11, 3) := bdX3_dearest_35.2.2.2.2.2.2.2.2.2
theorem bdX3_dearest_56 : (decode cX3_dearest 56 = .ok (.iload 6, 2)) ∧ (decode cX3_dearest 58 = .ok (.istore 4, 2)) ∧ (decode cX3_dearest 60 = .ok (.iload 7, 2)) ∧ (decode cX3_dearest 62 = .ok (.istore 5, 2)) ∧ (decode cX3_dearest 64 = .ok (.iinc 6 1, 3)) ∧ (decode cX3_dearest 67 = .ok (.goto (-58), 3)) ∧ (decode cX3_dearest 70 = .ok (.iload 4, 2)) ∧ (decode cX3_dearest 72 = .ok (.ireturn, 1)) := by decide +kernel
theorem dX3_dearest_56 : decode cX3_dearest 56 = .ok (.iload 6, 2) := bdX3_dearest_56.1
theorem dX3_dearest_58 : decode cX3_dearest 58 = .ok (.istore 4, 2) := bdX3_dearest_56.2.1
theorem dX3_dearest_60 : decode cX3_dearest 60 = .ok (.iload 7, 2) := bdX3_dearest_56.2.2.1
theorem dX3_dearest_62 : decode cX3_dearest 62 = .ok (.istore 5, 2) := bdX3_dearest_56.2.2.2.1
theorem dX3_dearest_64 : decode cX3_dearest 64 = .ok (.iinc 6 1, 3) := bdX3_dearest_56.2.2.2.2.1
theorem dX3_dearest_67 : decode cX3_dearest 67 = .ok (.goto (-58), 3) := bdX3_dearest_56.2.2.2.2.2.1
theorem dX3_dearest_70 : decode cX3_dearest 70 = .ok (.iload 4, 2) := bdX3_dearest_56.2.2.2.2.2.2.1
theorem dX3_dearest_72 : decode cX3_dearest 72 = .ok (.ireturn, 1) := bdX3_dearest_56.2.2.2.2.2.2.2
theorem bdX3_ownerOf_0 : (decode cX3_ownerOf 0 = .ok (.iconst 0, 1)) ∧ (decode cX3_ownerOf 1 = .ok (.istore_n 3, 1)) ∧ (decode cX3_ownerOf 2 = .ok (.iload_n 3, 1)) ∧ (decode cX3_ownerOf 3 = .ok (.aload_n 0, 1)) ∧ (decode cX3_ownerOf 4 = .ok (.getfield 18, 3)) ∧ (decode cX3_ownerOf 7 = .ok (.getfield 38, 3)) ∧ (decode cX3_ownerOf 10 = .ok (.if_icmp .ge 21, 3)) ∧ (decode cX3_ownerOf 13 = .ok (.aload_n 1, 1)) ∧ (decode cX3_ownerOf 14 = .ok (.getfield 65, 3)) ∧ (decode cX3_ownerOf 17 = .ok (.iload_n 3, 1)) := by decide +kernel
theorem dX3_ownerOf_0 : decode cX3_ownerOf 0 = .ok (.iconst 0, 1) := bdX3_ownerOf_0.1
theorem dX3_ownerOf_1 : decode cX3_ownerOf 1 = .ok (.istore_n 3, 1) := bdX3_ownerOf_0.2.1
theorem dX3_ownerOf_2 : decode cX3_ownerOf 2 = .ok (.iload_n 3, 1) := bdX3_ownerOf_0.2.2.1
theorem dX3_ownerOf_3 : decode cX3_ownerOf 3 = .ok (.aload_n 0, 1) := bdX3_ownerOf_0.2.2.2.1
theorem dX3_ownerOf_4 : decode cX3_ownerOf 4 = .ok (.getfield 18, 3) := bdX3_ownerOf_0.2.2.2.2.1
theorem dX3_ownerOf_7 : decode cX3_ownerOf 7 = .ok (.getfield 38, 3) := bdX3_ownerOf_0.2.2.2.2.2.1
theorem dX3_ownerOf_10 : decode cX3_ownerOf 10 = .ok (.if_icmp .ge 21, 3) := bdX3_ownerOf_0.2.2.2.2.2.2.1
theorem dX3_ownerOf_13 : decode cX3_ownerOf 13 = .ok (.aload_n 1, 1) := bdX3_ownerOf_0.2.2.2.2.2.2.2.1
theorem dX3_ownerOf_14 : decode cX3_ownerOf 14 = .ok (.getfield 65, 3) := bdX3_ownerOf_0.2.2.2.2.2.2.2.2.1
theorem dX3_ownerOf_17 : decode cX3_ownerOf 17 = .ok (.iload_n 3, 1) := bdX3_ownerOf_0.2.2.2.2.2.2.2.2.2
theorem bdX3_ownerOf_18 : (decode cX3_ownerOf 18 = .ok (.iaload, 1)) ∧ (decode cX3_ownerOf 19 = .ok (.iload_n 2, 1)) ∧ (decode cX3_ownerOf 20 = .ok (.if_icmp .ne 5, 3)) ∧ (decode cX3_ownerOf 23 = .ok (.iload_n 3, 1)) ∧ (decode cX3_ownerOf 24 = .ok (.ireturn, 1)) ∧ (decode cX3_ownerOf 25 = .ok (.iinc 3 1, 3)) ∧ (decode cX3_ownerOf 28 = .ok (.goto (-26), 3)) ∧ (decode cX3_ownerOf 31 = .ok (.iconst (-1), 1)) ∧ (decode cX3_ownerOf 32 = .ok (.ireturn, 1)) := by decide +kernel
theorem dX3_ownerOf_18 : decode cX3_ownerOf 18 = .ok (.iaload, 1) := bdX3_ownerOf_18.1
theorem dX3_ownerOf_19 : decode cX3_ownerOf 19 = .ok (.iload_n 2, 1) := bdX3_ownerOf_18.2.1
theorem dX3_ownerOf_20 : decode cX3_ownerOf 20 = .ok (.if_icmp .ne 5, 3) := bdX3_ownerOf_18.2.2.1
theorem dX3_ownerOf_23 : decode cX3_ownerOf 23 = .ok (.iload_n 3, 1) := bdX3_ownerOf_18.2.2.2.1
theorem dX3_ownerOf_24 : decode cX3_ownerOf 24 = .ok (.ireturn, 1) := bdX3_ownerOf_18.2.2.2.2.1
theorem dX3_ownerOf_25 : decode cX3_ownerOf 25 = .ok (.iinc 3 1, 3) := bdX3_ownerOf_18.2.2.2.2.2.1
theorem dX3_ownerOf_28 : decode cX3_ownerOf 28 = .ok (.goto (-26), 3) := bdX3_ownerOf_18.2.2.2.2.2.2.1
theorem dX3_ownerOf_31 : decode cX3_ownerOf 31 = .ok (.iconst (-1), 1) := bdX3_ownerOf_18.2.2.2.2.2.2.2.1
theorem dX3_ownerOf_32 : decode cX3_ownerOf 32 = .ok (.ireturn, 1) := bdX3_ownerOf_18.2.2.2.2.2.2.2.2
theorem bdX3_plotsLeft_0 : (decode cX3_plotsLeft 0 = .ok (.aload_n 0, 1)) ∧ (decode cX3_plotsLeft 1 = .ok (.invokevirtual 121, 3)) ∧ (decode cX3_plotsLeft 4 = .ok (.istore_n 2, 1)) ∧ (decode cX3_plotsLeft 5 = .ok (.iconst 0, 1)) ∧ (decode cX3_plotsLeft 6 = .ok (.istore_n 3, 1)) ∧ (decode cX3_plotsLeft 7 = .ok (.iload_n 3, 1)) ∧ (decode cX3_plotsLeft 8 = .ok (.aload_n 0, 1)) ∧ (decode cX3_plotsLeft 9 = .ok (.getfield 18, 3)) ∧ (decode cX3_plotsLeft 12 = .ok (.getfield 38, 3)) ∧ (decode cX3_plotsLeft 15 = .ok (.if_icmp .ge 32, 3)) := by decide +kernel
theorem dX3_plotsLeft_0 : decode cX3_plotsLeft 0 = .ok (.aload_n 0, 1) := bdX3_plotsLeft_0.1
theorem dX3_plotsLeft_1 : decode cX3_plotsLeft 1 = .ok (.invokevirtual 121, 3) := bdX3_plotsLeft_0.2.1
theorem dX3_plotsLeft_4 : decode cX3_plotsLeft 4 = .ok (.istore_n 2, 1) := bdX3_plotsLeft_0.2.2.1
theorem dX3_plotsLeft_5 : decode cX3_plotsLeft 5 = .ok (.iconst 0, 1) := bdX3_plotsLeft_0.2.2.2.1
theorem dX3_plotsLeft_6 : decode cX3_plotsLeft 6 = .ok (.istore_n 3, 1) := bdX3_plotsLeft_0.2.2.2.2.1
theorem dX3_plotsLeft_7 : decode cX3_plotsLeft 7 = .ok (.iload_n 3, 1) := bdX3_plotsLeft_0.2.2.2.2.2.1
theorem dX3_plotsLeft_8 : decode cX3_plotsLeft 8 = .ok (.aload_n 0, 1) := bdX3_plotsLeft_0.2.2.2.2.2.2.1
theorem dX3_plotsLeft_9 : decode cX3_plotsLeft 9 = .ok (.getfield 18, 3) := bdX3_plotsLeft_0.2.2.2.2.2.2.2.1
theorem dX3_plotsLeft_12 : decode cX3_plotsLeft 12 = .ok (.getfield 38, 3) := bdX3_plotsLeft_0.2.2.2.2.2.2.2.2.1
theorem dX3_plotsLeft_15 : decode cX3_plotsLeft 15 = .ok (.if_icmp .ge 32, 3) := bdX3_plotsLeft_0.2.2.2.2.2.2.2.2.2
theorem bdX3_plotsLeft_18 : (decode cX3_plotsLeft 18 = .ok (.aload_n 1, 1)) ∧ (decode cX3_plotsLeft 19 = .ok (.getfield 65, 3)) ∧ (decode cX3_plotsLeft 22 = .ok (.iload_n 3, 1)) ∧ (decode cX3_plotsLeft 23 = .ok (.iaload, 1)) ∧ (decode cX3_plotsLeft 24 = .ok (.iconst (-1), 1)) ∧ (decode cX3_plotsLeft 25 = .ok (.if_icmp .eq 16, 3)) ∧ (decode cX3_plotsLeft 28 = .ok (.iload_n 2, 1)) ∧ (decode cX3_plotsLeft 29 = .ok (.iconst 1, 1)) ∧ (decode cX3_plotsLeft 30 = .ok (.aload_n 1, 1)) ∧ (decode cX3_plotsLeft 31 = .ok (.getfield 65, 3)) := by decide +kernel
theorem dX3_plotsLeft_18 : decode cX3_plotsLeft 18 = .ok (.aload_n 1, 1) := bdX3_plotsLeft_18.1
theorem dX3_plotsLeft_19 : decode cX3_plotsLeft 19 = .ok (.getfield 65, 3) := bdX3_plotsLeft_18.2.1
theorem dX3_plotsLeft_22 : decode cX3_plotsLeft 22 = .ok (.iload_n 3, 1) := bdX3_plotsLeft_18.2.2.1
theorem dX3_plotsLeft_23 : decode cX3_plotsLeft 23 = .ok (.iaload, 1) := bdX3_plotsLeft_18.2.2.2.1
theorem dX3_plotsLeft_24 : decode cX3_plotsLeft 24 = .ok (.iconst (-1), 1) := bdX3_plotsLeft_18.2.2.2.2.1
theorem dX3_plotsLeft_25 : decode cX3_plotsLeft 25 = .ok (.if_icmp .eq 16, 3) := bdX3_plotsLeft_18.2.2.2.2.2.1
theorem dX3_plotsLeft_28 : decode cX3_plotsLeft 28 = .ok (.iload_n 2, 1) := bdX3_plotsLeft_18.2.2.2.2.2.2.1
theorem dX3_plotsLeft_29 : decode cX3_plotsLeft 29 = .ok (.iconst 1, 1) := bdX3_plotsLeft_18.2.2.2.2.2.2.2.1
theorem dX3_plotsLeft_30 : decode cX3_plotsLeft 30 = .ok (.aload_n 1, 1) := bdX3_plotsLeft_18.2.2.2.2.2.2.2.2.1
theorem dX3_plotsLeft_31 : decode cX3_plotsLeft 31 = .ok (.getfield 65, 3) := bdX3_plotsLeft_18.2.2.2.2.2.2.2.2.2
theorem bdX3_plotsLeft_34 : (decode cX3_plotsLeft 34 = .ok (.iload_n 3, 1)) ∧ (decode cX3_plotsLeft 35 = .ok (.iaload, 1)) ∧ (decode cX3_plotsLeft 36 = .ok (.ishl, 1)) ∧ (decode cX3_plotsLeft 37 = .ok (.iconst (-1), 1)) ∧ (decode cX3_plotsLeft 38 = .ok (.ixor, 1)) ∧ (decode cX3_plotsLeft 39 = .ok (.iand, 1)) ∧ (decode cX3_plotsLeft 40 = .ok (.istore_n 2, 1)) ∧ (decode cX3_plotsLeft 41 = .ok (.iinc 3 1, 3)) ∧ (decode cX3_plotsLeft 44 = .ok (.goto (-37), 3)) ∧ (decode cX3_plotsLeft 47 = .ok (.iload_n 2, 1)) := by decide +kernel
theorem dX3_plotsLeft_34 : decode cX3_plotsLeft 34 = .ok (.iload_n 3, 1) := bdX3_plotsLeft_34.1
theorem dX3_plotsLeft_35 : decode cX3_plotsLeft 35 = .ok (.iaload, 1) := bdX3_plotsLeft_34.2.1
theorem dX3_plotsLeft_36 : decode cX3_plotsLeft 36 = .ok (.ishl, 1) := bdX3_plotsLeft_34.2.2.1
theorem dX3_plotsLeft_37 : decode cX3_plotsLeft 37 = .ok (.iconst (-1), 1) := bdX3_plotsLeft_34.2.2.2.1
theorem dX3_plotsLeft_38 : decode cX3_plotsLeft 38 = .ok (.ixor, 1) := bdX3_plotsLeft_34.2.2.2.2.1
theorem dX3_plotsLeft_39 : decode cX3_plotsLeft 39 = .ok (.iand, 1) := bdX3_plotsLeft_34.2.2.2.2.2.1
theorem dX3_plotsLeft_40 : decode cX3_plotsLeft 40 = .ok (.istore_n 2, 1) := bdX3_plotsLeft_34.2.2.2.2.2.2.1
theorem dX3_plotsLeft_41 : decode cX3_plotsLeft 41 = .ok (.iinc 3 1, 3) := bdX3_plotsLeft_34.2.2.2.2.2.2.2.1
theorem dX3_plotsLeft_44 : decode cX3_plotsLeft 44 = .ok (.goto (-37), 3) := bdX3_plotsLeft_34.2.2.2.2.2.2.2.2.1
theorem dX3_plotsLeft_47 : decode cX3_plotsLeft 47 = .ok (.iload_n 2, 1) := bdX3_plotsLeft_34.2.2.2.2.2.2.2.2.2
theorem bdX3_plotsLeft_48 : (decode cX3_plotsLeft 48 = .ok (.ireturn, 1)) := by decide +kernel
theorem dX3_plotsLeft_48 : decode cX3_plotsLeft 48 = .ok (.ireturn, 1) := bdX3_plotsLeft_48
theorem bdX3_enviedBy_0 : (decode cX3_enviedBy 0 = .ok (.aload_n 0, 1)) ∧ (decode cX3_enviedBy 1 = .ok (.aload_n 1, 1)) ∧ (decode cX3_enviedBy 2 = .ok (.iload_n 2, 1)) ∧ (decode cX3_enviedBy 3 = .ok (.ldc2_w 136, 3)) ∧ (decode cX3_enviedBy 6 = .ok (.invokevirtual 138, 3)) ∧ (decode cX3_enviedBy 9 = .ok (.lstore_n 3, 1)) ∧ (decode cX3_enviedBy 10 = .ok (.iconst 0, 1)) ∧ (decode cX3_enviedBy 11 = .ok (.istore 5, 2)) ∧ (decode cX3_enviedBy 13 = .ok (.iconst 0, 1)) ∧ (decode cX3_enviedBy 14 = .ok (.istore 6, 2)) := by decide +kernel
theorem dX3_enviedBy_0 : decode cX3_enviedBy 0 = .ok (.aload_n 0, 1) := bdX3_enviedBy_0.1
theorem dX3_enviedBy_1 : decode cX3_enviedBy 1 = .ok (.aload_n 1, 1) := bdX3_enviedBy_0.2.1
theorem dX3_enviedBy_2 : decode cX3_enviedBy 2 = .ok (.iload_n 2, 1) := bdX3_enviedBy_0.2.2.1
theorem dX3_enviedBy_3 : decode cX3_enviedBy 3 = .ok (.ldc2_w 136, 3) := bdX3_enviedBy_0.2.2.2.1
theorem dX3_enviedBy_6 : decode cX3_enviedBy 6 = .ok (.invokevirtual 138, 3) := bdX3_enviedBy_0.2.2.2.2.1
theorem dX3_enviedBy_9 : decode cX3_enviedBy 9 = .ok (.lstore_n 3, 1) := bdX3_enviedBy_0.2.2.2.2.2.1
theorem dX3_enviedBy_10 : decode cX3_enviedBy 10 = .ok (.iconst 0, 1) := bdX3_enviedBy_0.2.2.2.2.2.2.1
theorem dX3_enviedBy_11 : decode cX3_enviedBy 11 = .ok (.istore 5, 2) := bdX3_enviedBy_0.2.2.2.2.2.2.2.1
theorem dX3_enviedBy_13 : decode cX3_enviedBy 13 = .ok (.iconst 0, 1) := bdX3_enviedBy_0.2.2.2.2.2.2.2.2.1
theorem dX3_enviedBy_14 : decode cX3_enviedBy 14 = .ok (.istore 6, 2) := bdX3_enviedBy_0.2.2.2.2.2.2.2.2.2
theorem bdX3_enviedBy_16 : (decode cX3_enviedBy 16 = .ok (.iload 6, 2)) ∧ (decode cX3_enviedBy 18 = .ok (.aload_n 0, 1)) ∧ (decode cX3_enviedBy 19 = .ok (.getfield 18, 3)) ∧ (decode cX3_enviedBy 22 = .ok (.getfield 38, 3)) ∧ (decode cX3_enviedBy 25 = .ok (.if_icmp .ge 53, 3)) ∧ (decode cX3_enviedBy 28 = .ok (.aload_n 1, 1)) ∧ (decode cX3_enviedBy 29 = .ok (.getfield 65, 3)) ∧ (decode cX3_enviedBy 32 = .ok (.iload 6, 2)) ∧ (decode cX3_enviedBy 34 = .ok (.iaload, 1)) ∧ (decode cX3_enviedBy 35 = .ok (.istore 7, 2)) := by decide +kernel
theorem dX3_enviedBy_16 : decode cX3_enviedBy 16 = .ok (.iload 6, 2) := bdX3_enviedBy_16.1
theorem dX3_enviedBy_18 : decode cX3_enviedBy 18 = .ok (.aload_n 0, 1) := bdX3_enviedBy_16.2.1
theorem dX3_enviedBy_19 : decode cX3_enviedBy 19 = .ok (.getfield 18, 3) := bdX3_enviedBy_16.2.2.1
theorem dX3_enviedBy_22 : decode cX3_enviedBy 22 = .ok (.getfield 38, 3) := bdX3_enviedBy_16.2.2.2.1
theorem dX3_enviedBy_25 : decode cX3_enviedBy 25 = .ok (.if_icmp .ge 53, 3) := bdX3_enviedBy_16.2.2.2.2.1
theorem dX3_enviedBy_28 : decode cX3_enviedBy 28 = .ok (.aload_n 1, 1) := bdX3_enviedBy_16.2.2.2.2.2.1
theorem dX3_enviedBy_29 : decode cX3_enviedBy 29 = .ok (.getfield 65, 3) := bdX3_enviedBy_16.2.2.2.2.2.2.1
theorem dX3_enviedBy_32 : decode cX3_enviedBy 32 = .ok (.iload 6, 2) := bdX3_enviedBy_16.2.2.2.2.2.2.2.1
theorem dX3_enviedBy_34 : decode cX3_enviedBy 34 = .ok (.iaload, 1) := bdX3_enviedBy_16.2.2.2.2.2.2.2.2.1
theorem dX3_enviedBy_35 : decode cX3_enviedBy 35 = .ok (.istore 7, 2) := bdX3_enviedBy_16.2.2.2.2.2.2.2.2.2
theorem bdX3_enviedBy_37 : (decode cX3_enviedBy 37 = .ok (.iload 6, 2)) ∧ (decode cX3_enviedBy 39 = .ok (.iload_n 2, 1)) ∧ (decode cX3_enviedBy 40 = .ok (.if_icmp .eq 32, 3)) ∧ (decode cX3_enviedBy 43 = .ok (.iload 7, 2)) ∧ (decode cX3_enviedBy 45 = .ok (.iconst (-1), 1)) ∧ (decode cX3_enviedBy 46 = .ok (.if_icmp .eq 26, 3)) ∧ (decode cX3_enviedBy 49 = .ok (.aload_n 0, 1)) ∧ (decode cX3_enviedBy 50 = .ok (.aload_n 1, 1)) ∧ (decode cX3_enviedBy 51 = .ok (.iload_n 2, 1)) ∧ (decode cX3_enviedBy 52 = .ok (.iload 7, 2)) := by decide +kernel
theorem dX3_enviedBy_37 : decode cX3_enviedBy 37 = .ok (.iload 6, 2) := bdX3_enviedBy_37.1
theorem dX3_enviedBy_39 : decode cX3_enviedBy 39 = .ok (.iload_n 2, 1) := bdX3_enviedBy_37.2.1
theorem dX3_enviedBy_40 : decode cX3_enviedBy 40 = .ok (.if_icmp .eq 32, 3) := bdX3_enviedBy_37.2.2.1
theorem dX3_enviedBy_43 : decode cX3_enviedBy 43 = .ok (.iload 7, 2) := bdX3_enviedBy_37.2.2.2.1
theorem dX3_enviedBy_45 : decode cX3_enviedBy 45 = .ok (.iconst (-1), 1) := bdX3_enviedBy_37.2.2.2.2.1
theorem dX3_enviedBy_46 : decode cX3_enviedBy 46 = .ok (.if_icmp .eq 26, 3) := bdX3_enviedBy_37.2.2.2.2.2.1
theorem dX3_enviedBy_49 : decode cX3_enviedBy 49 = .ok (.aload_n 0, 1) := bdX3_enviedBy_37.2.2.2.2.2.2.1
theorem dX3_enviedBy_50 : decode cX3_enviedBy 50 = .ok (.aload_n 1, 1) := bdX3_enviedBy_37.2.2.2.2.2.2.2.1
theorem dX3_enviedBy_51 : decode cX3_enviedBy 51 = .ok (.iload_n 2, 1) := bdX3_enviedBy_37.2.2.2.2.2.2.2.2.1
theorem dX3_enviedBy_52 : decode cX3_enviedBy 52 = .ok (.iload 7, 2) := bdX3_enviedBy_37.2.2.2.2.2.2.2.2.2
theorem bdX3_enviedBy_54 : (decode cX3_enviedBy 54 = .ok (.invokevirtual 97, 3)) ∧ (decode cX3_enviedBy 57 = .ok (.i2l, 1)) ∧ (decode cX3_enviedBy 58 = .ok (.lload_n 3, 1)) ∧ (decode cX3_enviedBy 59 = .ok (.lcmp, 1)) ∧ (decode cX3_enviedBy 60 = .ok (.ifCond .le 12, 3)) ∧ (decode cX3_enviedBy 63 = .ok (.iload 5, 2)) ∧ (decode cX3_enviedBy 65 = .ok (.iconst 1, 1)) ∧ (decode cX3_enviedBy 66 = .ok (.iload 6, 2)) ∧ (decode cX3_enviedBy 68 = .ok (.ishl, 1)) ∧ (decode cX3_enviedBy 69 = .ok (.ior, 1)) := by decide +kernel
theorem dX3_enviedBy_54 : decode cX3_enviedBy 54 = .ok (.invokevirtual 97, 3) := bdX3_enviedBy_54.1
theorem dX3_enviedBy_57 : decode cX3_enviedBy 57 = .ok (.i2l, 1) := bdX3_enviedBy_54.2.1
theorem dX3_enviedBy_58 : decode cX3_enviedBy 58 = .ok (.lload_n 3, 1) := bdX3_enviedBy_54.2.2.1
theorem dX3_enviedBy_59 : decode cX3_enviedBy 59 = .ok (.lcmp, 1) := bdX3_enviedBy_54.2.2.2.1
theorem dX3_enviedBy_60 : decode cX3_enviedBy 60 = .ok (.ifCond .le 12, 3) := bdX3_enviedBy_54.2.2.2.2.1
theorem dX3_enviedBy_63 : decode cX3_enviedBy 63 = .ok (.iload 5, 2) := bdX3_enviedBy_54.2.2.2.2.2.1
theorem dX3_enviedBy_65 : decode cX3_enviedBy 65 = .ok (.iconst 1, 1) := bdX3_enviedBy_54.2.2.2.2.2.2.1
theorem dX3_enviedBy_66 : decode cX3_enviedBy 66 = .ok (.iload 6, 2) := bdX3_enviedBy_54.2.2.2.2.2.2.2.1
theorem dX3_enviedBy_68 : decode cX3_enviedBy 68 = .ok (.ishl, 1) := bdX3_enviedBy_54.2.2.2.2.2.2.2.2.1
theorem dX3_enviedBy_69 : decode cX3_enviedBy 69 = .ok (.ior, 1) := bdX3_enviedBy_54.2.2.2.2.2.2.2.2.2
theorem bdX3_enviedBy_70 : (decode cX3_enviedBy 70 = .ok (.istore 5, 2)) ∧ (decode cX3_enviedBy 72 = .ok (.iinc 6 1, 3)) ∧ (decode cX3_enviedBy 75 = .ok (.goto (-59), 3)) ∧ (decode cX3_enviedBy 78 = .ok (.iload 5, 2)) ∧ (decode cX3_enviedBy 80 = .ok (.ireturn, 1)) := by decide +kernel
theorem dX3_enviedBy_70 : decode cX3_enviedBy 70 = .ok (.istore 5, 2) := bdX3_enviedBy_70.1
theorem dX3_enviedBy_72 : decode cX3_enviedBy 72 = .ok (.iinc 6 1, 3) := bdX3_enviedBy_70.2.1
theorem dX3_enviedBy_75 : decode cX3_enviedBy 75 = .ok (.goto (-59), 3) := bdX3_enviedBy_70.2.2.1
theorem dX3_enviedBy_78 : decode cX3_enviedBy 78 = .ok (.iload 5, 2) := bdX3_enviedBy_70.2.2.2.1
theorem dX3_enviedBy_80 : decode cX3_enviedBy 80 = .ok (.ireturn, 1) := bdX3_enviedBy_70.2.2.2.2
theorem bdX3_drawLots_0 : (decode cX3_drawLots 0 = .ok (.iload_n 2, 1)) ∧ (decode cX3_drawLots 1 = .ok (.istore_n 3, 1)) ∧ (decode cX3_drawLots 2 = .ok (.iconst 0, 1)) ∧ (decode cX3_drawLots 3 = .ok (.istore 4, 2)) ∧ (decode cX3_drawLots 5 = .ok (.iconst 0, 1)) ∧ (decode cX3_drawLots 6 = .ok (.istore 5, 2)) ∧ (decode cX3_drawLots 8 = .ok (.iload 5, 2)) ∧ (decode cX3_drawLots 10 = .ok (.aload_n 0, 1)) ∧ (decode cX3_drawLots 11 = .ok (.getfield 18, 3)) ∧ (decode cX3_drawLots 14 = .ok (.getfield 38, 3)) := by decide +kernel
theorem dX3_drawLots_0 : decode cX3_drawLots 0 = .ok (.iload_n 2, 1) := bdX3_drawLots_0.1
theorem dX3_drawLots_1 : decode cX3_drawLots 1 = .ok (.istore_n 3, 1) := bdX3_drawLots_0.2.1
theorem dX3_drawLots_2 : decode cX3_drawLots 2 = .ok (.iconst 0, 1) := bdX3_drawLots_0.2.2.1
theorem dX3_drawLots_3 : decode cX3_drawLots 3 = .ok (.istore 4, 2) := bdX3_drawLots_0.2.2.2.1
theorem dX3_drawLots_5 : decode cX3_drawLots 5 = .ok (.iconst 0, 1) := bdX3_drawLots_0.2.2.2.2.1
theorem dX3_drawLots_6 : decode cX3_drawLots 6 = .ok (.istore 5, 2) := bdX3_drawLots_0.2.2.2.2.2.1
theorem dX3_drawLots_8 : decode cX3_drawLots 8 = .ok (.iload 5, 2) := bdX3_drawLots_0.2.2.2.2.2.2.1
theorem dX3_drawLots_10 : decode cX3_drawLots 10 = .ok (.aload_n 0, 1) := bdX3_drawLots_0.2.2.2.2.2.2.2.1
theorem dX3_drawLots_11 : decode cX3_drawLots 11 = .ok (.getfield 18, 3) := bdX3_drawLots_0.2.2.2.2.2.2.2.2.1
theorem dX3_drawLots_14 : decode cX3_drawLots 14 = .ok (.getfield 38, 3) := bdX3_drawLots_0.2.2.2.2.2.2.2.2.2
theorem bdX3_drawLots_17 : (decode cX3_drawLots 17 = .ok (.if_icmp .ge 36, 3)) ∧ (decode cX3_drawLots 20 = .ok (.iload_n 3, 1)) ∧ (decode cX3_drawLots 21 = .ok (.ldc 142, 2)) ∧ (decode cX3_drawLots 23 = .ok (.imul, 1)) ∧ (decode cX3_drawLots 24 = .ok (.sipush 12345, 3)) ∧ (decode cX3_drawLots 27 = .ok (.iadd, 1)) ∧ (decode cX3_drawLots 28 = .ok (.istore_n 3, 1)) ∧ (decode cX3_drawLots 29 = .ok (.iload 4, 2)) ∧ (decode cX3_drawLots 31 = .ok (.iload_n 3, 1)) ∧ (decode cX3_drawLots 32 = .ok (.bipush 16, 2)) := by decide +kernel
theorem dX3_drawLots_17 : decode cX3_drawLots 17 = .ok (.if_icmp .ge 36, 3) := bdX3_drawLots_17.1
theorem dX3_drawLots_20 : decode cX3_drawLots 20 = .ok (.iload_n 3, 1) := bdX3_drawLots_17.2.1
theorem dX3_drawLots_21 : decode cX3_drawLots 21 = .ok (.ldc 142, 2) := bdX3_drawLots_17.2.2.1
theorem dX3_drawLots_23 : decode cX3_drawLots 23 = .ok (.imul, 1) := bdX3_drawLots_17.2.2.2.1
theorem dX3_drawLots_24 : decode cX3_drawLots 24 = .ok (.sipush 12345, 3) := bdX3_drawLots_17.2.2.2.2.1
theorem dX3_drawLots_27 : decode cX3_drawLots 27 = .ok (.iadd, 1) := bdX3_drawLots_17.2.2.2.2.2.1
theorem dX3_drawLots_28 : decode cX3_drawLots 28 = .ok (.istore_n 3, 1) := bdX3_drawLots_17.2.2.2.2.2.2.1
theorem dX3_drawLots_29 : decode cX3_drawLots 29 = .ok (.iload 4, 2) := bdX3_drawLots_17.2.2.2.2.2.2.2.1
theorem dX3_drawLots_31 : decode cX3_drawLots 31 = .ok (.iload_n 3, 1) := bdX3_drawLots_17.2.2.2.2.2.2.2.2.1
theorem dX3_drawLots_32 : decode cX3_drawLots 32 = .ok (.bipush 16, 2) := bdX3_drawLots_17.2.2.2.2.2.2.2.2.2
theorem bdX3_drawLots_34 : (decode cX3_drawLots 34 = .ok (.ishr, 1)) ∧ (decode cX3_drawLots 35 = .ok (.sipush 32767, 3)) ∧ (decode cX3_drawLots 38 = .ok (.iand, 1)) ∧ (decode cX3_drawLots 39 = .ok (.iconst 2, 1)) ∧ (decode cX3_drawLots 40 = .ok (.irem, 1)) ∧ (decode cX3_drawLots 41 = .ok (.iload 5, 2)) ∧ (decode cX3_drawLots 43 = .ok (.ishl, 1)) ∧ (decode cX3_drawLots 44 = .ok (.ior, 1)) ∧ (decode cX3_drawLots 45 = .ok (.istore 4, 2)) ∧ (decode cX3_drawLots 47 = .ok (.iinc 5 1, 3)) := by decide +kernel
theorem dX3_drawLots_34 : decode cX3_drawLots 34 = .ok (.ishr, 1) := bdX3_drawLots_34.1
theorem dX3_drawLots_35 : decode cX3_drawLots 35 = .ok (.sipush 32767, 3) := bdX3_drawLots_34.2.1
theorem dX3_drawLots_38 : decode cX3_drawLots 38 = .ok (.iand, 1) := bdX3_drawLots_34.2.2.1
theorem dX3_drawLots_39 : decode cX3_drawLots 39 = .ok (.iconst 2, 1) := bdX3_drawLots_34.2.2.2.1
theorem dX3_drawLots_40 : decode cX3_drawLots 40 = .ok (.irem, 1) := bdX3_drawLots_34.2.2.2.2.1
theorem dX3_drawLots_41 : decode cX3_drawLots 41 = .ok (.iload 5, 2) := bdX3_drawLots_34.2.2.2.2.2.1
theorem dX3_drawLots_43 : decode cX3_drawLots 43 = .ok (.ishl, 1) := bdX3_drawLots_34.2.2.2.2.2.2.1
theorem dX3_drawLots_44 : decode cX3_drawLots 44 = .ok (.ior, 1) := bdX3_drawLots_34.2.2.2.2.2.2.2.1
theorem dX3_drawLots_45 : decode cX3_drawLots 45 = .ok (.istore 4, 2) := bdX3_drawLots_34.2.2.2.2.2.2.2.2.1
theorem dX3_drawLots_47 : decode cX3_drawLots 47 = .ok (.iinc 5 1, 3) := bdX3_drawLots_34.2.2.2.2.2.2.2.2.2
theorem bdX3_drawLots_50 : (decode cX3_drawLots 50 = .ok (.goto (-42), 3)) ∧ (decode cX3_drawLots 53 = .ok (.aload_n 1, 1)) ∧ (decode cX3_drawLots 54 = .ok (.iload 4, 2)) ∧ (decode cX3_drawLots 56 = .ok (.putfield 143, 3)) ∧ (decode cX3_drawLots 59 = .ok (.iload_n 3, 1)) ∧ (decode cX3_drawLots 60 = .ok (.ireturn, 1)) := by decide +kernel
theorem dX3_drawLots_50 : decode cX3_drawLots 50 = .ok (.goto (-42), 3) := bdX3_drawLots_50.1
theorem dX3_drawLots_53 : decode cX3_drawLots 53 = .ok (.aload_n 1, 1) := bdX3_drawLots_50.2.1
theorem dX3_drawLots_54 : decode cX3_drawLots 54 = .ok (.iload 4, 2) := bdX3_drawLots_50.2.2.1
theorem dX3_drawLots_56 : decode cX3_drawLots 56 = .ok (.putfield 143, 3) := bdX3_drawLots_50.2.2.2.1
theorem dX3_drawLots_59 : decode cX3_drawLots 59 = .ok (.iload_n 3, 1) := bdX3_drawLots_50.2.2.2.2.1
theorem dX3_drawLots_60 : decode cX3_drawLots 60 = .ok (.ireturn, 1) := bdX3_drawLots_50.2.2.2.2.2
theorem bdX3_passYears_0 : (decode cX3_passYears 0 = .ok (.iconst 0, 1)) ∧ (decode cX3_passYears 1 = .ok (.istore_n 3, 1)) ∧ (decode cX3_passYears 2 = .ok (.iload_n 3, 1)) ∧ (decode cX3_passYears 3 = .ok (.iload_n 2, 1)) ∧ (decode cX3_passYears 4 = .ok (.if_icmp .ge 69, 3)) ∧ (decode cX3_passYears 7 = .ok (.iconst 0, 1)) ∧ (decode cX3_passYears 8 = .ok (.istore 4, 2)) ∧ (decode cX3_passYears 10 = .ok (.iload 4, 2)) ∧ (decode cX3_passYears 12 = .ok (.aload_n 0, 1)) ∧ (decode cX3_passYears 13 = .ok (.getfield 18, 3)) := by decide +kernel
theorem dX3_passYears_0 : decode cX3_passYears 0 = .ok (.iconst 0, 1) := bdX3_passYears_0.1
theorem dX3_passYears_1 : decode cX3_passYears 1 = .ok (.istore_n 3, 1) := bdX3_passYears_0.2.1
theorem dX3_passYears_2 : decode cX3_passYears 2 = .ok (.iload_n 3, 1) := bdX3_passYears_0.2.2.1
theorem dX3_passYears_3 : decode cX3_passYears 3 = .ok (.iload_n 2, 1) := bdX3_passYears_0.2.2.2.1
theorem dX3_passYears_4 : decode cX3_passYears 4 = .ok (.if_icmp .ge 69, 3) := bdX3_passYears_0.2.2.2.2.1
theorem dX3_passYears_7 : decode cX3_passYears 7 = .ok (.iconst 0, 1) := bdX3_passYears_0.2.2.2.2.2.1
theorem dX3_passYears_8 : decode cX3_passYears 8 = .ok (.istore 4, 2) := bdX3_passYears_0.2.2.2.2.2.2.1
theorem dX3_passYears_10 : decode cX3_passYears 10 = .ok (.iload 4, 2) := bdX3_passYears_0.2.2.2.2.2.2.2.1
theorem dX3_passYears_12 : decode cX3_passYears 12 = .ok (.aload_n 0, 1) := bdX3_passYears_0.2.2.2.2.2.2.2.2.1
theorem dX3_passYears_13 : decode cX3_passYears 13 = .ok (.getfield 18, 3) := bdX3_passYears_0.2.2.2.2.2.2.2.2.2
theorem bdX3_passYears_16 : (decode cX3_passYears 16 = .ok (.getfield 38, 3)) ∧ (decode cX3_passYears 19 = .ok (.if_icmp .ge 38, 3)) ∧ (decode cX3_passYears 22 = .ok (.aload_n 1, 1)) ∧ (decode cX3_passYears 23 = .ok (.iload 4, 2)) ∧ (decode cX3_passYears 25 = .ok (.invokevirtual 146, 3)) ∧ (decode cX3_passYears 28 = .ok (.ifCond .ne 23, 3)) ∧ (decode cX3_passYears 31 = .ok (.aload_n 1, 1)) ∧ (decode cX3_passYears 32 = .ok (.iload 4, 2)) ∧ (decode cX3_passYears 34 = .ok (.aload_n 0, 1)) ∧ (decode cX3_passYears 35 = .ok (.aload_n 1, 1)) := by decide +kernel
theorem dX3_passYears_16 : decode cX3_passYears 16 = .ok (.getfield 38, 3) := bdX3_passYears_16.1
theorem dX3_passYears_19 : decode cX3_passYears 19 = .ok (.if_icmp .ge 38, 3) := bdX3_passYears_16.2.1
theorem dX3_passYears_22 : decode cX3_passYears 22 = .ok (.aload_n 1, 1) := bdX3_passYears_16.2.2.1
theorem dX3_passYears_23 : decode cX3_passYears 23 = .ok (.iload 4, 2) := bdX3_passYears_16.2.2.2.1
theorem dX3_passYears_25 : decode cX3_passYears 25 = .ok (.invokevirtual 146, 3) := bdX3_passYears_16.2.2.2.2.1
theorem dX3_passYears_28 : decode cX3_passYears 28 = .ok (.ifCond .ne 23, 3) := bdX3_passYears_16.2.2.2.2.2.1
theorem dX3_passYears_31 : decode cX3_passYears 31 = .ok (.aload_n 1, 1) := bdX3_passYears_16.2.2.2.2.2.2.1
theorem dX3_passYears_32 : decode cX3_passYears 32 = .ok (.iload 4, 2) := bdX3_passYears_16.2.2.2.2.2.2.2.1
theorem dX3_passYears_34 : decode cX3_passYears 34 = .ok (.aload_n 0, 1) := bdX3_passYears_16.2.2.2.2.2.2.2.2.1
theorem dX3_passYears_35 : decode cX3_passYears 35 = .ok (.aload_n 1, 1) := bdX3_passYears_16.2.2.2.2.2.2.2.2.2
theorem bdX3_passYears_36 : (decode cX3_passYears 36 = .ok (.iload 4, 2)) ∧ (decode cX3_passYears 38 = .ok (.invokevirtual 149, 3)) ∧ (decode cX3_passYears 41 = .ok (.aload_n 0, 1)) ∧ (decode cX3_passYears 42 = .ok (.getfield 18, 3)) ∧ (decode cX3_passYears 45 = .ok (.getfield 152, 3)) ∧ (decode cX3_passYears 48 = .ok (.invokevirtual 155, 3)) ∧ (decode cX3_passYears 51 = .ok (.iinc 4 1, 3)) ∧ (decode cX3_passYears 54 = .ok (.goto (-44), 3)) ∧ (decode cX3_passYears 57 = .ok (.aload_n 1, 1)) ∧ (decode cX3_passYears 58 = .ok (.dup, 1)) := by decide +kernel
theorem dX3_passYears_36 : decode cX3_passYears 36 = .ok (.iload 4, 2) := bdX3_passYears_36.1
theorem dX3_passYears_38 : decode cX3_passYears 38 = .ok (.invokevirtual 149, 3) := bdX3_passYears_36.2.1
theorem dX3_passYears_41 : decode cX3_passYears 41 = .ok (.aload_n 0, 1) := bdX3_passYears_36.2.2.1
theorem dX3_passYears_42 : decode cX3_passYears 42 = .ok (.getfield 18, 3) := bdX3_passYears_36.2.2.2.1
theorem dX3_passYears_45 : decode cX3_passYears 45 = .ok (.getfield 152, 3) := bdX3_passYears_36.2.2.2.2.1
theorem dX3_passYears_48 : decode cX3_passYears 48 = .ok (.invokevirtual 155, 3) := bdX3_passYears_36.2.2.2.2.2.1
theorem dX3_passYears_51 : decode cX3_passYears 51 = .ok (.iinc 4 1, 3) := bdX3_passYears_36.2.2.2.2.2.2.1
theorem dX3_passYears_54 : decode cX3_passYears 54 = .ok (.goto (-44), 3) := bdX3_passYears_36.2.2.2.2.2.2.2.1
theorem dX3_passYears_57 : decode cX3_passYears 57 = .ok (.aload_n 1, 1) := bdX3_passYears_36.2.2.2.2.2.2.2.2.1
theorem dX3_passYears_58 : decode cX3_passYears 58 = .ok (.dup, 1) := bdX3_passYears_36.2.2.2.2.2.2.2.2.2
theorem bdX3_passYears_59 : (decode cX3_passYears 59 = .ok (.getfield 114, 3)) ∧ (decode cX3_passYears 62 = .ok (.iconst 1, 1)) ∧ (decode cX3_passYears 63 = .ok (.iadd, 1)) ∧ (decode cX3_passYears 64 = .ok (.putfield 114, 3)) ∧ (decode cX3_passYears 67 = .ok (.iinc 3 1, 3)) ∧ (decode cX3_passYears 70 = .ok (.goto (-68), 3)) ∧ (decode cX3_passYears 73 = .ok (.return_, 1)) := by decide +kernel
theorem dX3_passYears_59 : decode cX3_passYears 59 = .ok (.getfield 114, 3) := bdX3_passYears_59.1
theorem dX3_passYears_62 : decode cX3_passYears 62 = .ok (.iconst 1, 1) := bdX3_passYears_59.2.1
theorem dX3_passYears_63 : decode cX3_passYears 63 = .ok (.iadd, 1) := bdX3_passYears_59.2.2.1
theorem dX3_passYears_64 : decode cX3_passYears 64 = .ok (.putfield 114, 3) := bdX3_passYears_59.2.2.2.1
theorem dX3_passYears_67 : decode cX3_passYears 67 = .ok (.iinc 3 1, 3) := bdX3_passYears_59.2.2.2.2.1
theorem dX3_passYears_70 : decode cX3_passYears 70 = .ok (.goto (-68), 3) := bdX3_passYears_59.2.2.2.2.2.1
theorem dX3_passYears_73 : decode cX3_passYears 73 = .ok (.return_, 1) := bdX3_passYears_59.2.2.2.2.2.2
theorem bdX4_init_0 : (decode cX4_init 0 = .ok (.aload_n 0, 1)) ∧ (decode cX4_init 1 = .ok (.invokespecial 5, 3)) ∧ (decode cX4_init 4 = .ok (.aload_n 0, 1)) ∧ (decode cX4_init 5 = .ok (.bipush 8, 2)) ∧ (decode cX4_init 7 = .ok (.bipush 9, 2)) ∧ (decode cX4_init 9 = .ok (.multianewarray 11 2, 4)) ∧ (decode cX4_init 13 = .ok (.putfield 13, 3)) ∧ (decode cX4_init 16 = .ok (.aload_n 0, 1)) ∧ (decode cX4_init 17 = .ok (.bipush 9, 2)) ∧ (decode cX4_init 19 = .ok (.sipush 512, 3)) := by decide +kernel
theorem dX4_init_0 : decode cX4_init 0 = .ok (.aload_n 0, 1) := bdX4_init_0.1
theorem dX4_init_1 : decode cX4_init 1 = .ok (.invokespecial 5, 3) := bdX4_init_0.2.1
theorem dX4_init_4 : decode cX4_init 4 = .ok (.aload_n 0, 1) := bdX4_init_0.2.2.1
theorem dX4_init_5 : decode cX4_init 5 = .ok (.bipush 8, 2) := bdX4_init_0.2.2.2.1
theorem dX4_init_7 : decode cX4_init 7 = .ok (.bipush 9, 2) := bdX4_init_0.2.2.2.2.1
theorem dX4_init_9 : decode cX4_init 9 = .ok (.multianewarray 11 2, 4) := bdX4_init_0.2.2.2.2.2.1
theorem dX4_init_13 : decode cX4_init 13 = .ok (.putfield 13, 3) := bdX4_init_0.2.2.2.2.2.2.1
theorem dX4_init_16 : decode cX4_init 16 = .ok (.aload_n 0, 1) := bdX4_init_0.2.2.2.2.2.2.2.1
theorem dX4_init_17 : decode cX4_init 17 = .ok (.bipush 9, 2) := bdX4_init_0.2.2.2.2.2.2.2.2.1
theorem dX4_init_19 : decode cX4_init 19 = .ok (.sipush 512, 3) := bdX4_init_0.2.2.2.2.2.2.2.2.2
theorem bdX4_init_22 : (decode cX4_init 22 = .ok (.multianewarray 18 2, 4)) ∧ (decode cX4_init 26 = .ok (.putfield 20, 3)) ∧ (decode cX4_init 29 = .ok (.return_, 1)) := by decide +kernel
theorem dX4_init_22 : decode cX4_init 22 = .ok (.multianewarray 18 2, 4) := bdX4_init_22.1
theorem dX4_init_26 : decode cX4_init 26 = .ok (.putfield 20, 3) := bdX4_init_22.2.1
theorem dX4_init_29 : decode cX4_init 29 = .ok (.return_, 1) := bdX4_init_22.2.2
theorem bdX4_weigh_0 : (decode cX4_weigh 0 = .ok (.aload_n 0, 1)) ∧ (decode cX4_weigh 1 = .ok (.aload_n 1, 1)) ∧ (decode cX4_weigh 2 = .ok (.getfield 23, 3)) ∧ (decode cX4_weigh 5 = .ok (.getfield 29, 3)) ∧ (decode cX4_weigh 8 = .ok (.bipush 8, 2)) ∧ (decode cX4_weigh 10 = .ok (.invokestatic 35, 3)) ∧ (decode cX4_weigh 13 = .ok (.putfield 41, 3)) ∧ (decode cX4_weigh 16 = .ok (.aload_n 0, 1)) ∧ (decode cX4_weigh 17 = .ok (.aload_n 1, 1)) ∧ (decode cX4_weigh 18 = .ok (.getfield 23, 3)) := by decide +kernel
theorem dX4_weigh_0 : decode cX4_weigh 0 = .ok (.aload_n 0, 1) := bdX4_weigh_0.1
theorem dX4_weigh_1 : decode cX4_weigh 1 = .ok (.aload_n 1, 1) := bdX4_weigh_0.2.1
theorem dX4_weigh_2 : decode cX4_weigh 2 = .ok (.getfield 23, 3) := bdX4_weigh_0.2.2.1
theorem dX4_weigh_5 : decode cX4_weigh 5 = .ok (.getfield 29, 3) := bdX4_weigh_0.2.2.2.1
theorem dX4_weigh_8 : decode cX4_weigh 8 = .ok (.bipush 8, 2) := bdX4_weigh_0.2.2.2.2.1
theorem dX4_weigh_10 : decode cX4_weigh 10 = .ok (.invokestatic 35, 3) := bdX4_weigh_0.2.2.2.2.2.1
theorem dX4_weigh_13 : decode cX4_weigh 13 = .ok (.putfield 41, 3) := bdX4_weigh_0.2.2.2.2.2.2.1
theorem dX4_weigh_16 : decode cX4_weigh 16 = .ok (.aload_n 0, 1) := bdX4_weigh_0.2.2.2.2.2.2.2.1
theorem dX4_weigh_17 : decode cX4_weigh 17 = .ok (.aload_n 1, 1) := bdX4_weigh_0.2.2.2.2.2.2.2.2.1
theorem dX4_weigh_18 : decode cX4_weigh 18 = .ok (.getfield 23, 3) := bdX4_weigh_0.2.2.2.2.2.2.2.2.2
theorem bdX4_weigh_21 : (decode cX4_weigh 21 = .ok (.getfield 42, 3)) ∧ (decode cX4_weigh 24 = .ok (.bipush 9, 2)) ∧ (decode cX4_weigh 26 = .ok (.invokestatic 35, 3)) ∧ (decode cX4_weigh 29 = .ok (.putfield 45, 3)) ∧ (decode cX4_weigh 32 = .ok (.iconst 0, 1)) ∧ (decode cX4_weigh 33 = .ok (.istore_n 3, 1)) ∧ (decode cX4_weigh 34 = .ok (.iload_n 3, 1)) ∧ (decode cX4_weigh 35 = .ok (.aload_n 0, 1)) ∧ (decode cX4_weigh 36 = .ok (.getfield 41, 3)) ∧ (decode cX4_weigh 39 = .ok (.if_icmp .ge 44, 3)) := by decide +kernel
theorem dX4_weigh_21 : decode cX4_weigh 21 = .ok (.getfield 42, 3) := bdX4_weigh_21.1
theorem dX4_weigh_24 : decode cX4_weigh 24 = .ok (.bipush 9, 2) := bdX4_weigh_21.2.1
theorem dX4_weigh_26 : decode cX4_weigh 26 = .ok (.invokestatic 35, 3) := bdX4_weigh_21.2.2.1
theorem dX4_weigh_29 : decode cX4_weigh 29 = .ok (.putfield 45, 3) := bdX4_weigh_21.2.2.2.1
theorem dX4_weigh_32 : decode cX4_weigh 32 = .ok (.iconst 0, 1) := bdX4_weigh_21.2.2.2.2.1
theorem dX4_weigh_33 : decode cX4_weigh 33 = .ok (.istore_n 3, 1) := bdX4_weigh_21.2.2.2.2.2.1
theorem dX4_weigh_34 : decode cX4_weigh 34 = .ok (.iload_n 3, 1) := bdX4_weigh_21.2.2.2.2.2.2.1
theorem dX4_weigh_35 : decode cX4_weigh 35 = .ok (.aload_n 0, 1) := bdX4_weigh_21.2.2.2.2.2.2.2.1
theorem dX4_weigh_36 : decode cX4_weigh 36 = .ok (.getfield 41, 3) := bdX4_weigh_21.2.2.2.2.2.2.2.2.1
theorem dX4_weigh_39 : decode cX4_weigh 39 = .ok (.if_icmp .ge 44, 3) := bdX4_weigh_21.2.2.2.2.2.2.2.2.2
theorem bdX4_weigh_42 : (decode cX4_weigh 42 = .ok (.iconst 0, 1)) ∧ (decode cX4_weigh 43 = .ok (.istore 4, 2)) ∧ (decode cX4_weigh 45 = .ok (.iload 4, 2)) ∧ (decode cX4_weigh 47 = .ok (.aload_n 0, 1)) ∧ (decode cX4_weigh 48 = .ok (.getfield 45, 3)) ∧ (decode cX4_weigh 51 = .ok (.if_icmp .ge 26, 3)) ∧ (decode cX4_weigh 54 = .ok (.aload_n 0, 1)) ∧ (decode cX4_weigh 55 = .ok (.getfield 13, 3)) ∧ (decode cX4_weigh 58 = .ok (.iload_n 3, 1)) ∧ (decode cX4_weigh 59 = .ok (.aaload, 1)) := by decide +kernel
theorem dX4_weigh_42 : decode cX4_weigh 42 = .ok (.iconst 0, 1) := bdX4_weigh_42.1
theorem dX4_weigh_43 : decode cX4_weigh 43 = .ok (.istore 4, 2) := bdX4_weigh_42.2.1
theorem dX4_weigh_45 : decode cX4_weigh 45 = .ok (.iload 4, 2) := bdX4_weigh_42.2.2.1
theorem dX4_weigh_47 : decode cX4_weigh 47 = .ok (.aload_n 0, 1) := bdX4_weigh_42.2.2.2.1
theorem dX4_weigh_48 : decode cX4_weigh 48 = .ok (.getfield 45, 3) := bdX4_weigh_42.2.2.2.2.1
theorem dX4_weigh_51 : decode cX4_weigh 51 = .ok (.if_icmp .ge 26, 3) := bdX4_weigh_42.2.2.2.2.2.1
theorem dX4_weigh_54 : decode cX4_weigh 54 = .ok (.aload_n 0, 1) := bdX4_weigh_42.2.2.2.2.2.2.1
theorem dX4_weigh_55 : decode cX4_weigh 55 = .ok (.getfield 13, 3) := bdX4_weigh_42.2.2.2.2.2.2.2.1
theorem dX4_weigh_58 : decode cX4_weigh 58 = .ok (.iload_n 3, 1) := bdX4_weigh_42.2.2.2.2.2.2.2.2.1
theorem dX4_weigh_59 : decode cX4_weigh 59 = .ok (.aaload, 1) := bdX4_weigh_42.2.2.2.2.2.2.2.2.2
theorem bdX4_weigh_60 : (decode cX4_weigh 60 = .ok (.iload 4, 2)) ∧ (decode cX4_weigh 62 = .ok (.aload_n 1, 1)) ∧ (decode cX4_weigh 63 = .ok (.aload_n 2, 1)) ∧ (decode cX4_weigh 64 = .ok (.iload_n 3, 1)) ∧ (decode cX4_weigh 65 = .ok (.iload 4, 2)) ∧ (decode cX4_weigh 67 = .ok (.invokevirtual 46, 3)) ∧ (decode cX4_weigh 70 = .ok (.iastore, 1)) ∧ (decode cX4_weigh 71 = .ok (.iinc 4 1, 3)) ∧ (decode cX4_weigh 74 = .ok (.goto (-29), 3)) ∧ (decode cX4_weigh 77 = .ok (.iinc 3 1, 3)) := by decide +kernel
theorem dX4_weigh_60 : decode cX4_weigh 60 = .ok (.iload 4, 2) := bdX4_weigh_60.1
theorem dX4_weigh_62 : decode cX4_weigh 62 = .ok (.aload_n 1, 1) := bdX4_weigh_60.2.1
theorem dX4_weigh_63 : decode cX4_weigh 63 = .ok (.aload_n 2, 1) := bdX4_weigh_60.2.2.1
theorem dX4_weigh_64 : decode cX4_weigh 64 = .ok (.iload_n 3, 1) := bdX4_weigh_60.2.2.2.1
theorem dX4_weigh_65 : decode cX4_weigh 65 = .ok (.iload 4, 2) := bdX4_weigh_60.2.2.2.2.1
theorem dX4_weigh_67 : decode cX4_weigh 67 = .ok (.invokevirtual 46, 3) := bdX4_weigh_60.2.2.2.2.2.1
theorem dX4_weigh_70 : decode cX4_weigh 70 = .ok (.iastore, 1) := bdX4_weigh_60.2.2.2.2.2.2.1
theorem dX4_weigh_71 : decode cX4_weigh 71 = .ok (.iinc 4 1, 3) := bdX4_weigh_60.2.2.2.2.2.2.2.1
theorem dX4_weigh_74 : decode cX4_weigh 74 = .ok (.goto (-29), 3) := bdX4_weigh_60.2.2.2.2.2.2.2.2.1
theorem dX4_weigh_77 : decode cX4_weigh 77 = .ok (.iinc 3 1, 3) := bdX4_weigh_60.2.2.2.2.2.2.2.2.2
theorem bdX4_weigh_80 : (decode cX4_weigh 80 = .ok (.goto (-46), 3)) ∧ (decode cX4_weigh 83 = .ok (.return_, 1)) := by decide +kernel
theorem dX4_weigh_80 : decode cX4_weigh 80 = .ok (.goto (-46), 3) := bdX4_weigh_80.1
theorem dX4_weigh_83 : decode cX4_weigh 83 = .ok (.return_, 1) := bdX4_weigh_80.2
theorem bdX4_mostTogether_0 : (decode cX4_mostTogether 0 = .ok (.aload_n 0, 1)) ∧ (decode cX4_mostTogether 1 = .ok (.iconst 0, 1)) ∧ (decode cX4_mostTogether 2 = .ok (.invokevirtual 50, 3)) ∧ (decode cX4_mostTogether 5 = .ok (.aload_n 0, 1)) ∧ (decode cX4_mostTogether 6 = .ok (.getfield 20, 3)) ∧ (decode cX4_mostTogether 9 = .ok (.iconst 0, 1)) ∧ (decode cX4_mostTogether 10 = .ok (.aaload, 1)) ∧ (decode cX4_mostTogether 11 = .ok (.iconst 0, 1)) ∧ (decode cX4_mostTogether 12 = .ok (.laload, 1)) ∧ (decode cX4_mostTogether 13 = .ok (.lreturn, 1)) := by decide +kernel
theorem dX4_mostTogether_0 : decode cX4_mostTogether 0 = .ok (.aload_n 0, 1) := bdX4_mostTogether_0.1
theorem dX4_mostTogether_1 : decode cX4_mostTogether 1 = .ok (.iconst 0, 1) := bdX4_mostTogether_0.2.1
theorem dX4_mostTogether_2 : decode cX4_mostTogether 2 = .ok (.invokevirtual 50, 3) := bdX4_mostTogether_0.2.2.1
theorem dX4_mostTogether_5 : decode cX4_mostTogether 5 = .ok (.aload_n 0, 1) := bdX4_mostTogether_0.2.2.2.1
theorem dX4_mostTogether_6 : decode cX4_mostTogether 6 = .ok (.getfield 20, 3) := bdX4_mostTogether_0.2.2.2.2.1
theorem dX4_mostTogether_9 : decode cX4_mostTogether 9 = .ok (.iconst 0, 1) := bdX4_mostTogether_0.2.2.2.2.2.1
theorem dX4_mostTogether_10 : decode cX4_mostTogether 10 = .ok (.aaload, 1) := bdX4_mostTogether_0.2.2.2.2.2.2.1
theorem dX4_mostTogether_11 : decode cX4_mostTogether 11 = .ok (.iconst 0, 1) := bdX4_mostTogether_0.2.2.2.2.2.2.2.1
theorem dX4_mostTogether_12 : decode cX4_mostTogether 12 = .ok (.laload, 1) := bdX4_mostTogether_0.2.2.2.2.2.2.2.2.1
theorem dX4_mostTogether_13 : decode cX4_mostTogether 13 = .ok (.lreturn, 1) := bdX4_mostTogether_0.2.2.2.2.2.2.2.2.2
theorem bdX4_mostForTheLeast_0 : (decode cX4_mostForTheLeast 0 = .ok (.aload_n 0, 1)) ∧ (decode cX4_mostForTheLeast 1 = .ok (.iconst 1, 1)) ∧ (decode cX4_mostForTheLeast 2 = .ok (.invokevirtual 50, 3)) ∧ (decode cX4_mostForTheLeast 5 = .ok (.aload_n 0, 1)) ∧ (decode cX4_mostForTheLeast 6 = .ok (.getfield 20, 3)) ∧ (decode cX4_mostForTheLeast 9 = .ok (.iconst 0, 1)) ∧ (decode cX4_mostForTheLeast 10 = .ok (.aaload, 1)) ∧ (decode cX4_mostForTheLeast 11 = .ok (.iconst 0, 1)) ∧ (decode cX4_mostForTheLeast 12 = .ok (.laload, 1)) ∧ (decode cX4_mostForTheLeast 13 = .ok (.l2i, 1)) := by decide +kernel
theorem dX4_mostForTheLeast_0 : decode cX4_mostForTheLeast 0 = .ok (.aload_n 0, 1) := bdX4_mostForTheLeast_0.1
theorem dX4_mostForTheLeast_1 : decode cX4_mostForTheLeast 1 = .ok (.iconst 1, 1) := bdX4_mostForTheLeast_0.2.1
theorem dX4_mostForTheLeast_2 : decode cX4_mostForTheLeast 2 = .ok (.invokevirtual 50, 3) := bdX4_mostForTheLeast_0.2.2.1
theorem dX4_mostForTheLeast_5 : decode cX4_mostForTheLeast 5 = .ok (.aload_n 0, 1) := bdX4_mostForTheLeast_0.2.2.2.1
theorem dX4_mostForTheLeast_6 : decode cX4_mostForTheLeast 6 = .ok (.getfield 20, 3) := bdX4_mostForTheLeast_0.2.2.2.2.1
theorem dX4_mostForTheLeast_9 : decode cX4_mostForTheLeast 9 = .ok (.iconst 0, 1) := bdX4_mostForTheLeast_0.2.2.2.2.2.1
theorem dX4_mostForTheLeast_10 : decode cX4_mostForTheLeast 10 = .ok (.aaload, 1) := bdX4_mostForTheLeast_0.2.2.2.2.2.2.1
theorem dX4_mostForTheLeast_11 : decode cX4_mostForTheLeast 11 = .ok (.iconst 0, 1) := bdX4_mostForTheLeast_0.2.2.2.2.2.2.2.1
theorem dX4_mostForTheLeast_12 : decode cX4_mostForTheLeast 12 = .ok (.laload, 1) := bdX4_mostForTheLeast_0.2.2.2.2.2.2.2.2.1
theorem dX4_mostForTheLeast_13 : decode cX4_mostForTheLeast 13 = .ok (.l2i, 1) := bdX4_mostForTheLeast_0.2.2.2.2.2.2.2.2.2
theorem bdX4_mostForTheLeast_14 : (decode cX4_mostForTheLeast 14 = .ok (.ireturn, 1)) := by decide +kernel
theorem dX4_mostForTheLeast_14 : decode cX4_mostForTheLeast 14 = .ok (.ireturn, 1) := bdX4_mostForTheLeast_14
theorem bdX4_fill_0 : (decode cX4_fill 0 = .ok (.aload_n 0, 1)) ∧ (decode cX4_fill 1 = .ok (.getfield 41, 3)) ∧ (decode cX4_fill 4 = .ok (.aload_n 0, 1)) ∧ (decode cX4_fill 5 = .ok (.getfield 45, 3)) ∧ (decode cX4_fill 8 = .ok (.invokestatic 35, 3)) ∧ (decode cX4_fill 11 = .ok (.istore_n 2, 1)) ∧ (decode cX4_fill 12 = .ok (.iload_n 1, 1)) ∧ (decode cX4_fill 13 = .ok (.ifCond .eq 9, 3)) ∧ (decode cX4_fill 16 = .ok (.ldc2_w 54, 3)) ∧ (decode cX4_fill 19 = .ok (.goto 4, 3)) := by decide +kernel
theorem dX4_fill_0 : decode cX4_fill 0 = .ok (.aload_n 0, 1) := bdX4_fill_0.1
theorem dX4_fill_1 : decode cX4_fill 1 = .ok (.getfield 41, 3) := bdX4_fill_0.2.1
theorem dX4_fill_4 : decode cX4_fill 4 = .ok (.aload_n 0, 1) := bdX4_fill_0.2.2.1
theorem dX4_fill_5 : decode cX4_fill 5 = .ok (.getfield 45, 3) := bdX4_fill_0.2.2.2.1
theorem dX4_fill_8 : decode cX4_fill 8 = .ok (.invokestatic 35, 3) := bdX4_fill_0.2.2.2.2.1
theorem dX4_fill_11 : decode cX4_fill 11 = .ok (.istore_n 2, 1) := bdX4_fill_0.2.2.2.2.2.1
theorem dX4_fill_12 : decode cX4_fill 12 = .ok (.iload_n 1, 1) := bdX4_fill_0.2.2.2.2.2.2.1
theorem dX4_fill_13 : decode cX4_fill 13 = .ok (.ifCond .eq 9, 3) := bdX4_fill_0.2.2.2.2.2.2.2.1
theorem dX4_fill_16 : decode cX4_fill 16 = .ok (.ldc2_w 54, 3) := bdX4_fill_0.2.2.2.2.2.2.2.2.1
theorem dX4_fill_19 : decode cX4_fill 19 = .ok (.goto 4, 3) := bdX4_fill_0.2.2.2.2.2.2.2.2.2
theorem bdX4_fill_22 : (decode cX4_fill 22 = .ok (.lconst 0, 1)) ∧ (decode cX4_fill 23 = .ok (.lstore_n 3, 1)) ∧ (decode cX4_fill 24 = .ok (.iconst 0, 1)) ∧ (decode cX4_fill 25 = .ok (.istore 5, 2)) ∧ (decode cX4_fill 27 = .ok (.iload 5, 2)) ∧ (decode cX4_fill 29 = .ok (.iconst 1, 1)) ∧ (decode cX4_fill 30 = .ok (.aload_n 0, 1)) ∧ (decode cX4_fill 31 = .ok (.getfield 45, 3)) ∧ (decode cX4_fill 34 = .ok (.ishl, 1)) ∧ (decode cX4_fill 35 = .ok (.if_icmp .ge 37, 3)) := by decide +kernel
theorem dX4_fill_22 : decode cX4_fill 22 = .ok (.lconst 0, 1) := bdX4_fill_22.1
theorem dX4_fill_23 : decode cX4_fill 23 = .ok (.lstore_n 3, 1) := bdX4_fill_22.2.1
theorem dX4_fill_24 : decode cX4_fill 24 = .ok (.iconst 0, 1) := bdX4_fill_22.2.2.1
theorem dX4_fill_25 : decode cX4_fill 25 = .ok (.istore 5, 2) := bdX4_fill_22.2.2.2.1
theorem dX4_fill_27 : decode cX4_fill 27 = .ok (.iload 5, 2) := bdX4_fill_22.2.2.2.2.1
theorem dX4_fill_29 : decode cX4_fill 29 = .ok (.iconst 1, 1) := bdX4_fill_22.2.2.2.2.2.1
theorem dX4_fill_30 : decode cX4_fill 30 = .ok (.aload_n 0, 1) := bdX4_fill_22.2.2.2.2.2.2.1
theorem dX4_fill_31 : decode cX4_fill 31 = .ok (.getfield 45, 3) := bdX4_fill_22.2.2.2.2.2.2.2.1
theorem dX4_fill_34 : decode cX4_fill 34 = .ok (.ishl, 1) := bdX4_fill_22.2.2.2.2.2.2.2.2.1
theorem dX4_fill_35 : decode cX4_fill 35 = .ok (.if_icmp .ge 37, 3) := bdX4_fill_22.2.2.2.2.2.2.2.2.2
theorem bdX4_fill_38 : (decode cX4_fill 38 = .ok (.aload_n 0, 1)) ∧ (decode cX4_fill 39 = .ok (.getfield 20, 3)) ∧ (decode cX4_fill 42 = .ok (.aload_n 0, 1)) ∧ (decode cX4_fill 43 = .ok (.getfield 41, 3)) ∧ (decode cX4_fill 46 = .ok (.aaload, 1)) ∧ (decode cX4_fill 47 = .ok (.iload 5, 2)) ∧ (decode cX4_fill 49 = .ok (.iload 5, 2)) ∧ (decode cX4_fill 51 = .ok (.invokestatic 56, 3)) ∧ (decode cX4_fill 54 = .ok (.iload_n 2, 1)) ∧ (decode cX4_fill 55 = .ok (.if_icmp .ne 7, 3)) := by decide +kernel
theorem dX4_fill_38 : decode cX4_fill 38 = .ok (.aload_n 0, 1) := bdX4_fill_38.1
theorem dX4_fill_39 : decode cX4_fill 39 = .ok (.getfield 20, 3) := bdX4_fill_38.2.1
theorem dX4_fill_42 : decode cX4_fill 42 = .ok (.aload_n 0, 1) := bdX4_fill_38.2.2.1
theorem dX4_fill_43 : decode cX4_fill 43 = .ok (.getfield 41, 3) := bdX4_fill_38.2.2.2.1
theorem dX4_fill_46 : decode cX4_fill 46 = .ok (.aaload, 1) := bdX4_fill_38.2.2.2.2.1
theorem dX4_fill_47 : decode cX4_fill 47 = .ok (.iload 5, 2) := bdX4_fill_38.2.2.2.2.2.1
theorem dX4_fill_49 : decode cX4_fill 49 = .ok (.iload 5, 2) := bdX4_fill_38.2.2.2.2.2.2.1
theorem dX4_fill_51 : decode cX4_fill 51 = .ok (.invokestatic 56, 3) := bdX4_fill_38.2.2.2.2.2.2.2.1
theorem dX4_fill_54 : decode cX4_fill 54 = .ok (.iload_n 2, 1) := bdX4_fill_38.2.2.2.2.2.2.2.2.1
theorem dX4_fill_55 : decode cX4_fill 55 = .ok (.if_icmp .ne 7, 3) := bdX4_fill_38.2.2.2.2.2.2.2.2.2
theorem bdX4_fill_58 : (decode cX4_fill 58 = .ok (.lload_n 3, 1)) ∧ (decode cX4_fill 59 = .ok (.goto 6, 3)) ∧ (decode cX4_fill 62 = .ok (.ldc2_w 62, 3)) ∧ (decode cX4_fill 65 = .ok (.lastore, 1)) ∧ (decode cX4_fill 66 = .ok (.iinc 5 1, 3)) ∧ (decode cX4_fill 69 = .ok (.goto (-42), 3)) ∧ (decode cX4_fill 72 = .ok (.aload_n 0, 1)) ∧ (decode cX4_fill 73 = .ok (.getfield 41, 3)) ∧ (decode cX4_fill 76 = .ok (.iconst 1, 1)) ∧ (decode cX4_fill 77 = .ok (.isub, 1)) := by decide +kernel
theorem dX4_fill_58 : decode cX4_fill 58 = .ok (.lload_n 3, 1) := bdX4_fill_58.1
theorem dX4_fill_59 : decode cX4_fill 59 = .ok (.goto 6, 3) := bdX4_fill_58.2.1
theorem dX4_fill_62 : decode cX4_fill 62 = .ok (.ldc2_w 62, 3) := bdX4_fill_58.2.2.1
theorem dX4_fill_65 : decode cX4_fill 65 = .ok (.lastore, 1) := bdX4_fill_58.2.2.2.1
theorem dX4_fill_66 : decode cX4_fill 66 = .ok (.iinc 5 1, 3) := bdX4_fill_58.2.2.2.2.1
theorem dX4_fill_69 : decode cX4_fill 69 = .ok (.goto (-42), 3) := bdX4_fill_58.2.2.2.2.2.1
theorem dX4_fill_72 : decode cX4_fill 72 = .ok (.aload_n 0, 1) := bdX4_fill_58.2.2.2.2.2.2.1
theorem dX4_fill_73 : decode cX4_fill 73 = .ok (.getfield 41, 3) := bdX4_fill_58.2.2.2.2.2.2.2.1
theorem dX4_fill_76 : decode cX4_fill 76 = .ok (.iconst 1, 1) := bdX4_fill_58.2.2.2.2.2.2.2.2.1
theorem dX4_fill_77 : decode cX4_fill 77 = .ok (.isub, 1) := bdX4_fill_58.2.2.2.2.2.2.2.2.2
theorem bdX4_fill_78 : (decode cX4_fill 78 = .ok (.istore 5, 2)) ∧ (decode cX4_fill 80 = .ok (.iload 5, 2)) ∧ (decode cX4_fill 82 = .ok (.ifCond .lt 48, 3)) ∧ (decode cX4_fill 85 = .ok (.iconst 0, 1)) ∧ (decode cX4_fill 86 = .ok (.istore 6, 2)) ∧ (decode cX4_fill 88 = .ok (.iload 6, 2)) ∧ (decode cX4_fill 90 = .ok (.iconst 1, 1)) ∧ (decode cX4_fill 91 = .ok (.aload_n 0, 1)) ∧ (decode cX4_fill 92 = .ok (.getfield 45, 3)) ∧ (decode cX4_fill 95 = .ok (.ishl, 1)) := by decide +kernel
theorem dX4_fill_78 : decode cX4_fill 78 = .ok (.istore 5, 2) := bdX4_fill_78.1
theorem dX4_fill_80 : decode cX4_fill 80 = .ok (.iload 5, 2) := bdX4_fill_78.2.1
theorem dX4_fill_82 : decode cX4_fill 82 = .ok (.ifCond .lt 48, 3) := bdX4_fill_78.2.2.1
theorem dX4_fill_85 : decode cX4_fill 85 = .ok (.iconst 0, 1) := bdX4_fill_78.2.2.2.1
theorem dX4_fill_86 : decode cX4_fill 86 = .ok (.istore 6, 2) := bdX4_fill_78.2.2.2.2.1
theorem dX4_fill_88 : decode cX4_fill 88 = .ok (.iload 6, 2) := bdX4_fill_78.2.2.2.2.2.1
theorem dX4_fill_90 : decode cX4_fill 90 = .ok (.iconst 1, 1) := bdX4_fill_78.2.2.2.2.2.2.1
theorem dX4_fill_91 : decode cX4_fill 91 = .ok (.aload_n 0, 1) := bdX4_fill_78.2.2.2.2.2.2.2.1
theorem dX4_fill_92 : decode cX4_fill 92 = .ok (.getfield 45, 3) := bdX4_fill_78.2.2.2.2.2.2.2.2.1
theorem dX4_fill_95 : decode cX4_fill 95 = .ok (.ishl, 1) := bdX4_fill_78.2.2.2.2.2.2.2.2.2
theorem bdX4_fill_96 : (decode cX4_fill 96 = .ok (.if_icmp .ge 28, 3)) ∧ (decode cX4_fill 99 = .ok (.aload_n 0, 1)) ∧ (decode cX4_fill 100 = .ok (.getfield 20, 3)) ∧ (decode cX4_fill 103 = .ok (.iload 5, 2)) ∧ (decode cX4_fill 105 = .ok (.aaload, 1)) ∧ (decode cX4_fill 106 = .ok (.iload 6, 2)) ∧ (decode cX4_fill 108 = .ok (.aload_n 0, 1)) ∧ (decode cX4_fill 109 = .ok (.iload 5, 2)) ∧ (decode cX4_fill 111 = .ok (.iload 6, 2)) ∧ (decode cX4_fill 113 = .ok (.iload_n 1, 1)) := by decide +kernel
theorem dX4_fill_96 : decode cX4_fill 96 = .ok (.if_icmp .ge 28, 3) := bdX4_fill_96.1
theorem dX4_fill_99 : decode cX4_fill 99 = .ok (.aload_n 0, 1) := bdX4_fill_96.2.1
theorem dX4_fill_100 : decode cX4_fill 100 = .ok (.getfield 20, 3) := bdX4_fill_96.2.2.1
theorem dX4_fill_103 : decode cX4_fill 103 = .ok (.iload 5, 2) := bdX4_fill_96.2.2.2.1
theorem dX4_fill_105 : decode cX4_fill 105 = .ok (.aaload, 1) := bdX4_fill_96.2.2.2.2.1
theorem dX4_fill_106 : decode cX4_fill 106 = .ok (.iload 6, 2) := bdX4_fill_96.2.2.2.2.2.1
theorem dX4_fill_108 : decode cX4_fill 108 = .ok (.aload_n 0, 1) := bdX4_fill_96.2.2.2.2.2.2.1
theorem dX4_fill_109 : decode cX4_fill 109 = .ok (.iload 5, 2) := bdX4_fill_96.2.2.2.2.2.2.2.1
theorem dX4_fill_111 : decode cX4_fill 111 = .ok (.iload 6, 2) := bdX4_fill_96.2.2.2.2.2.2.2.2.1
theorem dX4_fill_113 : decode cX4_fill 113 = .ok (.iload_n 1, 1) := bdX4_fill_96.2.2.2.2.2.2.2.2.2
theorem bdX4_fill_114 : (decode cX4_fill 114 = .ok (.invokevirtual 64, 3)) ∧ (decode cX4_fill 117 = .ok (.lastore, 1)) ∧ (decode cX4_fill 118 = .ok (.iinc 6 1, 3)) ∧ (decode cX4_fill 121 = .ok (.goto (-33), 3)) ∧ (decode cX4_fill 124 = .ok (.iinc 5 (-1), 3)) ∧ (decode cX4_fill 127 = .ok (.goto (-47), 3)) ∧ (decode cX4_fill 130 = .ok (.return_, 1)) := by decide +kernel
theorem dX4_fill_114 : decode cX4_fill 114 = .ok (.invokevirtual 64, 3) := bdX4_fill_114.1
theorem dX4_fill_117 : decode cX4_fill 117 = .ok (.lastore, 1) := bdX4_fill_114.2.1
theorem dX4_fill_118 : decode cX4_fill 118 = .ok (.iinc 6 1, 3) := bdX4_fill_114.2.2.1
theorem dX4_fill_121 : decode cX4_fill 121 = .ok (.goto (-33), 3) := bdX4_fill_114.2.2.2.1
theorem dX4_fill_124 : decode cX4_fill 124 = .ok (.iinc 5 (-1), 3) := bdX4_fill_114.2.2.2.2.1
theorem dX4_fill_127 : decode cX4_fill 127 = .ok (.goto (-47), 3) := bdX4_fill_114.2.2.2.2.2.1
theorem dX4_fill_130 : decode cX4_fill 130 = .ok (.return_, 1) := bdX4_fill_114.2.2.2.2.2.2
theorem bdX4_mostFrom_0 : (decode cX4_mostFrom 0 = .ok (.aload_n 0, 1)) ∧ (decode cX4_mostFrom 1 = .ok (.iload_n 1, 1)) ∧ (decode cX4_mostFrom 2 = .ok (.iload_n 2, 1)) ∧ (decode cX4_mostFrom 3 = .ok (.invokevirtual 68, 3)) ∧ (decode cX4_mostFrom 6 = .ok (.ifCond .ne 7, 3)) ∧ (decode cX4_mostFrom 9 = .ok (.ldc2_w 62, 3)) ∧ (decode cX4_mostFrom 12 = .ok (.lreturn, 1)) ∧ (decode cX4_mostFrom 13 = .ok (.aload_n 0, 1)) ∧ (decode cX4_mostFrom 14 = .ok (.getfield 20, 3)) ∧ (decode cX4_mostFrom 17 = .ok (.iload_n 1, 1)) := by decide +kernel
theorem dX4_mostFrom_0 : decode cX4_mostFrom 0 = .ok (.aload_n 0, 1) := bdX4_mostFrom_0.1
theorem dX4_mostFrom_1 : decode cX4_mostFrom 1 = .ok (.iload_n 1, 1) := bdX4_mostFrom_0.2.1
theorem dX4_mostFrom_2 : decode cX4_mostFrom 2 = .ok (.iload_n 2, 1) := bdX4_mostFrom_0.2.2.1
theorem dX4_mostFrom_3 : decode cX4_mostFrom 3 = .ok (.invokevirtual 68, 3) := bdX4_mostFrom_0.2.2.2.1
theorem dX4_mostFrom_6 : decode cX4_mostFrom 6 = .ok (.ifCond .ne 7, 3) := bdX4_mostFrom_0.2.2.2.2.1
theorem dX4_mostFrom_9 : decode cX4_mostFrom 9 = .ok (.ldc2_w 62, 3) := bdX4_mostFrom_0.2.2.2.2.2.1
theorem dX4_mostFrom_12 : decode cX4_mostFrom 12 = .ok (.lreturn, 1) := bdX4_mostFrom_0.2.2.2.2.2.2.1
theorem dX4_mostFrom_13 : decode cX4_mostFrom 13 = .ok (.aload_n 0, 1) := bdX4_mostFrom_0.2.2.2.2.2.2.2.1
theorem dX4_mostFrom_14 : decode cX4_mostFrom 14 = .ok (.getfield 20, 3) := bdX4_mostFrom_0.2.2.2.2.2.2.2.2.1
theorem dX4_mostFrom_17 : decode cX4_mostFrom 17 = .ok (.iload_n 1, 1) := bdX4_mostFrom_0.2.2.2.2.2.2.2.2.2
theorem bdX4_mostFrom_18 : (decode cX4_mostFrom 18 = .ok (.iconst 1, 1)) ∧ (decode cX4_mostFrom 19 = .ok (.iadd, 1)) ∧ (decode cX4_mostFrom 20 = .ok (.aaload, 1)) ∧ (decode cX4_mostFrom 21 = .ok (.iload_n 2, 1)) ∧ (decode cX4_mostFrom 22 = .ok (.laload, 1)) ∧ (decode cX4_mostFrom 23 = .ok (.lstore 4, 2)) ∧ (decode cX4_mostFrom 25 = .ok (.iconst 0, 1)) ∧ (decode cX4_mostFrom 26 = .ok (.istore 6, 2)) ∧ (decode cX4_mostFrom 28 = .ok (.iload 6, 2)) ∧ (decode cX4_mostFrom 30 = .ok (.aload_n 0, 1)) := by decide +kernel
theorem dX4_mostFrom_18 : decode cX4_mostFrom 18 = .ok (.iconst 1, 1) := bdX4_mostFrom_18.1
theorem dX4_mostFrom_19 : decode cX4_mostFrom 19 = .ok (.iadd, 1) := bdX4_mostFrom_18.2.1
theorem dX4_mostFrom_20 : decode cX4_mostFrom 20 = .ok (.aaload, 1) := bdX4_mostFrom_18.2.2.1
theorem dX4_mostFrom_21 : decode cX4_mostFrom 21 = .ok (.iload_n 2, 1) := bdX4_mostFrom_18.2.2.2.1
theorem dX4_mostFrom_22 : decode cX4_mostFrom 22 = .ok (.laload, 1) := bdX4_mostFrom_18.2.2.2.2.1
theorem dX4_mostFrom_23 : decode cX4_mostFrom 23 = .ok (.lstore 4, 2) := bdX4_mostFrom_18.2.2.2.2.2.1
theorem dX4_mostFrom_25 : decode cX4_mostFrom 25 = .ok (.iconst 0, 1) := bdX4_mostFrom_18.2.2.2.2.2.2.1
theorem dX4_mostFrom_26 : decode cX4_mostFrom 26 = .ok (.istore 6, 2) := bdX4_mostFrom_18.2.2.2.2.2.2.2.1
theorem dX4_mostFrom_28 : decode cX4_mostFrom 28 = .ok (.iload 6, 2) := bdX4_mostFrom_18.2.2.2.2.2.2.2.2.1
theorem dX4_mostFrom_30 : decode cX4_mostFrom 30 = .ok (.aload_n 0, 1) := bdX4_mostFrom_18.2.2.2.2.2.2.2.2.2
theorem bdX4_mostFrom_31 : (decode cX4_mostFrom 31 = .ok (.getfield 45, 3)) ∧ (decode cX4_mostFrom 34 = .ok (.if_icmp .ge 85, 3)) ∧ (decode cX4_mostFrom 37 = .ok (.iload_n 2, 1)) ∧ (decode cX4_mostFrom 38 = .ok (.iload 6, 2)) ∧ (decode cX4_mostFrom 40 = .ok (.ishr, 1)) ∧ (decode cX4_mostFrom 41 = .ok (.iconst 1, 1)) ∧ (decode cX4_mostFrom 42 = .ok (.iand, 1)) ∧ (decode cX4_mostFrom 43 = .ok (.ifCond .eq 6, 3)) ∧ (decode cX4_mostFrom 46 = .ok (.goto 67, 3)) ∧ (decode cX4_mostFrom 49 = .ok (.aload_n 0, 1)) := by decide +kernel
theorem dX4_mostFrom_31 : decode cX4_mostFrom 31 = .ok (.getfield 45, 3) := bdX4_mostFrom_31.1
theorem dX4_mostFrom_34 : decode cX4_mostFrom 34 = .ok (.if_icmp .ge 85, 3) := bdX4_mostFrom_31.2.1
theorem dX4_mostFrom_37 : decode cX4_mostFrom 37 = .ok (.iload_n 2, 1) := bdX4_mostFrom_31.2.2.1
theorem dX4_mostFrom_38 : decode cX4_mostFrom 38 = .ok (.iload 6, 2) := bdX4_mostFrom_31.2.2.2.1
theorem dX4_mostFrom_40 : decode cX4_mostFrom 40 = .ok (.ishr, 1) := bdX4_mostFrom_31.2.2.2.2.1
theorem dX4_mostFrom_41 : decode cX4_mostFrom 41 = .ok (.iconst 1, 1) := bdX4_mostFrom_31.2.2.2.2.2.1
theorem dX4_mostFrom_42 : decode cX4_mostFrom 42 = .ok (.iand, 1) := bdX4_mostFrom_31.2.2.2.2.2.2.1
theorem dX4_mostFrom_43 : decode cX4_mostFrom 43 = .ok (.ifCond .eq 6, 3) := bdX4_mostFrom_31.2.2.2.2.2.2.2.1
theorem dX4_mostFrom_46 : decode cX4_mostFrom 46 = .ok (.goto 67, 3) := bdX4_mostFrom_31.2.2.2.2.2.2.2.2.1
theorem dX4_mostFrom_49 : decode cX4_mostFrom 49 = .ok (.aload_n 0, 1) := bdX4_mostFrom_31.2.2.2.2.2.2.2.2.2
theorem bdX4_mostFrom_50 : (decode cX4_mostFrom 50 = .ok (.getfield 20, 3)) ∧ (decode cX4_mostFrom 53 = .ok (.iload_n 1, 1)) ∧ (decode cX4_mostFrom 54 = .ok (.iconst 1, 1)) ∧ (decode cX4_mostFrom 55 = .ok (.iadd, 1)) ∧ (decode cX4_mostFrom 56 = .ok (.aaload, 1)) ∧ (decode cX4_mostFrom 57 = .ok (.iload_n 2, 1)) ∧ (decode cX4_mostFrom 58 = .ok (.iconst 1, 1)) ∧ (decode cX4_mostFrom 59 = .ok (.iload 6, 2)) ∧ (decode cX4_mostFrom 61 = .ok (.ishl, 1)) ∧ (decode cX4_mostFrom 62 = .ok (.ior, 1)) := by decide +kernel
theorem dX4_mostFrom_50 : decode cX4_mostFrom 50 = .ok (.getfield 20, 3) := bdX4_mostFrom_50.1
theorem dX4_mostFrom_53 : decode cX4_mostFrom 53 = .ok (.iload_n 1, 1) := bdX4_mostFrom_50.2.1
theorem dX4_mostFrom_54 : decode cX4_mostFrom 54 = .ok (.iconst 1, 1) := bdX4_mostFrom_50.2.2.1
theorem dX4_mostFrom_55 : decode cX4_mostFrom 55 = .ok (.iadd, 1) := bdX4_mostFrom_50.2.2.2.1
theorem dX4_mostFrom_56 : decode cX4_mostFrom 56 = .ok (.aaload, 1) := bdX4_mostFrom_50.2.2.2.2.1
theorem dX4_mostFrom_57 : decode cX4_mostFrom 57 = .ok (.iload_n 2, 1) := bdX4_mostFrom_50.2.2.2.2.2.1
theorem dX4_mostFrom_58 : decode cX4_mostFrom 58 = .ok (.iconst 1, 1) := bdX4_mostFrom_50.2.2.2.2.2.2.1
theorem dX4_mostFrom_59 : decode cX4_mostFrom 59 = .ok (.iload 6, 2) := bdX4_mostFrom_50.2.2.2.2.2.2.2.1
theorem dX4_mostFrom_61 : decode cX4_mostFrom 61 = .ok (.ishl, 1) := bdX4_mostFrom_50.2.2.2.2.2.2.2.2.1
theorem dX4_mostFrom_62 : decode cX4_mostFrom 62 = .ok (.ior, 1) := bdX4_mostFrom_50.2.2.2.2.2.2.2.2.2
theorem bdX4_mostFrom_63 : (decode cX4_mostFrom 63 = .ok (.laload, 1)) ∧ (decode cX4_mostFrom 64 = .ok (.lstore 7, 2)) ∧ (decode cX4_mostFrom 66 = .ok (.lload 7, 2)) ∧ (decode cX4_mostFrom 68 = .ok (.ldc2_w 62, 3)) ∧ (decode cX4_mostFrom 71 = .ok (.lcmp, 1)) ∧ (decode cX4_mostFrom 72 = .ok (.ifCond .eq 41, 3)) ∧ (decode cX4_mostFrom 75 = .ok (.aload_n 0, 1)) ∧ (decode cX4_mostFrom 76 = .ok (.getfield 13, 3)) ∧ (decode cX4_mostFrom 79 = .ok (.iload_n 1, 1)) ∧ (decode cX4_mostFrom 80 = .ok (.aaload, 1)) := by decide +kernel
theorem dX4_mostFrom_63 : decode cX4_mostFrom 63 = .ok (.laload, 1) := bdX4_mostFrom_63.1
theorem dX4_mostFrom_64 : decode cX4_mostFrom 64 = .ok (.lstore 7, 2) := bdX4_mostFrom_63.2.1
theorem dX4_mostFrom_66 : decode cX4_mostFrom 66 = .ok (.lload 7, 2) := bdX4_mostFrom_63.2.2.1
theorem dX4_mostFrom_68 : decode cX4_mostFrom 68 = .ok (.ldc2_w 62, 3) := bdX4_mostFrom_63.2.2.2.1
theorem dX4_mostFrom_71 : decode cX4_mostFrom 71 = .ok (.lcmp, 1) := bdX4_mostFrom_63.2.2.2.2.1
theorem dX4_mostFrom_72 : decode cX4_mostFrom 72 = .ok (.ifCond .eq 41, 3) := bdX4_mostFrom_63.2.2.2.2.2.1
theorem dX4_mostFrom_75 : decode cX4_mostFrom 75 = .ok (.aload_n 0, 1) := bdX4_mostFrom_63.2.2.2.2.2.2.1
theorem dX4_mostFrom_76 : decode cX4_mostFrom 76 = .ok (.getfield 13, 3) := bdX4_mostFrom_63.2.2.2.2.2.2.2.1
theorem dX4_mostFrom_79 : decode cX4_mostFrom 79 = .ok (.iload_n 1, 1) := bdX4_mostFrom_63.2.2.2.2.2.2.2.2.1
theorem dX4_mostFrom_80 : decode cX4_mostFrom 80 = .ok (.aaload, 1) := bdX4_mostFrom_63.2.2.2.2.2.2.2.2.2
theorem bdX4_mostFrom_81 : (decode cX4_mostFrom 81 = .ok (.iload 6, 2)) ∧ (decode cX4_mostFrom 83 = .ok (.iaload, 1)) ∧ (decode cX4_mostFrom 84 = .ok (.i2l, 1)) ∧ (decode cX4_mostFrom 85 = .ok (.lstore 9, 2)) ∧ (decode cX4_mostFrom 87 = .ok (.lload 4, 2)) ∧ (decode cX4_mostFrom 89 = .ok (.iload_n 3, 1)) ∧ (decode cX4_mostFrom 90 = .ok (.ifCond .eq 13, 3)) ∧ (decode cX4_mostFrom 93 = .ok (.lload 9, 2)) ∧ (decode cX4_mostFrom 95 = .ok (.lload 7, 2)) ∧ (decode cX4_mostFrom 97 = .ok (.invokestatic 72, 3)) := by decide +kernel
theorem dX4_mostFrom_81 : decode cX4_mostFrom 81 = .ok (.iload 6, 2) := bdX4_mostFrom_81.1
theorem dX4_mostFrom_83 : decode cX4_mostFrom 83 = .ok (.iaload, 1) := bdX4_mostFrom_81.2.1
theorem dX4_mostFrom_84 : decode cX4_mostFrom 84 = .ok (.i2l, 1) := bdX4_mostFrom_81.2.2.1
theorem dX4_mostFrom_85 : decode cX4_mostFrom 85 = .ok (.lstore 9, 2) := bdX4_mostFrom_81.2.2.2.1
theorem dX4_mostFrom_87 : decode cX4_mostFrom 87 = .ok (.lload 4, 2) := bdX4_mostFrom_81.2.2.2.2.1
theorem dX4_mostFrom_89 : decode cX4_mostFrom 89 = .ok (.iload_n 3, 1) := bdX4_mostFrom_81.2.2.2.2.2.1
theorem dX4_mostFrom_90 : decode cX4_mostFrom 90 = .ok (.ifCond .eq 13, 3) := bdX4_mostFrom_81.2.2.2.2.2.2.1
theorem dX4_mostFrom_93 : decode cX4_mostFrom 93 = .ok (.lload 9, 2) := bdX4_mostFrom_81.2.2.2.2.2.2.2.1
theorem dX4_mostFrom_95 : decode cX4_mostFrom 95 = .ok (.lload 7, 2) := bdX4_mostFrom_81.2.2.2.2.2.2.2.2.1
theorem dX4_mostFrom_97 : decode cX4_mostFrom 97 = .ok (.invokestatic 72, 3) := bdX4_mostFrom_81.2.2.2.2.2.2.2.2.2
theorem bdX4_mostFrom_100 : (decode cX4_mostFrom 100 = .ok (.goto 8, 3)) ∧ (decode cX4_mostFrom 103 = .ok (.lload 9, 2)) ∧ (decode cX4_mostFrom 105 = .ok (.lload 7, 2)) ∧ (decode cX4_mostFrom 107 = .ok (.ladd, 1)) ∧ (decode cX4_mostFrom 108 = .ok (.invokestatic 75, 3)) ∧ (decode cX4_mostFrom 111 = .ok (.lstore 4, 2)) ∧ (decode cX4_mostFrom 113 = .ok (.iinc 6 1, 3)) ∧ (decode cX4_mostFrom 116 = .ok (.goto (-88), 3)) ∧ (decode cX4_mostFrom 119 = .ok (.lload 4, 2)) ∧ (decode cX4_mostFrom 121 = .ok (.lreturn, 1)) := by decide +kernel
theorem dX4_mostFrom_100 : decode cX4_mostFrom 100 = .ok (.goto 8, 3) := bdX4_mostFrom_100.1
theorem dX4_mostFrom_103 : decode cX4_mostFrom 103 = .ok (.lload 9, 2) := bdX4_mostFrom_100.2.1
theorem dX4_mostFrom_105 : decode cX4_mostFrom 105 = .ok (.lload 7, 2) := bdX4_mostFrom_100.2.2.1
theorem dX4_mostFrom_107 : decode cX4_mostFrom 107 = .ok (.ladd, 1) := bdX4_mostFrom_100.2.2.2.1
theorem dX4_mostFrom_108 : decode cX4_mostFrom 108 = .ok (.invokestatic 75, 3) := bdX4_mostFrom_100.2.2.2.2.1
theorem dX4_mostFrom_111 : decode cX4_mostFrom 111 = .ok (.lstore 4, 2) := bdX4_mostFrom_100.2.2.2.2.2.1
theorem dX4_mostFrom_113 : decode cX4_mostFrom 113 = .ok (.iinc 6 1, 3) := bdX4_mostFrom_100.2.2.2.2.2.2.1
theorem dX4_mostFrom_116 : decode cX4_mostFrom 116 = .ok (.goto (-88), 3) := bdX4_mostFrom_100.2.2.2.2.2.2.2.1
theorem dX4_mostFrom_119 : decode cX4_mostFrom 119 = .ok (.lload 4, 2) := bdX4_mostFrom_100.2.2.2.2.2.2.2.2.1
theorem dX4_mostFrom_121 : decode cX4_mostFrom 121 = .ok (.lreturn, 1) := bdX4_mostFrom_100.2.2.2.2.2.2.2.2.2
theorem bdX4_canBeGiven_0 : (decode cX4_canBeGiven 0 = .ok (.iload_n 1, 1)) ∧ (decode cX4_canBeGiven 1 = .ok (.iload_n 2, 1)) ∧ (decode cX4_canBeGiven 2 = .ok (.invokestatic 56, 3)) ∧ (decode cX4_canBeGiven 5 = .ok (.isub, 1)) ∧ (decode cX4_canBeGiven 6 = .ok (.istore_n 3, 1)) ∧ (decode cX4_canBeGiven 7 = .ok (.iload_n 3, 1)) ∧ (decode cX4_canBeGiven 8 = .ok (.ifCond .lt 27, 3)) ∧ (decode cX4_canBeGiven 11 = .ok (.iload_n 3, 1)) ∧ (decode cX4_canBeGiven 12 = .ok (.aload_n 0, 1)) ∧ (decode cX4_canBeGiven 13 = .ok (.getfield 41, 3)) := by decide +kernel
theorem dX4_canBeGiven_0 : decode cX4_canBeGiven 0 = .ok (.iload_n 1, 1) := bdX4_canBeGiven_0.1
theorem dX4_canBeGiven_1 : decode cX4_canBeGiven 1 = .ok (.iload_n 2, 1) := bdX4_canBeGiven_0.2.1
theorem dX4_canBeGiven_2 : decode cX4_canBeGiven 2 = .ok (.invokestatic 56, 3) := bdX4_canBeGiven_0.2.2.1
theorem dX4_canBeGiven_5 : decode cX4_canBeGiven 5 = .ok (.isub, 1) := bdX4_canBeGiven_0.2.2.2.1
theorem dX4_canBeGiven_6 : decode cX4_canBeGiven 6 = .ok (.istore_n 3, 1) := bdX4_canBeGiven_0.2.2.2.2.1
theorem dX4_canBeGiven_7 : decode cX4_canBeGiven 7 = .ok (.iload_n 3, 1) := bdX4_canBeGiven_0.2.2.2.2.2.1
theorem dX4_canBeGiven_8 : decode cX4_canBeGiven 8 = .ok (.ifCond .lt 27, 3) := bdX4_canBeGiven_0.2.2.2.2.2.2.1
theorem dX4_canBeGiven_11 : decode cX4_canBeGiven 11 = .ok (.iload_n 3, 1) := bdX4_canBeGiven_0.2.2.2.2.2.2.2.1
theorem dX4_canBeGiven_12 : decode cX4_canBeGiven 12 = .ok (.aload_n 0, 1) := bdX4_canBeGiven_0.2.2.2.2.2.2.2.2.1
theorem dX4_canBeGiven_13 : decode cX4_canBeGiven 13 = .ok (.getfield 41, 3) := bdX4_canBeGiven_0.2.2.2.2.2.2.2.2.2
theorem bdX4_canBeGiven_16 : (decode cX4_canBeGiven 16 = .ok (.aload_n 0, 1)) ∧ (decode cX4_canBeGiven 17 = .ok (.getfield 41, 3)) ∧ (decode cX4_canBeGiven 20 = .ok (.aload_n 0, 1)) ∧ (decode cX4_canBeGiven 21 = .ok (.getfield 45, 3)) ∧ (decode cX4_canBeGiven 24 = .ok (.invokestatic 35, 3)) ∧ (decode cX4_canBeGiven 27 = .ok (.isub, 1)) ∧ (decode cX4_canBeGiven 28 = .ok (.if_icmp .gt 7, 3)) ∧ (decode cX4_canBeGiven 31 = .ok (.iconst 1, 1)) ∧ (decode cX4_canBeGiven 32 = .ok (.goto 4, 3)) ∧ (decode cX4_canBeGiven 35 = .ok (.iconst 0, 1)) := by decide +kernel
theorem dX4_canBeGiven_16 : decode cX4_canBeGiven 16 = .ok (.aload_n 0, 1) := bdX4_canBeGiven_16.1
theorem dX4_canBeGiven_17 : decode cX4_canBeGiven 17 = .ok (.getfield 41, 3) := bdX4_canBeGiven_16.2.1
theorem dX4_canBeGiven_20 : decode cX4_canBeGiven 20 = .ok (.aload_n 0, 1) := bdX4_canBeGiven_16.2.2.1
theorem dX4_canBeGiven_21 : decode cX4_canBeGiven 21 = .ok (.getfield 45, 3) := bdX4_canBeGiven_16.2.2.2.1
theorem dX4_canBeGiven_24 : decode cX4_canBeGiven 24 = .ok (.invokestatic 35, 3) := bdX4_canBeGiven_16.2.2.2.2.1
theorem dX4_canBeGiven_27 : decode cX4_canBeGiven 27 = .ok (.isub, 1) := bdX4_canBeGiven_16.2.2.2.2.2.1
theorem dX4_canBeGiven_28 : decode cX4_canBeGiven 28 = .ok (.if_icmp .gt 7, 3) := bdX4_canBeGiven_16.2.2.2.2.2.2.1
theorem dX4_canBeGiven_31 : decode cX4_canBeGiven 31 = .ok (.iconst 1, 1) := bdX4_canBeGiven_16.2.2.2.2.2.2.2.1
theorem dX4_canBeGiven_32 : decode cX4_canBeGiven 32 = .ok (.goto 4, 3) := bdX4_canBeGiven_16.2.2.2.2.2.2.2.2.1
theorem dX4_canBeGiven_35 : decode cX4_canBeGiven 35 = .ok (.iconst 0, 1) := bdX4_canBeGiven_16.2.2.2.2.2.2.2.2.2
theorem bdX4_canBeGiven_36 : (decode cX4_canBeGiven 36 = .ok (.ireturn, 1)) := by decide +kernel
theorem dX4_canBeGiven_36 : decode cX4_canBeGiven 36 = .ok (.ireturn, 1) := bdX4_canBeGiven_36
theorem bdX4_plotFor_0 : (decode cX4_plotFor 0 = .ok (.iconst 0, 1)) ∧ (decode cX4_plotFor 1 = .ok (.istore_n 2, 1)) ∧ (decode cX4_plotFor 2 = .ok (.iconst (-1), 1)) ∧ (decode cX4_plotFor 3 = .ok (.istore_n 3, 1)) ∧ (decode cX4_plotFor 4 = .ok (.iconst 0, 1)) ∧ (decode cX4_plotFor 5 = .ok (.istore 4, 2)) ∧ (decode cX4_plotFor 7 = .ok (.iload 4, 2)) ∧ (decode cX4_plotFor 9 = .ok (.iload_n 1, 1)) ∧ (decode cX4_plotFor 10 = .ok (.if_icmp .gt 37, 3)) ∧ (decode cX4_plotFor 13 = .ok (.iload 4, 2)) := by decide +kernel
theorem dX4_plotFor_0 : decode cX4_plotFor 0 = .ok (.iconst 0, 1) := bdX4_plotFor_0.1
theorem dX4_plotFor_1 : decode cX4_plotFor 1 = .ok (.istore_n 2, 1) := bdX4_plotFor_0.2.1
theorem dX4_plotFor_2 : decode cX4_plotFor 2 = .ok (.iconst (-1), 1) := bdX4_plotFor_0.2.2.1
theorem dX4_plotFor_3 : decode cX4_plotFor 3 = .ok (.istore_n 3, 1) := bdX4_plotFor_0.2.2.2.1
theorem dX4_plotFor_4 : decode cX4_plotFor 4 = .ok (.iconst 0, 1) := bdX4_plotFor_0.2.2.2.2.1
theorem dX4_plotFor_5 : decode cX4_plotFor 5 = .ok (.istore 4, 2) := bdX4_plotFor_0.2.2.2.2.2.1
theorem dX4_plotFor_7 : decode cX4_plotFor 7 = .ok (.iload 4, 2) := bdX4_plotFor_0.2.2.2.2.2.2.1
theorem dX4_plotFor_9 : decode cX4_plotFor 9 = .ok (.iload_n 1, 1) := bdX4_plotFor_0.2.2.2.2.2.2.2.1
theorem dX4_plotFor_10 : decode cX4_plotFor 10 = .ok (.if_icmp .gt 37, 3) := bdX4_plotFor_0.2.2.2.2.2.2.2.2.1
theorem dX4_plotFor_13 : decode cX4_plotFor 13 = .ok (.iload 4, 2) := bdX4_plotFor_0.2.2.2.2.2.2.2.2.2
theorem bdX4_plotFor_15 : (decode cX4_plotFor 15 = .ok (.aload_n 0, 1)) ∧ (decode cX4_plotFor 16 = .ok (.getfield 41, 3)) ∧ (decode cX4_plotFor 19 = .ok (.if_icmp .ge 28, 3)) ∧ (decode cX4_plotFor 22 = .ok (.aload_n 0, 1)) ∧ (decode cX4_plotFor 23 = .ok (.iload 4, 2)) ∧ (decode cX4_plotFor 25 = .ok (.iload_n 2, 1)) ∧ (decode cX4_plotFor 26 = .ok (.invokevirtual 78, 3)) ∧ (decode cX4_plotFor 29 = .ok (.istore_n 3, 1)) ∧ (decode cX4_plotFor 30 = .ok (.iload_n 3, 1)) ∧ (decode cX4_plotFor 31 = .ok (.iconst (-1), 1)) := by decide +kernel
theorem dX4_plotFor_15 : decode cX4_plotFor 15 = .ok (.aload_n 0, 1) := bdX4_plotFor_15.1
theorem dX4_plotFor_16 : decode cX4_plotFor 16 = .ok (.getfield 41, 3) := bdX4_plotFor_15.2.1
theorem dX4_plotFor_19 : decode cX4_plotFor 19 = .ok (.if_icmp .ge 28, 3) := bdX4_plotFor_15.2.2.1
theorem dX4_plotFor_22 : decode cX4_plotFor 22 = .ok (.aload_n 0, 1) := bdX4_plotFor_15.2.2.2.1
theorem dX4_plotFor_23 : decode cX4_plotFor 23 = .ok (.iload 4, 2) := bdX4_plotFor_15.2.2.2.2.1
theorem dX4_plotFor_25 : decode cX4_plotFor 25 = .ok (.iload_n 2, 1) := bdX4_plotFor_15.2.2.2.2.2.1
theorem dX4_plotFor_26 : decode cX4_plotFor 26 = .ok (.invokevirtual 78, 3) := bdX4_plotFor_15.2.2.2.2.2.2.1
theorem dX4_plotFor_29 : decode cX4_plotFor 29 = .ok (.istore_n 3, 1) := bdX4_plotFor_15.2.2.2.2.2.2.2.1
theorem dX4_plotFor_30 : decode cX4_plotFor 30 = .ok (.iload_n 3, 1) := bdX4_plotFor_15.2.2.2.2.2.2.2.2.1
theorem dX4_plotFor_31 : decode cX4_plotFor 31 = .ok (.iconst (-1), 1) := bdX4_plotFor_15.2.2.2.2.2.2.2.2.2
theorem bdX4_plotFor_32 : (decode cX4_plotFor 32 = .ok (.if_icmp .eq 9, 3)) ∧ (decode cX4_plotFor 35 = .ok (.iload_n 2, 1)) ∧ (decode cX4_plotFor 36 = .ok (.iconst 1, 1)) ∧ (decode cX4_plotFor 37 = .ok (.iload_n 3, 1)) ∧ (decode cX4_plotFor 38 = .ok (.ishl, 1)) ∧ (decode cX4_plotFor 39 = .ok (.ior, 1)) ∧ (decode cX4_plotFor 40 = .ok (.istore_n 2, 1)) ∧ (decode cX4_plotFor 41 = .ok (.iinc 4 1, 3)) ∧ (decode cX4_plotFor 44 = .ok (.goto (-37), 3)) ∧ (decode cX4_plotFor 47 = .ok (.iload_n 3, 1)) := by decide +kernel
theorem dX4_plotFor_32 : decode cX4_plotFor 32 = .ok (.if_icmp .eq 9, 3) := bdX4_plotFor_32.1
theorem dX4_plotFor_35 : decode cX4_plotFor 35 = .ok (.iload_n 2, 1) := bdX4_plotFor_32.2.1
theorem dX4_plotFor_36 : decode cX4_plotFor 36 = .ok (.iconst 1, 1) := bdX4_plotFor_32.2.2.1
theorem dX4_plotFor_37 : decode cX4_plotFor 37 = .ok (.iload_n 3, 1) := bdX4_plotFor_32.2.2.2.1
theorem dX4_plotFor_38 : decode cX4_plotFor 38 = .ok (.ishl, 1) := bdX4_plotFor_32.2.2.2.2.1
theorem dX4_plotFor_39 : decode cX4_plotFor 39 = .ok (.ior, 1) := bdX4_plotFor_32.2.2.2.2.2.1
theorem dX4_plotFor_40 : decode cX4_plotFor 40 = .ok (.istore_n 2, 1) := bdX4_plotFor_32.2.2.2.2.2.2.1
theorem dX4_plotFor_41 : decode cX4_plotFor 41 = .ok (.iinc 4 1, 3) := bdX4_plotFor_32.2.2.2.2.2.2.2.1
theorem dX4_plotFor_44 : decode cX4_plotFor 44 = .ok (.goto (-37), 3) := bdX4_plotFor_32.2.2.2.2.2.2.2.2.1
theorem dX4_plotFor_47 : decode cX4_plotFor 47 = .ok (.iload_n 3, 1) := bdX4_plotFor_32.2.2.2.2.2.2.2.2.2
theorem bdX4_plotFor_48 : (decode cX4_plotFor 48 = .ok (.ireturn, 1)) := by decide +kernel
theorem dX4_plotFor_48 : decode cX4_plotFor 48 = .ok (.ireturn, 1) := bdX4_plotFor_48
theorem bdX4_firstPlot_0 : (decode cX4_firstPlot 0 = .ok (.iconst 0, 1)) ∧ (decode cX4_firstPlot 1 = .ok (.istore_n 3, 1)) ∧ (decode cX4_firstPlot 2 = .ok (.iload_n 3, 1)) ∧ (decode cX4_firstPlot 3 = .ok (.aload_n 0, 1)) ∧ (decode cX4_firstPlot 4 = .ok (.getfield 45, 3)) ∧ (decode cX4_firstPlot 7 = .ok (.if_icmp .ge 71, 3)) ∧ (decode cX4_firstPlot 10 = .ok (.iload_n 2, 1)) ∧ (decode cX4_firstPlot 11 = .ok (.iload_n 3, 1)) ∧ (decode cX4_firstPlot 12 = .ok (.ishr, 1)) ∧ (decode cX4_firstPlot 13 = .ok (.iconst 1, 1)) := by decide +kernel
theorem dX4_firstPlot_0 : decode cX4_firstPlot 0 = .ok (.iconst 0, 1) := bdX4_firstPlot_0.1
theorem dX4_firstPlot_1 : decode cX4_firstPlot 1 = .ok (.istore_n 3, 1) := bdX4_firstPlot_0.2.1
theorem dX4_firstPlot_2 : decode cX4_firstPlot 2 = .ok (.iload_n 3, 1) := bdX4_firstPlot_0.2.2.1
theorem dX4_firstPlot_3 : decode cX4_firstPlot 3 = .ok (.aload_n 0, 1) := bdX4_firstPlot_0.2.2.2.1
theorem dX4_firstPlot_4 : decode cX4_firstPlot 4 = .ok (.getfield 45, 3) := bdX4_firstPlot_0.2.2.2.2.1
theorem dX4_firstPlot_7 : decode cX4_firstPlot 7 = .ok (.if_icmp .ge 71, 3) := bdX4_firstPlot_0.2.2.2.2.2.1
theorem dX4_firstPlot_10 : decode cX4_firstPlot 10 = .ok (.iload_n 2, 1) := bdX4_firstPlot_0.2.2.2.2.2.2.1
theorem dX4_firstPlot_11 : decode cX4_firstPlot 11 = .ok (.iload_n 3, 1) := bdX4_firstPlot_0.2.2.2.2.2.2.2.1
theorem dX4_firstPlot_12 : decode cX4_firstPlot 12 = .ok (.ishr, 1) := bdX4_firstPlot_0.2.2.2.2.2.2.2.2.1
theorem dX4_firstPlot_13 : decode cX4_firstPlot 13 = .ok (.iconst 1, 1) := bdX4_firstPlot_0.2.2.2.2.2.2.2.2.2
theorem bdX4_firstPlot_14 : (decode cX4_firstPlot 14 = .ok (.iand, 1)) ∧ (decode cX4_firstPlot 15 = .ok (.ifCond .eq 6, 3)) ∧ (decode cX4_firstPlot 18 = .ok (.goto 54, 3)) ∧ (decode cX4_firstPlot 21 = .ok (.aload_n 0, 1)) ∧ (decode cX4_firstPlot 22 = .ok (.getfield 20, 3)) ∧ (decode cX4_firstPlot 25 = .ok (.iload_n 1, 1)) ∧ (decode cX4_firstPlot 26 = .ok (.iconst 1, 1)) ∧ (decode cX4_firstPlot 27 = .ok (.iadd, 1)) ∧ (decode cX4_firstPlot 28 = .ok (.aaload, 1)) ∧ (decode cX4_firstPlot 29 = .ok (.iload_n 2, 1)) := by decide +kernel
theorem dX4_firstPlot_14 : decode cX4_firstPlot 14 = .ok (.iand, 1) := bdX4_firstPlot_14.1
theorem dX4_firstPlot_15 : decode cX4_firstPlot 15 = .ok (.ifCond .eq 6, 3) := bdX4_firstPlot_14.2.1
theorem dX4_firstPlot_18 : decode cX4_firstPlot 18 = .ok (.goto 54, 3) := bdX4_firstPlot_14.2.2.1
theorem dX4_firstPlot_21 : decode cX4_firstPlot 21 = .ok (.aload_n 0, 1) := bdX4_firstPlot_14.2.2.2.1
theorem dX4_firstPlot_22 : decode cX4_firstPlot 22 = .ok (.getfield 20, 3) := bdX4_firstPlot_14.2.2.2.2.1
theorem dX4_firstPlot_25 : decode cX4_firstPlot 25 = .ok (.iload_n 1, 1) := bdX4_firstPlot_14.2.2.2.2.2.1
theorem dX4_firstPlot_26 : decode cX4_firstPlot 26 = .ok (.iconst 1, 1) := bdX4_firstPlot_14.2.2.2.2.2.2.1
theorem dX4_firstPlot_27 : decode cX4_firstPlot 27 = .ok (.iadd, 1) := bdX4_firstPlot_14.2.2.2.2.2.2.2.1
theorem dX4_firstPlot_28 : decode cX4_firstPlot 28 = .ok (.aaload, 1) := bdX4_firstPlot_14.2.2.2.2.2.2.2.2.1
theorem dX4_firstPlot_29 : decode cX4_firstPlot 29 = .ok (.iload_n 2, 1) := bdX4_firstPlot_14.2.2.2.2.2.2.2.2.2
theorem bdX4_firstPlot_30 : (decode cX4_firstPlot 30 = .ok (.iconst 1, 1)) ∧ (decode cX4_firstPlot 31 = .ok (.iload_n 3, 1)) ∧ (decode cX4_firstPlot 32 = .ok (.ishl, 1)) ∧ (decode cX4_firstPlot 33 = .ok (.ior, 1)) ∧ (decode cX4_firstPlot 34 = .ok (.laload, 1)) ∧ (decode cX4_firstPlot 35 = .ok (.lstore 4, 2)) ∧ (decode cX4_firstPlot 37 = .ok (.lload 4, 2)) ∧ (decode cX4_firstPlot 39 = .ok (.ldc2_w 62, 3)) ∧ (decode cX4_firstPlot 42 = .ok (.lcmp, 1)) ∧ (decode cX4_firstPlot 43 = .ok (.ifCond .eq 29, 3)) := by decide +kernel
theorem dX4_firstPlot_30 : decode cX4_firstPlot 30 = .ok (.iconst 1, 1) := bdX4_firstPlot_30.1
theorem dX4_firstPlot_31 : decode cX4_firstPlot 31 = .ok (.iload_n 3, 1) := bdX4_firstPlot_30.2.1
theorem dX4_firstPlot_32 : decode cX4_firstPlot 32 = .ok (.ishl, 1) := bdX4_firstPlot_30.2.2.1
theorem dX4_firstPlot_33 : decode cX4_firstPlot 33 = .ok (.ior, 1) := bdX4_firstPlot_30.2.2.2.1
theorem dX4_firstPlot_34 : decode cX4_firstPlot 34 = .ok (.laload, 1) := bdX4_firstPlot_30.2.2.2.2.1
theorem dX4_firstPlot_35 : decode cX4_firstPlot 35 = .ok (.lstore 4, 2) := bdX4_firstPlot_30.2.2.2.2.2.1
theorem dX4_firstPlot_37 : decode cX4_firstPlot 37 = .ok (.lload 4, 2) := bdX4_firstPlot_30.2.2.2.2.2.2.1
theorem dX4_firstPlot_39 : decode cX4_firstPlot 39 = .ok (.ldc2_w 62, 3) := bdX4_firstPlot_30.2.2.2.2.2.2.2.1
theorem dX4_firstPlot_42 : decode cX4_firstPlot 42 = .ok (.lcmp, 1) := bdX4_firstPlot_30.2.2.2.2.2.2.2.2.1
theorem dX4_firstPlot_43 : decode cX4_firstPlot 43 = .ok (.ifCond .eq 29, 3) := bdX4_firstPlot_30.2.2.2.2.2.2.2.2.2
theorem bdX4_firstPlot_46 : (decode cX4_firstPlot 46 = .ok (.aload_n 0, 1)) ∧ (decode cX4_firstPlot 47 = .ok (.getfield 13, 3)) ∧ (decode cX4_firstPlot 50 = .ok (.iload_n 1, 1)) ∧ (decode cX4_firstPlot 51 = .ok (.aaload, 1)) ∧ (decode cX4_firstPlot 52 = .ok (.iload_n 3, 1)) ∧ (decode cX4_firstPlot 53 = .ok (.iaload, 1)) ∧ (decode cX4_firstPlot 54 = .ok (.i2l, 1)) ∧ (decode cX4_firstPlot 55 = .ok (.lload 4, 2)) ∧ (decode cX4_firstPlot 57 = .ok (.ladd, 1)) ∧ (decode cX4_firstPlot 58 = .ok (.aload_n 0, 1)) := by decide +kernel
theorem dX4_firstPlot_46 : decode cX4_firstPlot 46 = .ok (.aload_n 0, 1) := bdX4_firstPlot_46.1
theorem dX4_firstPlot_47 : decode cX4_firstPlot 47 = .ok (.getfield 13, 3) := bdX4_firstPlot_46.2.1
theorem dX4_firstPlot_50 : decode cX4_firstPlot 50 = .ok (.iload_n 1, 1) := bdX4_firstPlot_46.2.2.1
theorem dX4_firstPlot_51 : decode cX4_firstPlot 51 = .ok (.aaload, 1) := bdX4_firstPlot_46.2.2.2.1
theorem dX4_firstPlot_52 : decode cX4_firstPlot 52 = .ok (.iload_n 3, 1) := bdX4_firstPlot_46.2.2.2.2.1
theorem dX4_firstPlot_53 : decode cX4_firstPlot 53 = .ok (.iaload, 1) := bdX4_firstPlot_46.2.2.2.2.2.1
theorem dX4_firstPlot_54 : decode cX4_firstPlot 54 = .ok (.i2l, 1) := bdX4_firstPlot_46.2.2.2.2.2.2.1
theorem dX4_firstPlot_55 : decode cX4_firstPlot 55 = .ok (.lload 4, 2) := bdX4_firstPlot_46.2.2.2.2.2.2.2.1
theorem dX4_firstPlot_57 : decode cX4_firstPlot 57 = .ok (.ladd, 1) := bdX4_firstPlot_46.2.2.2.2.2.2.2.2.1
theorem dX4_firstPlot_58 : decode cX4_firstPlot 58 = .ok (.aload_n 0, 1) := bdX4_firstPlot_46.2.2.2.2.2.2.2.2.2
theorem bdX4_firstPlot_59 : (decode cX4_firstPlot 59 = .ok (.getfield 20, 3)) ∧ (decode cX4_firstPlot 62 = .ok (.iload_n 1, 1)) ∧ (decode cX4_firstPlot 63 = .ok (.aaload, 1)) ∧ (decode cX4_firstPlot 64 = .ok (.iload_n 2, 1)) ∧ (decode cX4_firstPlot 65 = .ok (.laload, 1)) ∧ (decode cX4_firstPlot 66 = .ok (.lcmp, 1)) ∧ (decode cX4_firstPlot 67 = .ok (.ifCond .ne 5, 3)) ∧ (decode cX4_firstPlot 70 = .ok (.iload_n 3, 1)) ∧ (decode cX4_firstPlot 71 = .ok (.ireturn, 1)) ∧ (decode cX4_firstPlot 72 = .ok (.iinc 3 1, 3)) := by decide +kernel
theorem dX4_firstPlot_59 : decode cX4_firstPlot 59 = .ok (.getfield 20, 3) := bdX4_firstPlot_59.1
theorem dX4_firstPlot_62 : decode cX4_firstPlot 62 = .ok (.iload_n 1, 1) := bdX4_firstPlot_59.2.1
theorem dX4_firstPlot_63 : decode cX4_firstPlot 63 = .ok (.aaload, 1) := bdX4_firstPlot_59.2.2.1
theorem dX4_firstPlot_64 : decode cX4_firstPlot 64 = .ok (.iload_n 2, 1) := bdX4_firstPlot_59.2.2.2.1
theorem dX4_firstPlot_65 : decode cX4_firstPlot 65 = .ok (.laload, 1) := bdX4_firstPlot_59.2.2.2.2.1
theorem dX4_firstPlot_66 : decode cX4_firstPlot 66 = .ok (.lcmp, 1) := bdX4_firstPlot_59.2.2.2.2.2.1
theorem dX4_firstPlot_67 : decode cX4_firstPlot 67 = .ok (.ifCond .ne 5, 3) := bdX4_firstPlot_59.2.2.2.2.2.2.1
theorem dX4_firstPlot_70 : decode cX4_firstPlot 70 = .ok (.iload_n 3, 1) := bdX4_firstPlot_59.2.2.2.2.2.2.2.1
theorem dX4_firstPlot_71 : decode cX4_firstPlot 71 = .ok (.ireturn, 1) := bdX4_firstPlot_59.2.2.2.2.2.2.2.2.1
theorem dX4_firstPlot_72 : decode cX4_firstPlot 72 = .ok (.iinc 3 1, 3) := bdX4_firstPlot_59.2.2.2.2.2.2.2.2.2
theorem bdX4_firstPlot_75 : (decode cX4_firstPlot 75 = .ok (.goto (-73), 3)) ∧ (decode cX4_firstPlot 78 = .ok (.iconst (-1), 1)) ∧ (decode cX4_firstPlot 79 = .ok (.ireturn, 1)) := by decide +kernel
theorem dX4_firstPlot_75 : decode cX4_firstPlot 75 = .ok (.goto (-73), 3) := bdX4_firstPlot_75.1
theorem dX4_firstPlot_78 : decode cX4_firstPlot 78 = .ok (.iconst (-1), 1) := bdX4_firstPlot_75.2.1
theorem dX4_firstPlot_79 : decode cX4_firstPlot 79 = .ok (.ireturn, 1) := bdX4_firstPlot_75.2.2
theorem bdX5_init_0 : (decode cX5_init 0 = .ok (.aload_n 0, 1)) ∧ (decode cX5_init 1 = .ok (.invokespecial 3, 3)) ∧ (decode cX5_init 4 = .ok (.aload_n 0, 1)) ∧ (decode cX5_init 5 = .ok (.iconst (-1), 1)) ∧ (decode cX5_init 6 = .ok (.putfield 9, 3)) ∧ (decode cX5_init 9 = .ok (.aload_n 0, 1)) ∧ (decode cX5_init 10 = .ok (.new 15, 3)) ∧ (decode cX5_init 13 = .ok (.dup, 1)) ∧ (decode cX5_init 14 = .ok (.aload_n 1, 1)) ∧ (decode cX5_init 15 = .ok (.invokespecial 17, 3)) := by decide +kernel
theorem dX5_init_0 : decode cX5_init 0 = .ok (.aload_n 0, 1) := bdX5_init_0.1
theorem dX5_init_1 : decode cX5_init 1 = .ok (.invokespecial 3, 3) := bdX5_init_0.2.1
theorem dX5_init_4 : decode cX5_init 4 = .ok (.aload_n 0, 1) := bdX5_init_0.2.2.1
theorem dX5_init_5 : decode cX5_init 5 = .ok (.iconst (-1), 1) := bdX5_init_0.2.2.2.1
theorem dX5_init_6 : decode cX5_init 6 = .ok (.putfield 9, 3) := bdX5_init_0.2.2.2.2.1
theorem dX5_init_9 : decode cX5_init 9 = .ok (.aload_n 0, 1) := bdX5_init_0.2.2.2.2.2.1
theorem dX5_init_10 : decode cX5_init 10 = .ok (.new 15, 3) := bdX5_init_0.2.2.2.2.2.2.1
theorem dX5_init_13 : decode cX5_init 13 = .ok (.dup, 1) := bdX5_init_0.2.2.2.2.2.2.2.1
theorem dX5_init_14 : decode cX5_init 14 = .ok (.aload_n 1, 1) := bdX5_init_0.2.2.2.2.2.2.2.2.1
theorem dX5_init_15 : decode cX5_init 15 = .ok (.invokespecial 17, 3) := bdX5_init_0.2.2.2.2.2.2.2.2.2
theorem bdX5_init_18 : (decode cX5_init 18 = .ok (.putfield 20, 3)) ∧ (decode cX5_init 21 = .ok (.aload_n 0, 1)) ∧ (decode cX5_init 22 = .ok (.aload_n 2, 1)) ∧ (decode cX5_init 23 = .ok (.putfield 24, 3)) ∧ (decode cX5_init 26 = .ok (.aload_n 0, 1)) ∧ (decode cX5_init 27 = .ok (.aload_n 2, 1)) ∧ (decode cX5_init 28 = .ok (.getfield 28, 3)) ∧ (decode cX5_init 31 = .ok (.putfield 34, 3)) ∧ (decode cX5_init 34 = .ok (.return_, 1)) := by decide +kernel
theorem dX5_init_18 : decode cX5_init 18 = .ok (.putfield 20, 3) := bdX5_init_18.1
theorem dX5_init_21 : decode cX5_init 21 = .ok (.aload_n 0, 1) := bdX5_init_18.2.1
theorem dX5_init_22 : decode cX5_init 22 = .ok (.aload_n 2, 1) := bdX5_init_18.2.2.1
theorem dX5_init_23 : decode cX5_init 23 = .ok (.putfield 24, 3) := bdX5_init_18.2.2.2.1
theorem dX5_init_26 : decode cX5_init 26 = .ok (.aload_n 0, 1) := bdX5_init_18.2.2.2.2.1
theorem dX5_init_27 : decode cX5_init 27 = .ok (.aload_n 2, 1) := bdX5_init_18.2.2.2.2.2.1
theorem dX5_init_28 : decode cX5_init 28 = .ok (.getfield 28, 3) := bdX5_init_18.2.2.2.2.2.2.1
theorem dX5_init_31 : decode cX5_init 31 = .ok (.putfield 34, 3) := bdX5_init_18.2.2.2.2.2.2.2.1
theorem dX5_init_34 : decode cX5_init 34 = .ok (.return_, 1) := bdX5_init_18.2.2.2.2.2.2.2.2
theorem bdX5_read_0 : (decode cX5_read 0 = .ok (.aload_n 1, 1)) ∧ (decode cX5_read 1 = .ok (.invokevirtual 37, 3)) ∧ (decode cX5_read 4 = .ok (.aload_n 0, 1)) ∧ (decode cX5_read 5 = .ok (.aload_n 1, 1)) ∧ (decode cX5_read 6 = .ok (.putfield 24, 3)) ∧ (decode cX5_read 9 = .ok (.aload_n 0, 1)) ∧ (decode cX5_read 10 = .ok (.iconst 0, 1)) ∧ (decode cX5_read 11 = .ok (.putfield 40, 3)) ∧ (decode cX5_read 14 = .ok (.aload_n 0, 1)) ∧ (decode cX5_read 15 = .ok (.iconst (-1), 1)) := by decide +kernel
theorem dX5_read_0 : decode cX5_read 0 = .ok (.aload_n 1, 1) := bdX5_read_0.1
theorem dX5_read_1 : decode cX5_read 1 = .ok (.invokevirtual 37, 3) := bdX5_read_0.2.1
theorem dX5_read_4 : decode cX5_read 4 = .ok (.aload_n 0, 1) := bdX5_read_0.2.2.1
theorem dX5_read_5 : decode cX5_read 5 = .ok (.aload_n 1, 1) := bdX5_read_0.2.2.2.1
theorem dX5_read_6 : decode cX5_read 6 = .ok (.putfield 24, 3) := bdX5_read_0.2.2.2.2.1
theorem dX5_read_9 : decode cX5_read 9 = .ok (.aload_n 0, 1) := bdX5_read_0.2.2.2.2.2.1
theorem dX5_read_10 : decode cX5_read 10 = .ok (.iconst 0, 1) := bdX5_read_0.2.2.2.2.2.2.1
theorem dX5_read_11 : decode cX5_read 11 = .ok (.putfield 40, 3) := bdX5_read_0.2.2.2.2.2.2.2.1
theorem dX5_read_14 : decode cX5_read 14 = .ok (.aload_n 0, 1) := bdX5_read_0.2.2.2.2.2.2.2.2.1
theorem dX5_read_15 : decode cX5_read 15 = .ok (.iconst (-1), 1) := bdX5_read_0.2.2.2.2.2.2.2.2.2
theorem bdX5_read_16 : (decode cX5_read 16 = .ok (.putfield 9, 3)) ∧ (decode cX5_read 19 = .ok (.aload_n 0, 1)) ∧ (decode cX5_read 20 = .ok (.getfield 20, 3)) ∧ (decode cX5_read 23 = .ok (.iload_n 2, 1)) ∧ (decode cX5_read 24 = .ok (.invokevirtual 43, 3)) ∧ (decode cX5_read 27 = .ok (.aload_n 0, 1)) ∧ (decode cX5_read 28 = .ok (.iconst 0, 1)) ∧ (decode cX5_read 29 = .ok (.putfield 47, 3)) ∧ (decode cX5_read 32 = .ok (.aload_n 0, 1)) ∧ (decode cX5_read 33 = .ok (.aload_n 0, 1)) := by decide +kernel
theorem dX5_read_16 : decode cX5_read 16 = .ok (.putfield 9, 3) := bdX5_read_16.1
theorem dX5_read_19 : decode cX5_read 19 = .ok (.aload_n 0, 1) := bdX5_read_16.2.1
theorem dX5_read_20 : decode cX5_read 20 = .ok (.getfield 20, 3) := bdX5_read_16.2.2.1
theorem dX5_read_23 : decode cX5_read 23 = .ok (.iload_n 2, 1) := bdX5_read_16.2.2.2.1
theorem dX5_read_24 : decode cX5_read 24 = .ok (.invokevirtual 43, 3) := bdX5_read_16.2.2.2.2.1
theorem dX5_read_27 : decode cX5_read 27 = .ok (.aload_n 0, 1) := bdX5_read_16.2.2.2.2.2.1
theorem dX5_read_28 : decode cX5_read 28 = .ok (.iconst 0, 1) := bdX5_read_16.2.2.2.2.2.2.1
theorem dX5_read_29 : decode cX5_read 29 = .ok (.putfield 47, 3) := bdX5_read_16.2.2.2.2.2.2.2.1
theorem dX5_read_32 : decode cX5_read 32 = .ok (.aload_n 0, 1) := bdX5_read_16.2.2.2.2.2.2.2.2.1
theorem dX5_read_33 : decode cX5_read 33 = .ok (.aload_n 0, 1) := bdX5_read_16.2.2.2.2.2.2.2.2.2
theorem bdX5_read_34 : (decode cX5_read 34 = .ok (.getfield 20, 3)) ∧ (decode cX5_read 37 = .ok (.iconst 0, 1)) ∧ (decode cX5_read 38 = .ok (.invokevirtual 50, 3)) ∧ (decode cX5_read 41 = .ok (.putfield 54, 3)) ∧ (decode cX5_read 44 = .ok (.iconst 0, 1)) ∧ (decode cX5_read 45 = .ok (.istore_n 3, 1)) ∧ (decode cX5_read 46 = .ok (.iload_n 3, 1)) ∧ (decode cX5_read 47 = .ok (.sipush 700, 3)) ∧ (decode cX5_read 50 = .ok (.if_icmp .gt 27, 3)) ∧ (decode cX5_read 53 = .ok (.aload_n 0, 1)) := by decide +kernel
theorem dX5_read_34 : decode cX5_read 34 = .ok (.getfield 20, 3) := bdX5_read_34.1
theorem dX5_read_37 : decode cX5_read 37 = .ok (.iconst 0, 1) := bdX5_read_34.2.1
theorem dX5_read_38 : decode cX5_read 38 = .ok (.invokevirtual 50, 3) := bdX5_read_34.2.2.1
theorem dX5_read_41 : decode cX5_read 41 = .ok (.putfield 54, 3) := bdX5_read_34.2.2.2.1
theorem dX5_read_44 : decode cX5_read 44 = .ok (.iconst 0, 1) := bdX5_read_34.2.2.2.2.1
theorem dX5_read_45 : decode cX5_read 45 = .ok (.istore_n 3, 1) := bdX5_read_34.2.2.2.2.2.1
theorem dX5_read_46 : decode cX5_read 46 = .ok (.iload_n 3, 1) := bdX5_read_34.2.2.2.2.2.2.1
theorem dX5_read_47 : decode cX5_read 47 = .ok (.sipush 700, 3) := bdX5_read_34.2.2.2.2.2.2.2.1
theorem dX5_read_50 : decode cX5_read 50 = .ok (.if_icmp .gt 27, 3) := bdX5_read_34.2.2.2.2.2.2.2.2.1
theorem dX5_read_53 : decode cX5_read 53 = .ok (.aload_n 0, 1) := bdX5_read_34.2.2.2.2.2.2.2.2.2
theorem bdX5_read_54 : (decode cX5_read 54 = .ok (.getfield 40, 3)) ∧ (decode cX5_read 57 = .ok (.ifCond .ne 20, 3)) ∧ (decode cX5_read 60 = .ok (.aload_n 0, 1)) ∧ (decode cX5_read 61 = .ok (.getfield 54, 3)) ∧ (decode cX5_read 64 = .ok (.ifCond .eq 13, 3)) ∧ (decode cX5_read 67 = .ok (.aload_n 0, 1)) ∧ (decode cX5_read 68 = .ok (.invokevirtual 57, 3)) ∧ (decode cX5_read 71 = .ok (.iinc 3 1, 3)) ∧ (decode cX5_read 74 = .ok (.goto (-28), 3)) ∧ (decode cX5_read 77 = .ok (.aload_n 0, 1)) := by decide +kernel
theorem dX5_read_54 : decode cX5_read 54 = .ok (.getfield 40, 3) := bdX5_read_54.1
theorem dX5_read_57 : decode cX5_read 57 = .ok (.ifCond .ne 20, 3) := bdX5_read_54.2.1
theorem dX5_read_60 : decode cX5_read 60 = .ok (.aload_n 0, 1) := bdX5_read_54.2.2.1
theorem dX5_read_61 : decode cX5_read 61 = .ok (.getfield 54, 3) := bdX5_read_54.2.2.2.1
theorem dX5_read_64 : decode cX5_read 64 = .ok (.ifCond .eq 13, 3) := bdX5_read_54.2.2.2.2.1
theorem dX5_read_67 : decode cX5_read 67 = .ok (.aload_n 0, 1) := bdX5_read_54.2.2.2.2.2.1
theorem dX5_read_68 : decode cX5_read 68 = .ok (.invokevirtual 57, 3) := bdX5_read_54.2.2.2.2.2.2.1
theorem dX5_read_71 : decode cX5_read 71 = .ok (.iinc 3 1, 3) := bdX5_read_54.2.2.2.2.2.2.2.1
theorem dX5_read_74 : decode cX5_read 74 = .ok (.goto (-28), 3) := bdX5_read_54.2.2.2.2.2.2.2.2.1
theorem dX5_read_77 : decode cX5_read 77 = .ok (.aload_n 0, 1) := bdX5_read_54.2.2.2.2.2.2.2.2.2
theorem bdX5_read_78 : (decode cX5_read 78 = .ok (.getfield 40, 3)) ∧ (decode cX5_read 81 = .ok (.ifCond .eq 18, 3)) ∧ (decode cX5_read 84 = .ok (.aload_n 0, 1)) ∧ (decode cX5_read 85 = .ok (.aload_n 0, 1)) ∧ (decode cX5_read 86 = .ok (.getfield 20, 3)) ∧ (decode cX5_read 89 = .ok (.aload_n 0, 1)) ∧ (decode cX5_read 90 = .ok (.getfield 47, 3)) ∧ (decode cX5_read 93 = .ok (.invokevirtual 60, 3)) ∧ (decode cX5_read 96 = .ok (.putfield 9, 3)) ∧ (decode cX5_read 99 = .ok (.aload_n 0, 1)) := by decide +kernel
theorem dX5_read_78 : decode cX5_read 78 = .ok (.getfield 40, 3) := bdX5_read_78.1
theorem dX5_read_81 : decode cX5_read 81 = .ok (.ifCond .eq 18, 3) := bdX5_read_78.2.1
theorem dX5_read_84 : decode cX5_read 84 = .ok (.aload_n 0, 1) := bdX5_read_78.2.2.1
theorem dX5_read_85 : decode cX5_read 85 = .ok (.aload_n 0, 1) := bdX5_read_78.2.2.2.1
theorem dX5_read_86 : decode cX5_read 86 = .ok (.getfield 20, 3) := bdX5_read_78.2.2.2.2.1
theorem dX5_read_89 : decode cX5_read 89 = .ok (.aload_n 0, 1) := bdX5_read_78.2.2.2.2.2.1
theorem dX5_read_90 : decode cX5_read 90 = .ok (.getfield 47, 3) := bdX5_read_78.2.2.2.2.2.2.1
theorem dX5_read_93 : decode cX5_read 93 = .ok (.invokevirtual 60, 3) := bdX5_read_78.2.2.2.2.2.2.2.1
theorem dX5_read_96 : decode cX5_read 96 = .ok (.putfield 9, 3) := bdX5_read_78.2.2.2.2.2.2.2.2.1
theorem dX5_read_99 : decode cX5_read 99 = .ok (.aload_n 0, 1) := bdX5_read_78.2.2.2.2.2.2.2.2.2
theorem bdX5_read_100 : (decode cX5_read 100 = .ok (.getfield 40, 3)) ∧ (decode cX5_read 103 = .ok (.ireturn, 1)) := by decide +kernel
theorem dX5_read_100 : decode cX5_read 100 = .ok (.getfield 40, 3) := bdX5_read_100.1
theorem dX5_read_103 : decode cX5_read 103 = .ok (.ireturn, 1) := bdX5_read_100.2
theorem bdX5_advance_0 : (decode cX5_advance 0 = .ok (.aload_n 0, 1)) ∧ (decode cX5_advance 1 = .ok (.dup, 1)) ∧ (decode cX5_advance 2 = .ok (.getfield 47, 3)) ∧ (decode cX5_advance 5 = .ok (.iconst 1, 1)) ∧ (decode cX5_advance 6 = .ok (.iadd, 1)) ∧ (decode cX5_advance 7 = .ok (.putfield 47, 3)) ∧ (decode cX5_advance 10 = .ok (.aload_n 0, 1)) ∧ (decode cX5_advance 11 = .ok (.aload_n 0, 1)) ∧ (decode cX5_advance 12 = .ok (.getfield 20, 3)) ∧ (decode cX5_advance 15 = .ok (.aload_n 0, 1)) := by decide +kernel
theorem dX5_advance_0 : decode cX5_advance 0 = .ok (.aload_n 0, 1) := bdX5_advance_0.1
theorem dX5_advance_1 : decode cX5_advance 1 = .ok (.dup, 1) := bdX5_advance_0.2.1
theorem dX5_advance_2 : decode cX5_advance 2 = .ok (.getfield 47, 3) := bdX5_advance_0.2.2.1
theorem dX5_advance_5 : decode cX5_advance 5 = .ok (.iconst 1, 1) := bdX5_advance_0.2.2.2.1
theorem dX5_advance_6 : decode cX5_advance 6 = .ok (.iadd, 1) := bdX5_advance_0.2.2.2.2.1
theorem dX5_advance_7 : decode cX5_advance 7 = .ok (.putfield 47, 3) := bdX5_advance_0.2.2.2.2.2.1
theorem dX5_advance_10 : decode cX5_advance 10 = .ok (.aload_n 0, 1) := bdX5_advance_0.2.2.2.2.2.2.1
theorem dX5_advance_11 : decode cX5_advance 11 = .ok (.aload_n 0, 1) := bdX5_advance_0.2.2.2.2.2.2.2.1
theorem dX5_advance_12 : decode cX5_advance 12 = .ok (.getfield 20, 3) := bdX5_advance_0.2.2.2.2.2.2.2.2.1
theorem dX5_advance_15 : decode cX5_advance 15 = .ok (.aload_n 0, 1) := bdX5_advance_0.2.2.2.2.2.2.2.2.2
theorem bdX5_advance_16 : (decode cX5_advance 16 = .ok (.getfield 47, 3)) ∧ (decode cX5_advance 19 = .ok (.invokevirtual 50, 3)) ∧ (decode cX5_advance 22 = .ok (.putfield 54, 3)) ∧ (decode cX5_advance 25 = .ok (.return_, 1)) := by decide +kernel
theorem dX5_advance_16 : decode cX5_advance 16 = .ok (.getfield 47, 3) := bdX5_advance_16.1
theorem dX5_advance_19 : decode cX5_advance 19 = .ok (.invokevirtual 50, 3) := bdX5_advance_16.2.1
theorem dX5_advance_22 : decode cX5_advance 22 = .ok (.putfield 54, 3) := bdX5_advance_16.2.2.1
theorem dX5_advance_25 : decode cX5_advance 25 = .ok (.return_, 1) := bdX5_advance_16.2.2.2
theorem bdX5_refuseAs_0 : (decode cX5_refuseAs 0 = .ok (.aload_n 0, 1)) ∧ (decode cX5_refuseAs 1 = .ok (.getfield 40, 3)) ∧ (decode cX5_refuseAs 4 = .ok (.ifCond .ne 8, 3)) ∧ (decode cX5_refuseAs 7 = .ok (.aload_n 0, 1)) ∧ (decode cX5_refuseAs 8 = .ok (.iload_n 1, 1)) ∧ (decode cX5_refuseAs 9 = .ok (.putfield 40, 3)) ∧ (decode cX5_refuseAs 12 = .ok (.return_, 1)) := by decide +kernel
theorem dX5_refuseAs_0 : decode cX5_refuseAs 0 = .ok (.aload_n 0, 1) := bdX5_refuseAs_0.1
theorem dX5_refuseAs_1 : decode cX5_refuseAs 1 = .ok (.getfield 40, 3) := bdX5_refuseAs_0.2.1
theorem dX5_refuseAs_4 : decode cX5_refuseAs 4 = .ok (.ifCond .ne 8, 3) := bdX5_refuseAs_0.2.2.1
theorem dX5_refuseAs_7 : decode cX5_refuseAs 7 = .ok (.aload_n 0, 1) := bdX5_refuseAs_0.2.2.2.1
theorem dX5_refuseAs_8 : decode cX5_refuseAs 8 = .ok (.iload_n 1, 1) := bdX5_refuseAs_0.2.2.2.2.1
theorem dX5_refuseAs_9 : decode cX5_refuseAs 9 = .ok (.putfield 40, 3) := bdX5_refuseAs_0.2.2.2.2.2.1
theorem dX5_refuseAs_12 : decode cX5_refuseAs 12 = .ok (.return_, 1) := bdX5_refuseAs_0.2.2.2.2.2.2
theorem bdX5_readLine_0 : (decode cX5_readLine 0 = .ok (.aload_n 0, 1)) ∧ (decode cX5_readLine 1 = .ok (.getfield 54, 3)) ∧ (decode cX5_readLine 4 = .ok (.tableswitch 154 128 145 #[88, 95, 102, 116, 123, 138, 154, 154, 154, 154, 154, 154, 154, 154, 154, 154, 154, 109], 88)) ∧ (decode cX5_readLine 92 = .ok (.aload_n 0, 1)) ∧ (decode cX5_readLine 93 = .ok (.invokevirtual 63, 3)) ∧ (decode cX5_readLine 96 = .ok (.goto 67, 3)) ∧ (decode cX5_readLine 99 = .ok (.aload_n 0, 1)) ∧ (decode cX5_readLine 100 = .ok (.invokevirtual 66, 3)) ∧ (decode cX5_readLine 103 = .ok (.goto 60, 3)) ∧ (decode cX5_readLine 106 = .ok (.aload_n 0, 1)) := by decide +kernel
theorem dX5_readLine_0 : decode cX5_readLine 0 = .ok (.aload_n 0, 1) := bdX5_readLine_0.1
theorem dX5_readLine_1 : decode cX5_readLine 1 = .ok (.getfield 54, 3) := bdX5_readLine_0.2.1
theorem dX5_readLine_4 : decode cX5_readLine 4 = .ok (.tableswitch 154 128 145 #[88, 95, 102, 116, 123, 138, 154, 154, 154, 154, 154, 154, 154, 154, 154, 154, 154, 109], 88) := bdX5_readLine_0.2.2.1
theorem dX5_readLine_92 : decode cX5_readLine 92 = .ok (.aload_n 0, 1) := bdX5_readLine_0.2.2.2.1
theorem dX5_readLine_93 : decode cX5_readLine 93 = .ok (.invokevirtual 63, 3) := bdX5_readLine_0.2.2.2.2.1
theorem dX5_readLine_96 : decode cX5_readLine 96 = .ok (.goto 67, 3) := bdX5_readLine_0.2.2.2.2.2.1
theorem dX5_readLine_99 : decode cX5_readLine 99 = .ok (.aload_n 0, 1) := bdX5_readLine_0.2.2.2.2.2.2.1
theorem dX5_readLine_100 : decode cX5_readLine 100 = .ok (.invokevirtual 66, 3) := bdX5_readLine_0.2.2.2.2.2.2.2.1
theorem dX5_readLine_103 : decode cX5_readLine 103 = .ok (.goto 60, 3) := bdX5_readLine_0.2.2.2.2.2.2.2.2.1
theorem dX5_readLine_106 : decode cX5_readLine 106 = .ok (.aload_n 0, 1) := bdX5_readLine_0.2.2.2.2.2.2.2.2.2
theorem bdX5_readLine_107 : (decode cX5_readLine 107 = .ok (.invokevirtual 69, 3)) ∧ (decode cX5_readLine 110 = .ok (.goto 53, 3)) ∧ (decode cX5_readLine 113 = .ok (.aload_n 0, 1)) ∧ (decode cX5_readLine 114 = .ok (.invokevirtual 72, 3)) ∧ (decode cX5_readLine 117 = .ok (.goto 46, 3)) ∧ (decode cX5_readLine 120 = .ok (.aload_n 0, 1)) ∧ (decode cX5_readLine 121 = .ok (.invokevirtual 75, 3)) ∧ (decode cX5_readLine 124 = .ok (.goto 39, 3)) ∧ (decode cX5_readLine 127 = .ok (.aload_n 0, 1)) ∧ (decode cX5_readLine 128 = .ok (.aload_n 0, 1)) := by decide +kernel
theorem dX5_readLine_107 : decode cX5_readLine 107 = .ok (.invokevirtual 69, 3) := bdX5_readLine_107.1
theorem dX5_readLine_110 : decode cX5_readLine 110 = .ok (.goto 53, 3) := bdX5_readLine_107.2.1
theorem dX5_readLine_113 : decode cX5_readLine 113 = .ok (.aload_n 0, 1) := bdX5_readLine_107.2.2.1
theorem dX5_readLine_114 : decode cX5_readLine 114 = .ok (.invokevirtual 72, 3) := bdX5_readLine_107.2.2.2.1
theorem dX5_readLine_117 : decode cX5_readLine 117 = .ok (.goto 46, 3) := bdX5_readLine_107.2.2.2.2.1
theorem dX5_readLine_120 : decode cX5_readLine 120 = .ok (.aload_n 0, 1) := bdX5_readLine_107.2.2.2.2.2.1
theorem dX5_readLine_121 : decode cX5_readLine 121 = .ok (.invokevirtual 75, 3) := bdX5_readLine_107.2.2.2.2.2.2.1
theorem dX5_readLine_124 : decode cX5_readLine 124 = .ok (.goto 39, 3) := bdX5_readLine_107.2.2.2.2.2.2.2.1
theorem dX5_readLine_127 : decode cX5_readLine 127 = .ok (.aload_n 0, 1) := bdX5_readLine_107.2.2.2.2.2.2.2.2.1
theorem dX5_readLine_128 : decode cX5_readLine 128 = .ok (.aload_n 0, 1) := bdX5_readLine_107.2.2.2.2.2.2.2.2.2
theorem bdX5_readLine_129 : (decode cX5_readLine 129 = .ok (.getfield 24, 3)) ∧ (decode cX5_readLine 132 = .ok (.getfield 28, 3)) ∧ (decode cX5_readLine 135 = .ok (.iconst 5, 1)) ∧ (decode cX5_readLine 136 = .ok (.invokevirtual 80, 3)) ∧ (decode cX5_readLine 139 = .ok (.goto 24, 3)) ∧ (decode cX5_readLine 142 = .ok (.aload_n 0, 1)) ∧ (decode cX5_readLine 143 = .ok (.aload_n 0, 1)) ∧ (decode cX5_readLine 144 = .ok (.getfield 24, 3)) ∧ (decode cX5_readLine 147 = .ok (.getfield 84, 3)) ∧ (decode cX5_readLine 150 = .ok (.bipush 7, 2)) := by decide +kernel
theorem dX5_readLine_129 : decode cX5_readLine 129 = .ok (.getfield 24, 3) := bdX5_readLine_129.1
theorem dX5_readLine_132 : decode cX5_readLine 132 = .ok (.getfield 28, 3) := bdX5_readLine_129.2.1
theorem dX5_readLine_135 : decode cX5_readLine 135 = .ok (.iconst 5, 1) := bdX5_readLine_129.2.2.1
theorem dX5_readLine_136 : decode cX5_readLine 136 = .ok (.invokevirtual 80, 3) := bdX5_readLine_129.2.2.2.1
theorem dX5_readLine_139 : decode cX5_readLine 139 = .ok (.goto 24, 3) := bdX5_readLine_129.2.2.2.2.1
theorem dX5_readLine_142 : decode cX5_readLine 142 = .ok (.aload_n 0, 1) := bdX5_readLine_129.2.2.2.2.2.1
theorem dX5_readLine_143 : decode cX5_readLine 143 = .ok (.aload_n 0, 1) := bdX5_readLine_129.2.2.2.2.2.2.1
theorem dX5_readLine_144 : decode cX5_readLine 144 = .ok (.getfield 24, 3) := bdX5_readLine_129.2.2.2.2.2.2.2.1
theorem dX5_readLine_147 : decode cX5_readLine 147 = .ok (.getfield 84, 3) := bdX5_readLine_129.2.2.2.2.2.2.2.2.1
theorem dX5_readLine_150 : decode cX5_readLine 150 = .ok (.bipush 7, 2) := bdX5_readLine_129.2.2.2.2.2.2.2.2.2
theorem bdX5_readLine_152 : (decode cX5_readLine 152 = .ok (.invokevirtual 80, 3)) ∧ (decode cX5_readLine 155 = .ok (.goto 8, 3)) ∧ (decode cX5_readLine 158 = .ok (.aload_n 0, 1)) ∧ (decode cX5_readLine 159 = .ok (.iconst 1, 1)) ∧ (decode cX5_readLine 160 = .ok (.invokevirtual 87, 3)) ∧ (decode cX5_readLine 163 = .ok (.aload_n 0, 1)) ∧ (decode cX5_readLine 164 = .ok (.bipush 59, 2)) ∧ (decode cX5_readLine 166 = .ok (.invokevirtual 90, 3)) ∧ (decode cX5_readLine 169 = .ok (.return_, 1)) := by decide +kernel
theorem dX5_readLine_152 : decode cX5_readLine 152 = .ok (.invokevirtual 80, 3) := bdX5_readLine_152.1
theorem dX5_readLine_155 : decode cX5_readLine 155 = .ok (.goto 8, 3) := bdX5_readLine_152.2.1
theorem dX5_readLine_158 : decode cX5_readLine 158 = .ok (.aload_n 0, 1) := bdX5_readLine_152.2.2.1
theorem dX5_readLine_159 : decode cX5_readLine 159 = .ok (.iconst 1, 1) := bdX5_readLine_152.2.2.2.1
theorem dX5_readLine_160 : decode cX5_readLine 160 = .ok (.invokevirtual 87, 3) := bdX5_readLine_152.2.2.2.2.1
theorem dX5_readLine_163 : decode cX5_readLine 163 = .ok (.aload_n 0, 1) := bdX5_readLine_152.2.2.2.2.2.1
theorem dX5_readLine_164 : decode cX5_readLine 164 = .ok (.bipush 59, 2) := bdX5_readLine_152.2.2.2.2.2.2.1
theorem dX5_readLine_166 : decode cX5_readLine 166 = .ok (.invokevirtual 90, 3) := bdX5_readLine_152.2.2.2.2.2.2.2.1
theorem dX5_readLine_169 : decode cX5_readLine 169 = .ok (.return_, 1) := bdX5_readLine_152.2.2.2.2.2.2.2.2
theorem bdX5_readHouse_0 : (decode cX5_readHouse 0 = .ok (.aload_n 0, 1)) ∧ (decode cX5_readHouse 1 = .ok (.getfield 24, 3)) ∧ (decode cX5_readHouse 4 = .ok (.getfield 93, 3)) ∧ (decode cX5_readHouse 7 = .ok (.bipush 8, 2)) ∧ (decode cX5_readHouse 9 = .ok (.if_icmp .lt 9, 3)) ∧ (decode cX5_readHouse 12 = .ok (.aload_n 0, 1)) ∧ (decode cX5_readHouse 13 = .ok (.iconst 2, 1)) ∧ (decode cX5_readHouse 14 = .ok (.invokevirtual 87, 3)) ∧ (decode cX5_readHouse 17 = .ok (.return_, 1)) ∧ (decode cX5_readHouse 18 = .ok (.aload_n 0, 1)) := by decide +kernel
theorem dX5_readHouse_0 : decode cX5_readHouse 0 = .ok (.aload_n 0, 1) := bdX5_readHouse_0.1
theorem dX5_readHouse_1 : decode cX5_readHouse 1 = .ok (.getfield 24, 3) := bdX5_readHouse_0.2.1
theorem dX5_readHouse_4 : decode cX5_readHouse 4 = .ok (.getfield 93, 3) := bdX5_readHouse_0.2.2.1
theorem dX5_readHouse_7 : decode cX5_readHouse 7 = .ok (.bipush 8, 2) := bdX5_readHouse_0.2.2.2.1
theorem dX5_readHouse_9 : decode cX5_readHouse 9 = .ok (.if_icmp .lt 9, 3) := bdX5_readHouse_0.2.2.2.2.1
theorem dX5_readHouse_12 : decode cX5_readHouse 12 = .ok (.aload_n 0, 1) := bdX5_readHouse_0.2.2.2.2.2.1
theorem dX5_readHouse_13 : decode cX5_readHouse 13 = .ok (.iconst 2, 1) := bdX5_readHouse_0.2.2.2.2.2.2.1
theorem dX5_readHouse_14 : decode cX5_readHouse 14 = .ok (.invokevirtual 87, 3) := bdX5_readHouse_0.2.2.2.2.2.2.2.1
theorem dX5_readHouse_17 : decode cX5_readHouse 17 = .ok (.return_, 1) := bdX5_readHouse_0.2.2.2.2.2.2.2.2.1
theorem dX5_readHouse_18 : decode cX5_readHouse 18 = .ok (.aload_n 0, 1) := bdX5_readHouse_0.2.2.2.2.2.2.2.2.2
theorem bdX5_readHouse_19 : (decode cX5_readHouse 19 = .ok (.invokevirtual 96, 3)) ∧ (decode cX5_readHouse 22 = .ok (.aload_n 0, 1)) ∧ (decode cX5_readHouse 23 = .ok (.bipush 9, 2)) ∧ (decode cX5_readHouse 25 = .ok (.invokevirtual 99, 3)) ∧ (decode cX5_readHouse 28 = .ok (.istore_n 1, 1)) ∧ (decode cX5_readHouse 29 = .ok (.aload_n 0, 1)) ∧ (decode cX5_readHouse 30 = .ok (.bipush 9, 2)) ∧ (decode cX5_readHouse 32 = .ok (.invokevirtual 99, 3)) ∧ (decode cX5_readHouse 35 = .ok (.istore_n 2, 1)) ∧ (decode cX5_readHouse 36 = .ok (.aload_n 0, 1)) := by decide +kernel
theorem dX5_readHouse_19 : decode cX5_readHouse 19 = .ok (.invokevirtual 96, 3) := bdX5_readHouse_19.1
theorem dX5_readHouse_22 : decode cX5_readHouse 22 = .ok (.aload_n 0, 1) := bdX5_readHouse_19.2.1
theorem dX5_readHouse_23 : decode cX5_readHouse 23 = .ok (.bipush 9, 2) := bdX5_readHouse_19.2.2.1
theorem dX5_readHouse_25 : decode cX5_readHouse 25 = .ok (.invokevirtual 99, 3) := bdX5_readHouse_19.2.2.2.1
theorem dX5_readHouse_28 : decode cX5_readHouse 28 = .ok (.istore_n 1, 1) := bdX5_readHouse_19.2.2.2.2.1
theorem dX5_readHouse_29 : decode cX5_readHouse 29 = .ok (.aload_n 0, 1) := bdX5_readHouse_19.2.2.2.2.2.1
theorem dX5_readHouse_30 : decode cX5_readHouse 30 = .ok (.bipush 9, 2) := bdX5_readHouse_19.2.2.2.2.2.2.1
theorem dX5_readHouse_32 : decode cX5_readHouse 32 = .ok (.invokevirtual 99, 3) := bdX5_readHouse_19.2.2.2.2.2.2.2.1
theorem dX5_readHouse_35 : decode cX5_readHouse 35 = .ok (.istore_n 2, 1) := bdX5_readHouse_19.2.2.2.2.2.2.2.2.1
theorem dX5_readHouse_36 : decode cX5_readHouse 36 = .ok (.aload_n 0, 1) := bdX5_readHouse_19.2.2.2.2.2.2.2.2.2
theorem bdX5_readHouse_37 : (decode cX5_readHouse 37 = .ok (.iconst 2, 1)) ∧ (decode cX5_readHouse 38 = .ok (.invokevirtual 99, 3)) ∧ (decode cX5_readHouse 41 = .ok (.istore_n 3, 1)) ∧ (decode cX5_readHouse 42 = .ok (.aload_n 0, 1)) ∧ (decode cX5_readHouse 43 = .ok (.getfield 24, 3)) ∧ (decode cX5_readHouse 46 = .ok (.iload_n 1, 1)) ∧ (decode cX5_readHouse 47 = .ok (.iload_n 2, 1)) ∧ (decode cX5_readHouse 48 = .ok (.iload_n 3, 1)) ∧ (decode cX5_readHouse 49 = .ok (.invokevirtual 102, 3)) ∧ (decode cX5_readHouse 52 = .ok (.return_, 1)) := by decide +kernel
theorem dX5_readHouse_37 : decode cX5_readHouse 37 = .ok (.iconst 2, 1) := bdX5_readHouse_37.1
theorem dX5_readHouse_38 : decode cX5_readHouse 38 = .ok (.invokevirtual 99, 3) := bdX5_readHouse_37.2.1
theorem dX5_readHouse_41 : decode cX5_readHouse 41 = .ok (.istore_n 3, 1) := bdX5_readHouse_37.2.2.1
theorem dX5_readHouse_42 : decode cX5_readHouse 42 = .ok (.aload_n 0, 1) := bdX5_readHouse_37.2.2.2.1
theorem dX5_readHouse_43 : decode cX5_readHouse 43 = .ok (.getfield 24, 3) := bdX5_readHouse_37.2.2.2.2.1
theorem dX5_readHouse_46 : decode cX5_readHouse 46 = .ok (.iload_n 1, 1) := bdX5_readHouse_37.2.2.2.2.2.1
theorem dX5_readHouse_47 : decode cX5_readHouse 47 = .ok (.iload_n 2, 1) := bdX5_readHouse_37.2.2.2.2.2.2.1
theorem dX5_readHouse_48 : decode cX5_readHouse 48 = .ok (.iload_n 3, 1) := bdX5_readHouse_37.2.2.2.2.2.2.2.1
theorem dX5_readHouse_49 : decode cX5_readHouse 49 = .ok (.invokevirtual 102, 3) := bdX5_readHouse_37.2.2.2.2.2.2.2.2.1
theorem dX5_readHouse_52 : decode cX5_readHouse 52 = .ok (.return_, 1) := bdX5_readHouse_37.2.2.2.2.2.2.2.2.2
theorem bdX5_readPlot_0 : (decode cX5_readPlot 0 = .ok (.aload_n 0, 1)) ∧ (decode cX5_readPlot 1 = .ok (.getfield 24, 3)) ∧ (decode cX5_readPlot 4 = .ok (.getfield 106, 3)) ∧ (decode cX5_readPlot 7 = .ok (.bipush 9, 2)) ∧ (decode cX5_readPlot 9 = .ok (.if_icmp .lt 9, 3)) ∧ (decode cX5_readPlot 12 = .ok (.aload_n 0, 1)) ∧ (decode cX5_readPlot 13 = .ok (.iconst 2, 1)) ∧ (decode cX5_readPlot 14 = .ok (.invokevirtual 87, 3)) ∧ (decode cX5_readPlot 17 = .ok (.return_, 1)) ∧ (decode cX5_readPlot 18 = .ok (.aload_n 0, 1)) := by decide +kernel
theorem dX5_readPlot_0 : decode cX5_readPlot 0 = .ok (.aload_n 0, 1) := bdX5_readPlot_0.1
theorem dX5_readPlot_1 : decode cX5_readPlot 1 = .ok (.getfield 24, 3) := bdX5_readPlot_0.2.1
theorem dX5_readPlot_4 : decode cX5_readPlot 4 = .ok (.getfield 106, 3) := bdX5_readPlot_0.2.2.1
theorem dX5_readPlot_7 : decode cX5_readPlot 7 = .ok (.bipush 9, 2) := bdX5_readPlot_0.2.2.2.1
theorem dX5_readPlot_9 : decode cX5_readPlot 9 = .ok (.if_icmp .lt 9, 3) := bdX5_readPlot_0.2.2.2.2.1
theorem dX5_readPlot_12 : decode cX5_readPlot 12 = .ok (.aload_n 0, 1) := bdX5_readPlot_0.2.2.2.2.2.1
theorem dX5_readPlot_13 : decode cX5_readPlot 13 = .ok (.iconst 2, 1) := bdX5_readPlot_0.2.2.2.2.2.2.1
theorem dX5_readPlot_14 : decode cX5_readPlot 14 = .ok (.invokevirtual 87, 3) := bdX5_readPlot_0.2.2.2.2.2.2.2.1
theorem dX5_readPlot_17 : decode cX5_readPlot 17 = .ok (.return_, 1) := bdX5_readPlot_0.2.2.2.2.2.2.2.2.1
theorem dX5_readPlot_18 : decode cX5_readPlot 18 = .ok (.aload_n 0, 1) := bdX5_readPlot_0.2.2.2.2.2.2.2.2.2
theorem bdX5_readPlot_19 : (decode cX5_readPlot 19 = .ok (.invokevirtual 96, 3)) ∧ (decode cX5_readPlot 22 = .ok (.aload_n 0, 1)) ∧ (decode cX5_readPlot 23 = .ok (.bipush 20, 2)) ∧ (decode cX5_readPlot 25 = .ok (.invokevirtual 99, 3)) ∧ (decode cX5_readPlot 28 = .ok (.istore_n 1, 1)) ∧ (decode cX5_readPlot 29 = .ok (.aload_n 0, 1)) ∧ (decode cX5_readPlot 30 = .ok (.bipush 20, 2)) ∧ (decode cX5_readPlot 32 = .ok (.invokevirtual 109, 3)) ∧ (decode cX5_readPlot 35 = .ok (.istore_n 2, 1)) ∧ (decode cX5_readPlot 36 = .ok (.aload_n 0, 1)) := by decide +kernel
theorem dX5_readPlot_19 : decode cX5_readPlot 19 = .ok (.invokevirtual 96, 3) := bdX5_readPlot_19.1
theorem dX5_readPlot_22 : decode cX5_readPlot 22 = .ok (.aload_n 0, 1) := bdX5_readPlot_19.2.1
theorem dX5_readPlot_23 : decode cX5_readPlot 23 = .ok (.bipush 20, 2) := bdX5_readPlot_19.2.2.1
theorem dX5_readPlot_25 : decode cX5_readPlot 25 = .ok (.invokevirtual 99, 3) := bdX5_readPlot_19.2.2.2.1
theorem dX5_readPlot_28 : decode cX5_readPlot 28 = .ok (.istore_n 1, 1) := bdX5_readPlot_19.2.2.2.2.1
theorem dX5_readPlot_29 : decode cX5_readPlot 29 = .ok (.aload_n 0, 1) := bdX5_readPlot_19.2.2.2.2.2.1
theorem dX5_readPlot_30 : decode cX5_readPlot 30 = .ok (.bipush 20, 2) := bdX5_readPlot_19.2.2.2.2.2.2.1
theorem dX5_readPlot_32 : decode cX5_readPlot 32 = .ok (.invokevirtual 109, 3) := bdX5_readPlot_19.2.2.2.2.2.2.2.1
theorem dX5_readPlot_35 : decode cX5_readPlot 35 = .ok (.istore_n 2, 1) := bdX5_readPlot_19.2.2.2.2.2.2.2.2.1
theorem dX5_readPlot_36 : decode cX5_readPlot 36 = .ok (.aload_n 0, 1) := bdX5_readPlot_19.2.2.2.2.2.2.2.2.2
theorem bdX5_readPlot_37 : (decode cX5_readPlot 37 = .ok (.getfield 40, 3)) ∧ (decode cX5_readPlot 40 = .ok (.ifCond .ne 20, 3)) ∧ (decode cX5_readPlot 43 = .ok (.aload_n 0, 1)) ∧ (decode cX5_readPlot 44 = .ok (.getfield 24, 3)) ∧ (decode cX5_readPlot 47 = .ok (.iload_n 1, 1)) ∧ (decode cX5_readPlot 48 = .ok (.iload_n 2, 1)) ∧ (decode cX5_readPlot 49 = .ok (.invokevirtual 112, 3)) ∧ (decode cX5_readPlot 52 = .ok (.ifCond .eq 8, 3)) ∧ (decode cX5_readPlot 55 = .ok (.aload_n 0, 1)) ∧ (decode cX5_readPlot 56 = .ok (.iconst 4, 1)) := by decide +kernel
theorem dX5_readPlot_37 : decode cX5_readPlot 37 = .ok (.getfield 40, 3) := bdX5_readPlot_37.1
theorem dX5_readPlot_40 : decode cX5_readPlot 40 = .ok (.ifCond .ne 20, 3) := bdX5_readPlot_37.2.1
theorem dX5_readPlot_43 : decode cX5_readPlot 43 = .ok (.aload_n 0, 1) := bdX5_readPlot_37.2.2.1
theorem dX5_readPlot_44 : decode cX5_readPlot 44 = .ok (.getfield 24, 3) := bdX5_readPlot_37.2.2.2.1
theorem dX5_readPlot_47 : decode cX5_readPlot 47 = .ok (.iload_n 1, 1) := bdX5_readPlot_37.2.2.2.2.1
theorem dX5_readPlot_48 : decode cX5_readPlot 48 = .ok (.iload_n 2, 1) := bdX5_readPlot_37.2.2.2.2.2.1
theorem dX5_readPlot_49 : decode cX5_readPlot 49 = .ok (.invokevirtual 112, 3) := bdX5_readPlot_37.2.2.2.2.2.2.1
theorem dX5_readPlot_52 : decode cX5_readPlot 52 = .ok (.ifCond .eq 8, 3) := bdX5_readPlot_37.2.2.2.2.2.2.2.1
theorem dX5_readPlot_55 : decode cX5_readPlot 55 = .ok (.aload_n 0, 1) := bdX5_readPlot_37.2.2.2.2.2.2.2.2.1
theorem dX5_readPlot_56 : decode cX5_readPlot 56 = .ok (.iconst 4, 1) := bdX5_readPlot_37.2.2.2.2.2.2.2.2.2
theorem bdX5_readPlot_57 : (decode cX5_readPlot 57 = .ok (.invokevirtual 87, 3)) ∧ (decode cX5_readPlot 60 = .ok (.aload_n 0, 1)) ∧ (decode cX5_readPlot 61 = .ok (.bipush 20, 2)) ∧ (decode cX5_readPlot 63 = .ok (.invokevirtual 99, 3)) ∧ (decode cX5_readPlot 66 = .ok (.pop, 1)) ∧ (decode cX5_readPlot 67 = .ok (.aload_n 0, 1)) ∧ (decode cX5_readPlot 68 = .ok (.bipush 9, 2)) ∧ (decode cX5_readPlot 70 = .ok (.invokevirtual 99, 3)) ∧ (decode cX5_readPlot 73 = .ok (.istore_n 3, 1)) ∧ (decode cX5_readPlot 74 = .ok (.aload_n 0, 1)) := by decide +kernel
theorem dX5_readPlot_57 : decode cX5_readPlot 57 = .ok (.invokevirtual 87, 3) := bdX5_readPlot_57.1
theorem dX5_readPlot_60 : decode cX5_readPlot 60 = .ok (.aload_n 0, 1) := bdX5_readPlot_57.2.1
theorem dX5_readPlot_61 : decode cX5_readPlot 61 = .ok (.bipush 20, 2) := bdX5_readPlot_57.2.2.1
theorem dX5_readPlot_63 : decode cX5_readPlot 63 = .ok (.invokevirtual 99, 3) := bdX5_readPlot_57.2.2.2.1
theorem dX5_readPlot_66 : decode cX5_readPlot 66 = .ok (.pop, 1) := bdX5_readPlot_57.2.2.2.2.1
theorem dX5_readPlot_67 : decode cX5_readPlot 67 = .ok (.aload_n 0, 1) := bdX5_readPlot_57.2.2.2.2.2.1
theorem dX5_readPlot_68 : decode cX5_readPlot 68 = .ok (.bipush 9, 2) := bdX5_readPlot_57.2.2.2.2.2.2.1
theorem dX5_readPlot_70 : decode cX5_readPlot 70 = .ok (.invokevirtual 99, 3) := bdX5_readPlot_57.2.2.2.2.2.2.2.1
theorem dX5_readPlot_73 : decode cX5_readPlot 73 = .ok (.istore_n 3, 1) := bdX5_readPlot_57.2.2.2.2.2.2.2.2.1
theorem dX5_readPlot_74 : decode cX5_readPlot 74 = .ok (.aload_n 0, 1) := bdX5_readPlot_57.2.2.2.2.2.2.2.2.2
theorem bdX5_readPlot_75 : (decode cX5_readPlot 75 = .ok (.getfield 24, 3)) ∧ (decode cX5_readPlot 78 = .ok (.iload_n 1, 1)) ∧ (decode cX5_readPlot 79 = .ok (.iload_n 2, 1)) ∧ (decode cX5_readPlot 80 = .ok (.iload_n 3, 1)) ∧ (decode cX5_readPlot 81 = .ok (.invokevirtual 116, 3)) ∧ (decode cX5_readPlot 84 = .ok (.return_, 1)) := by decide +kernel
theorem dX5_readPlot_75 : decode cX5_readPlot 75 = .ok (.getfield 24, 3) := bdX5_readPlot_75.1
theorem dX5_readPlot_78 : decode cX5_readPlot 78 = .ok (.iload_n 1, 1) := bdX5_readPlot_75.2.1
theorem dX5_readPlot_79 : decode cX5_readPlot 79 = .ok (.iload_n 2, 1) := bdX5_readPlot_75.2.2.1
theorem dX5_readPlot_80 : decode cX5_readPlot 80 = .ok (.iload_n 3, 1) := bdX5_readPlot_75.2.2.2.1
theorem dX5_readPlot_81 : decode cX5_readPlot 81 = .ok (.invokevirtual 116, 3) := bdX5_readPlot_75.2.2.2.2.1
theorem dX5_readPlot_84 : decode cX5_readPlot 84 = .ok (.return_, 1) := bdX5_readPlot_75.2.2.2.2.2
theorem bdX5_readMarket_0 : (decode cX5_readMarket 0 = .ok (.aload_n 0, 1)) ∧ (decode cX5_readMarket 1 = .ok (.getfield 24, 3)) ∧ (decode cX5_readMarket 4 = .ok (.getfield 119, 3)) ∧ (decode cX5_readMarket 7 = .ok (.ifCond .eq 9, 3)) ∧ (decode cX5_readMarket 10 = .ok (.aload_n 0, 1)) ∧ (decode cX5_readMarket 11 = .ok (.iconst 5, 1)) ∧ (decode cX5_readMarket 12 = .ok (.invokevirtual 87, 3)) ∧ (decode cX5_readMarket 15 = .ok (.return_, 1)) ∧ (decode cX5_readMarket 16 = .ok (.aload_n 0, 1)) ∧ (decode cX5_readMarket 17 = .ok (.invokevirtual 96, 3)) := by decide +kernel
theorem dX5_readMarket_0 : decode cX5_readMarket 0 = .ok (.aload_n 0, 1) := bdX5_readMarket_0.1
theorem dX5_readMarket_1 : decode cX5_readMarket 1 = .ok (.getfield 24, 3) := bdX5_readMarket_0.2.1
theorem dX5_readMarket_4 : decode cX5_readMarket 4 = .ok (.getfield 119, 3) := bdX5_readMarket_0.2.2.1
theorem dX5_readMarket_7 : decode cX5_readMarket 7 = .ok (.ifCond .eq 9, 3) := bdX5_readMarket_0.2.2.2.1
theorem dX5_readMarket_10 : decode cX5_readMarket 10 = .ok (.aload_n 0, 1) := bdX5_readMarket_0.2.2.2.2.1
theorem dX5_readMarket_11 : decode cX5_readMarket 11 = .ok (.iconst 5, 1) := bdX5_readMarket_0.2.2.2.2.2.1
theorem dX5_readMarket_12 : decode cX5_readMarket 12 = .ok (.invokevirtual 87, 3) := bdX5_readMarket_0.2.2.2.2.2.2.1
theorem dX5_readMarket_15 : decode cX5_readMarket 15 = .ok (.return_, 1) := bdX5_readMarket_0.2.2.2.2.2.2.2.1
theorem dX5_readMarket_16 : decode cX5_readMarket 16 = .ok (.aload_n 0, 1) := bdX5_readMarket_0.2.2.2.2.2.2.2.2.1
theorem dX5_readMarket_17 : decode cX5_readMarket 17 = .ok (.invokevirtual 96, 3) := bdX5_readMarket_0.2.2.2.2.2.2.2.2.2
theorem bdX5_readMarket_20 : (decode cX5_readMarket 20 = .ok (.aload_n 0, 1)) ∧ (decode cX5_readMarket 21 = .ok (.getfield 24, 3)) ∧ (decode cX5_readMarket 24 = .ok (.iconst 1, 1)) ∧ (decode cX5_readMarket 25 = .ok (.putfield 119, 3)) ∧ (decode cX5_readMarket 28 = .ok (.aload_n 0, 1)) ∧ (decode cX5_readMarket 29 = .ok (.getfield 24, 3)) ∧ (decode cX5_readMarket 32 = .ok (.aload_n 0, 1)) ∧ (decode cX5_readMarket 33 = .ok (.bipush 20, 2)) ∧ (decode cX5_readMarket 35 = .ok (.invokevirtual 99, 3)) ∧ (decode cX5_readMarket 38 = .ok (.putfield 123, 3)) := by decide +kernel
theorem dX5_readMarket_20 : decode cX5_readMarket 20 = .ok (.aload_n 0, 1) := bdX5_readMarket_20.1
theorem dX5_readMarket_21 : decode cX5_readMarket 21 = .ok (.getfield 24, 3) := bdX5_readMarket_20.2.1
theorem dX5_readMarket_24 : decode cX5_readMarket 24 = .ok (.iconst 1, 1) := bdX5_readMarket_20.2.2.1
theorem dX5_readMarket_25 : decode cX5_readMarket 25 = .ok (.putfield 119, 3) := bdX5_readMarket_20.2.2.2.1
theorem dX5_readMarket_28 : decode cX5_readMarket 28 = .ok (.aload_n 0, 1) := bdX5_readMarket_20.2.2.2.2.1
theorem dX5_readMarket_29 : decode cX5_readMarket 29 = .ok (.getfield 24, 3) := bdX5_readMarket_20.2.2.2.2.2.1
theorem dX5_readMarket_32 : decode cX5_readMarket 32 = .ok (.aload_n 0, 1) := bdX5_readMarket_20.2.2.2.2.2.2.1
theorem dX5_readMarket_33 : decode cX5_readMarket 33 = .ok (.bipush 20, 2) := bdX5_readMarket_20.2.2.2.2.2.2.2.1
theorem dX5_readMarket_35 : decode cX5_readMarket 35 = .ok (.invokevirtual 99, 3) := bdX5_readMarket_20.2.2.2.2.2.2.2.2.1
theorem dX5_readMarket_38 : decode cX5_readMarket 38 = .ok (.putfield 123, 3) := bdX5_readMarket_20.2.2.2.2.2.2.2.2.2
theorem bdX5_readMarket_41 : (decode cX5_readMarket 41 = .ok (.aload_n 0, 1)) ∧ (decode cX5_readMarket 42 = .ok (.getfield 24, 3)) ∧ (decode cX5_readMarket 45 = .ok (.aload_n 0, 1)) ∧ (decode cX5_readMarket 46 = .ok (.bipush 20, 2)) ∧ (decode cX5_readMarket 48 = .ok (.invokevirtual 99, 3)) ∧ (decode cX5_readMarket 51 = .ok (.putfield 126, 3)) ∧ (decode cX5_readMarket 54 = .ok (.return_, 1)) := by decide +kernel
theorem dX5_readMarket_41 : decode cX5_readMarket 41 = .ok (.aload_n 0, 1) := bdX5_readMarket_41.1
theorem dX5_readMarket_42 : decode cX5_readMarket 42 = .ok (.getfield 24, 3) := bdX5_readMarket_41.2.1
theorem dX5_readMarket_45 : decode cX5_readMarket 45 = .ok (.aload_n 0, 1) := bdX5_readMarket_41.2.2.1
theorem dX5_readMarket_46 : decode cX5_readMarket 46 = .ok (.bipush 20, 2) := bdX5_readMarket_41.2.2.2.1
theorem dX5_readMarket_48 : decode cX5_readMarket 48 = .ok (.invokevirtual 99, 3) := bdX5_readMarket_41.2.2.2.2.1
theorem dX5_readMarket_51 : decode cX5_readMarket 51 = .ok (.putfield 126, 3) := bdX5_readMarket_41.2.2.2.2.2.1
theorem dX5_readMarket_54 : decode cX5_readMarket 54 = .ok (.return_, 1) := bdX5_readMarket_41.2.2.2.2.2.2
theorem bdX5_readRain_0 : (decode cX5_readRain 0 = .ok (.aload_n 0, 1)) ∧ (decode cX5_readRain 1 = .ok (.getfield 24, 3)) ∧ (decode cX5_readRain 4 = .ok (.getfield 129, 3)) ∧ (decode cX5_readRain 7 = .ok (.ifCond .le 9, 3)) ∧ (decode cX5_readRain 10 = .ok (.aload_n 0, 1)) ∧ (decode cX5_readRain 11 = .ok (.iconst 5, 1)) ∧ (decode cX5_readRain 12 = .ok (.invokevirtual 87, 3)) ∧ (decode cX5_readRain 15 = .ok (.return_, 1)) ∧ (decode cX5_readRain 16 = .ok (.aload_n 0, 1)) ∧ (decode cX5_readRain 17 = .ok (.invokevirtual 96, 3)) := by decide +kernel
theorem dX5_readRain_0 : decode cX5_readRain 0 = .ok (.aload_n 0, 1) := bdX5_readRain_0.1
theorem dX5_readRain_1 : decode cX5_readRain 1 = .ok (.getfield 24, 3) := bdX5_readRain_0.2.1
theorem dX5_readRain_4 : decode cX5_readRain 4 = .ok (.getfield 129, 3) := bdX5_readRain_0.2.2.1
theorem dX5_readRain_7 : decode cX5_readRain 7 = .ok (.ifCond .le 9, 3) := bdX5_readRain_0.2.2.2.1
theorem dX5_readRain_10 : decode cX5_readRain 10 = .ok (.aload_n 0, 1) := bdX5_readRain_0.2.2.2.2.1
theorem dX5_readRain_11 : decode cX5_readRain 11 = .ok (.iconst 5, 1) := bdX5_readRain_0.2.2.2.2.2.1
theorem dX5_readRain_12 : decode cX5_readRain 12 = .ok (.invokevirtual 87, 3) := bdX5_readRain_0.2.2.2.2.2.2.1
theorem dX5_readRain_15 : decode cX5_readRain 15 = .ok (.return_, 1) := bdX5_readRain_0.2.2.2.2.2.2.2.1
theorem dX5_readRain_16 : decode cX5_readRain 16 = .ok (.aload_n 0, 1) := bdX5_readRain_0.2.2.2.2.2.2.2.2.1
theorem dX5_readRain_17 : decode cX5_readRain 17 = .ok (.invokevirtual 96, 3) := bdX5_readRain_0.2.2.2.2.2.2.2.2.2
theorem bdX5_readRain_20 : (decode cX5_readRain 20 = .ok (.aload_n 0, 1)) ∧ (decode cX5_readRain 21 = .ok (.getfield 24, 3)) ∧ (decode cX5_readRain 24 = .ok (.aload_n 0, 1)) ∧ (decode cX5_readRain 25 = .ok (.bipush 9, 2)) ∧ (decode cX5_readRain 27 = .ok (.invokevirtual 99, 3)) ∧ (decode cX5_readRain 30 = .ok (.invokevirtual 132, 3)) ∧ (decode cX5_readRain 33 = .ok (.iconst 1, 1)) ∧ (decode cX5_readRain 34 = .ok (.istore_n 1, 1)) ∧ (decode cX5_readRain 35 = .ok (.iload_n 1, 1)) ∧ (decode cX5_readRain 36 = .ok (.bipush 10, 2)) := by decide +kernel
theorem dX5_readRain_20 : decode cX5_readRain 20 = .ok (.aload_n 0, 1) := bdX5_readRain_20.1
theorem dX5_readRain_21 : decode cX5_readRain 21 = .ok (.getfield 24, 3) := bdX5_readRain_20.2.1
theorem dX5_readRain_24 : decode cX5_readRain 24 = .ok (.aload_n 0, 1) := bdX5_readRain_20.2.2.1
theorem dX5_readRain_25 : decode cX5_readRain 25 = .ok (.bipush 9, 2) := bdX5_readRain_20.2.2.2.1
theorem dX5_readRain_27 : decode cX5_readRain 27 = .ok (.invokevirtual 99, 3) := bdX5_readRain_20.2.2.2.2.1
theorem dX5_readRain_30 : decode cX5_readRain 30 = .ok (.invokevirtual 132, 3) := bdX5_readRain_20.2.2.2.2.2.1
theorem dX5_readRain_33 : decode cX5_readRain 33 = .ok (.iconst 1, 1) := bdX5_readRain_20.2.2.2.2.2.2.1
theorem dX5_readRain_34 : decode cX5_readRain 34 = .ok (.istore_n 1, 1) := bdX5_readRain_20.2.2.2.2.2.2.2.1
theorem dX5_readRain_35 : decode cX5_readRain 35 = .ok (.iload_n 1, 1) := bdX5_readRain_20.2.2.2.2.2.2.2.2.1
theorem dX5_readRain_36 : decode cX5_readRain 36 = .ok (.bipush 10, 2) := bdX5_readRain_20.2.2.2.2.2.2.2.2.2
theorem bdX5_readRain_38 : (decode cX5_readRain 38 = .ok (.if_icmp .ge 36, 3)) ∧ (decode cX5_readRain 41 = .ok (.aload_n 0, 1)) ∧ (decode cX5_readRain 42 = .ok (.getfield 40, 3)) ∧ (decode cX5_readRain 45 = .ok (.ifCond .ne 29, 3)) ∧ (decode cX5_readRain 48 = .ok (.aload_n 0, 1)) ∧ (decode cX5_readRain 49 = .ok (.invokevirtual 135, 3)) ∧ (decode cX5_readRain 52 = .ok (.ifCond .eq 22, 3)) ∧ (decode cX5_readRain 55 = .ok (.aload_n 0, 1)) ∧ (decode cX5_readRain 56 = .ok (.getfield 24, 3)) ∧ (decode cX5_readRain 59 = .ok (.aload_n 0, 1)) := by decide +kernel
theorem dX5_readRain_38 : decode cX5_readRain 38 = .ok (.if_icmp .ge 36, 3) := bdX5_readRain_38.1
theorem dX5_readRain_41 : decode cX5_readRain 41 = .ok (.aload_n 0, 1) := bdX5_readRain_38.2.1
theorem dX5_readRain_42 : decode cX5_readRain 42 = .ok (.getfield 40, 3) := bdX5_readRain_38.2.2.1
theorem dX5_readRain_45 : decode cX5_readRain 45 = .ok (.ifCond .ne 29, 3) := bdX5_readRain_38.2.2.2.1
theorem dX5_readRain_48 : decode cX5_readRain 48 = .ok (.aload_n 0, 1) := bdX5_readRain_38.2.2.2.2.1
theorem dX5_readRain_49 : decode cX5_readRain 49 = .ok (.invokevirtual 135, 3) := bdX5_readRain_38.2.2.2.2.2.1
theorem dX5_readRain_52 : decode cX5_readRain 52 = .ok (.ifCond .eq 22, 3) := bdX5_readRain_38.2.2.2.2.2.2.1
theorem dX5_readRain_55 : decode cX5_readRain 55 = .ok (.aload_n 0, 1) := bdX5_readRain_38.2.2.2.2.2.2.2.1
theorem dX5_readRain_56 : decode cX5_readRain 56 = .ok (.getfield 24, 3) := bdX5_readRain_38.2.2.2.2.2.2.2.2.1
theorem dX5_readRain_59 : decode cX5_readRain 59 = .ok (.aload_n 0, 1) := bdX5_readRain_38.2.2.2.2.2.2.2.2.2
theorem bdX5_readRain_60 : (decode cX5_readRain 60 = .ok (.bipush 9, 2)) ∧ (decode cX5_readRain 62 = .ok (.invokevirtual 99, 3)) ∧ (decode cX5_readRain 65 = .ok (.invokevirtual 132, 3)) ∧ (decode cX5_readRain 68 = .ok (.iinc 1 1, 3)) ∧ (decode cX5_readRain 71 = .ok (.goto (-36), 3)) ∧ (decode cX5_readRain 74 = .ok (.aload_n 0, 1)) ∧ (decode cX5_readRain 75 = .ok (.invokevirtual 135, 3)) ∧ (decode cX5_readRain 78 = .ok (.ifCond .eq 8, 3)) ∧ (decode cX5_readRain 81 = .ok (.aload_n 0, 1)) ∧ (decode cX5_readRain 82 = .ok (.iconst 2, 1)) := by decide +kernel
theorem dX5_readRain_60 : decode cX5_readRain 60 = .ok (.bipush 9, 2) := bdX5_readRain_60.1
theorem dX5_readRain_62 : decode cX5_readRain 62 = .ok (.invokevirtual 99, 3) := bdX5_readRain_60.2.1
theorem dX5_readRain_65 : decode cX5_readRain 65 = .ok (.invokevirtual 132, 3) := bdX5_readRain_60.2.2.1
theorem dX5_readRain_68 : decode cX5_readRain 68 = .ok (.iinc 1 1, 3) := bdX5_readRain_60.2.2.2.1
theorem dX5_readRain_71 : decode cX5_readRain 71 = .ok (.goto (-36), 3) := bdX5_readRain_60.2.2.2.2.1
theorem dX5_readRain_74 : decode cX5_readRain 74 = .ok (.aload_n 0, 1) := bdX5_readRain_60.2.2.2.2.2.1
theorem dX5_readRain_75 : decode cX5_readRain 75 = .ok (.invokevirtual 135, 3) := bdX5_readRain_60.2.2.2.2.2.2.1
theorem dX5_readRain_78 : decode cX5_readRain 78 = .ok (.ifCond .eq 8, 3) := bdX5_readRain_60.2.2.2.2.2.2.2.1
theorem dX5_readRain_81 : decode cX5_readRain 81 = .ok (.aload_n 0, 1) := bdX5_readRain_60.2.2.2.2.2.2.2.2.1
theorem dX5_readRain_82 : decode cX5_readRain 82 = .ok (.iconst 2, 1) := bdX5_readRain_60.2.2.2.2.2.2.2.2.2
theorem bdX5_readRain_83 : (decode cX5_readRain 83 = .ok (.invokevirtual 87, 3)) ∧ (decode cX5_readRain 86 = .ok (.return_, 1)) := by decide +kernel
theorem dX5_readRain_83 : decode cX5_readRain 83 = .ok (.invokevirtual 87, 3) := bdX5_readRain_83.1
theorem dX5_readRain_86 : decode cX5_readRain 86 = .ok (.return_, 1) := bdX5_readRain_83.2
theorem bdX5_readEats_0 : (decode cX5_readEats 0 = .ok (.aload_n 0, 1)) ∧ (decode cX5_readEats 1 = .ok (.getfield 24, 3)) ∧ (decode cX5_readEats 4 = .ok (.getfield 139, 3)) ∧ (decode cX5_readEats 7 = .ok (.ifCond .eq 9, 3)) ∧ (decode cX5_readEats 10 = .ok (.aload_n 0, 1)) ∧ (decode cX5_readEats 11 = .ok (.iconst 5, 1)) ∧ (decode cX5_readEats 12 = .ok (.invokevirtual 87, 3)) ∧ (decode cX5_readEats 15 = .ok (.return_, 1)) ∧ (decode cX5_readEats 16 = .ok (.aload_n 0, 1)) ∧ (decode cX5_readEats 17 = .ok (.invokevirtual 96, 3)) := by decide +kernel
theorem dX5_readEats_0 : decode cX5_readEats 0 = .ok (.aload_n 0, 1) := bdX5_readEats_0.1
theorem dX5_readEats_1 : decode cX5_readEats 1 = .ok (.getfield 24, 3) := bdX5_readEats_0.2.1
theorem dX5_readEats_4 : decode cX5_readEats 4 = .ok (.getfield 139, 3) := bdX5_readEats_0.2.2.1
theorem dX5_readEats_7 : decode cX5_readEats 7 = .ok (.ifCond .eq 9, 3) := bdX5_readEats_0.2.2.2.1
theorem dX5_readEats_10 : decode cX5_readEats 10 = .ok (.aload_n 0, 1) := bdX5_readEats_0.2.2.2.2.1
theorem dX5_readEats_11 : decode cX5_readEats 11 = .ok (.iconst 5, 1) := bdX5_readEats_0.2.2.2.2.2.1
theorem dX5_readEats_12 : decode cX5_readEats 12 = .ok (.invokevirtual 87, 3) := bdX5_readEats_0.2.2.2.2.2.2.1
theorem dX5_readEats_15 : decode cX5_readEats 15 = .ok (.return_, 1) := bdX5_readEats_0.2.2.2.2.2.2.2.1
theorem dX5_readEats_16 : decode cX5_readEats 16 = .ok (.aload_n 0, 1) := bdX5_readEats_0.2.2.2.2.2.2.2.2.1
theorem dX5_readEats_17 : decode cX5_readEats 17 = .ok (.invokevirtual 96, 3) := bdX5_readEats_0.2.2.2.2.2.2.2.2.2
theorem bdX5_readEats_20 : (decode cX5_readEats 20 = .ok (.aload_n 0, 1)) ∧ (decode cX5_readEats 21 = .ok (.getfield 24, 3)) ∧ (decode cX5_readEats 24 = .ok (.iconst 1, 1)) ∧ (decode cX5_readEats 25 = .ok (.putfield 139, 3)) ∧ (decode cX5_readEats 28 = .ok (.aload_n 0, 1)) ∧ (decode cX5_readEats 29 = .ok (.getfield 24, 3)) ∧ (decode cX5_readEats 32 = .ok (.aload_n 0, 1)) ∧ (decode cX5_readEats 33 = .ok (.bipush 20, 2)) ∧ (decode cX5_readEats 35 = .ok (.invokevirtual 99, 3)) ∧ (decode cX5_readEats 38 = .ok (.putfield 142, 3)) := by decide +kernel
theorem dX5_readEats_20 : decode cX5_readEats 20 = .ok (.aload_n 0, 1) := bdX5_readEats_20.1
theorem dX5_readEats_21 : decode cX5_readEats 21 = .ok (.getfield 24, 3) := bdX5_readEats_20.2.1
theorem dX5_readEats_24 : decode cX5_readEats 24 = .ok (.iconst 1, 1) := bdX5_readEats_20.2.2.1
theorem dX5_readEats_25 : decode cX5_readEats 25 = .ok (.putfield 139, 3) := bdX5_readEats_20.2.2.2.1
theorem dX5_readEats_28 : decode cX5_readEats 28 = .ok (.aload_n 0, 1) := bdX5_readEats_20.2.2.2.2.1
theorem dX5_readEats_29 : decode cX5_readEats 29 = .ok (.getfield 24, 3) := bdX5_readEats_20.2.2.2.2.2.1
theorem dX5_readEats_32 : decode cX5_readEats 32 = .ok (.aload_n 0, 1) := bdX5_readEats_20.2.2.2.2.2.2.1
theorem dX5_readEats_33 : decode cX5_readEats 33 = .ok (.bipush 20, 2) := bdX5_readEats_20.2.2.2.2.2.2.2.1
theorem dX5_readEats_35 : decode cX5_readEats 35 = .ok (.invokevirtual 99, 3) := bdX5_readEats_20.2.2.2.2.2.2.2.2.1
theorem dX5_readEats_38 : decode cX5_readEats 38 = .ok (.putfield 142, 3) := bdX5_readEats_20.2.2.2.2.2.2.2.2.2
theorem bdX5_readEats_41 : (decode cX5_readEats 41 = .ok (.return_, 1)) := by decide +kernel
theorem dX5_readEats_41 : decode cX5_readEats 41 = .ok (.return_, 1) := bdX5_readEats_41
theorem bdX5_readRule_0 : (decode cX5_readRule 0 = .ok (.aload_n 1, 1)) ∧ (decode cX5_readRule 1 = .ok (.invokevirtual 145, 3)) ∧ (decode cX5_readRule 4 = .ok (.ifCond .eq 9, 3)) ∧ (decode cX5_readRule 7 = .ok (.aload_n 0, 1)) ∧ (decode cX5_readRule 8 = .ok (.iconst 5, 1)) ∧ (decode cX5_readRule 9 = .ok (.invokevirtual 87, 3)) ∧ (decode cX5_readRule 12 = .ok (.return_, 1)) ∧ (decode cX5_readRule 13 = .ok (.aload_n 0, 1)) ∧ (decode cX5_readRule 14 = .ok (.invokevirtual 96, 3)) ∧ (decode cX5_readRule 17 = .ok (.aload_n 0, 1)) := by decide +kernel
theorem dX5_readRule_0 : decode cX5_readRule 0 = .ok (.aload_n 1, 1) := bdX5_readRule_0.1
theorem dX5_readRule_1 : decode cX5_readRule 1 = .ok (.invokevirtual 145, 3) := bdX5_readRule_0.2.1
theorem dX5_readRule_4 : decode cX5_readRule 4 = .ok (.ifCond .eq 9, 3) := bdX5_readRule_0.2.2.1
theorem dX5_readRule_7 : decode cX5_readRule 7 = .ok (.aload_n 0, 1) := bdX5_readRule_0.2.2.2.1
theorem dX5_readRule_8 : decode cX5_readRule 8 = .ok (.iconst 5, 1) := bdX5_readRule_0.2.2.2.2.1
theorem dX5_readRule_9 : decode cX5_readRule 9 = .ok (.invokevirtual 87, 3) := bdX5_readRule_0.2.2.2.2.2.1
theorem dX5_readRule_12 : decode cX5_readRule 12 = .ok (.return_, 1) := bdX5_readRule_0.2.2.2.2.2.2.1
theorem dX5_readRule_13 : decode cX5_readRule 13 = .ok (.aload_n 0, 1) := bdX5_readRule_0.2.2.2.2.2.2.2.1
theorem dX5_readRule_14 : decode cX5_readRule 14 = .ok (.invokevirtual 96, 3) := bdX5_readRule_0.2.2.2.2.2.2.2.2.1
theorem dX5_readRule_17 : decode cX5_readRule 17 = .ok (.aload_n 0, 1) := bdX5_readRule_0.2.2.2.2.2.2.2.2.2
theorem bdX5_readRule_18 : (decode cX5_readRule 18 = .ok (.aload_n 1, 1)) ∧ (decode cX5_readRule 19 = .ok (.putfield 34, 3)) ∧ (decode cX5_readRule 22 = .ok (.aload_n 0, 1)) ∧ (decode cX5_readRule 23 = .ok (.iload_n 2, 1)) ∧ (decode cX5_readRule 24 = .ok (.putfield 150, 3)) ∧ (decode cX5_readRule 27 = .ok (.aload_n 0, 1)) ∧ (decode cX5_readRule 28 = .ok (.iconst 0, 1)) ∧ (decode cX5_readRule 29 = .ok (.invokevirtual 153, 3)) ∧ (decode cX5_readRule 32 = .ok (.return_, 1)) := by decide +kernel
theorem dX5_readRule_18 : decode cX5_readRule 18 = .ok (.aload_n 1, 1) := bdX5_readRule_18.1
theorem dX5_readRule_19 : decode cX5_readRule 19 = .ok (.putfield 34, 3) := bdX5_readRule_18.2.1
theorem dX5_readRule_22 : decode cX5_readRule 22 = .ok (.aload_n 0, 1) := bdX5_readRule_18.2.2.1
theorem dX5_readRule_23 : decode cX5_readRule 23 = .ok (.iload_n 2, 1) := bdX5_readRule_18.2.2.2.1
theorem dX5_readRule_24 : decode cX5_readRule 24 = .ok (.putfield 150, 3) := bdX5_readRule_18.2.2.2.2.1
theorem dX5_readRule_27 : decode cX5_readRule 27 = .ok (.aload_n 0, 1) := bdX5_readRule_18.2.2.2.2.2.1
theorem dX5_readRule_28 : decode cX5_readRule 28 = .ok (.iconst 0, 1) := bdX5_readRule_18.2.2.2.2.2.2.1
theorem dX5_readRule_29 : decode cX5_readRule 29 = .ok (.invokevirtual 153, 3) := bdX5_readRule_18.2.2.2.2.2.2.2.1
theorem dX5_readRule_32 : decode cX5_readRule 32 = .ok (.return_, 1) := bdX5_readRule_18.2.2.2.2.2.2.2.2
theorem bdX5_isNumber_0 : (decode cX5_isNumber 0 = .ok (.aload_n 0, 1)) ∧ (decode cX5_isNumber 1 = .ok (.getfield 54, 3)) ∧ (decode cX5_isNumber 4 = .ok (.iconst 1, 1)) ∧ (decode cX5_isNumber 5 = .ok (.if_icmp .eq 11, 3)) ∧ (decode cX5_isNumber 8 = .ok (.aload_n 0, 1)) ∧ (decode cX5_isNumber 9 = .ok (.getfield 54, 3)) ∧ (decode cX5_isNumber 12 = .ok (.iconst 2, 1)) ∧ (decode cX5_isNumber 13 = .ok (.if_icmp .ne 7, 3)) ∧ (decode cX5_isNumber 16 = .ok (.iconst 1, 1)) ∧ (decode cX5_isNumber 17 = .ok (.goto 4, 3)) := by decide +kernel
theorem dX5_isNumber_0 : decode cX5_isNumber 0 = .ok (.aload_n 0, 1) := bdX5_isNumber_0.1
theorem dX5_isNumber_1 : decode cX5_isNumber 1 = .ok (.getfield 54, 3) := bdX5_isNumber_0.2.1
theorem dX5_isNumber_4 : decode cX5_isNumber 4 = .ok (.iconst 1, 1) := bdX5_isNumber_0.2.2.1
theorem dX5_isNumber_5 : decode cX5_isNumber 5 = .ok (.if_icmp .eq 11, 3) := bdX5_isNumber_0.2.2.2.1
theorem dX5_isNumber_8 : decode cX5_isNumber 8 = .ok (.aload_n 0, 1) := bdX5_isNumber_0.2.2.2.2.1
theorem dX5_isNumber_9 : decode cX5_isNumber 9 = .ok (.getfield 54, 3) := bdX5_isNumber_0.2.2.2.2.2.1
theorem dX5_isNumber_12 : decode cX5_isNumber 12 = .ok (.iconst 2, 1) := bdX5_isNumber_0.2.2.2.2.2.2.1
theorem dX5_isNumber_13 : decode cX5_isNumber 13 = .ok (.if_icmp .ne 7, 3) := bdX5_isNumber_0.2.2.2.2.2.2.2.1
theorem dX5_isNumber_16 : decode cX5_isNumber 16 = .ok (.iconst 1, 1) := bdX5_isNumber_0.2.2.2.2.2.2.2.2.1
theorem dX5_isNumber_17 : decode cX5_isNumber 17 = .ok (.goto 4, 3) := bdX5_isNumber_0.2.2.2.2.2.2.2.2.2
theorem bdX5_isNumber_20 : (decode cX5_isNumber 20 = .ok (.iconst 0, 1)) ∧ (decode cX5_isNumber 21 = .ok (.ireturn, 1)) := by decide +kernel
theorem dX5_isNumber_20 : decode cX5_isNumber 20 = .ok (.iconst 0, 1) := bdX5_isNumber_20.1
theorem dX5_isNumber_21 : decode cX5_isNumber 21 = .ok (.ireturn, 1) := bdX5_isNumber_20.2
theorem bdX5_readNumber_0 : (decode cX5_readNumber 0 = .ok (.aload_n 0, 1)) ∧ (decode cX5_readNumber 1 = .ok (.iload_n 1, 1)) ∧ (decode cX5_readNumber 2 = .ok (.invokevirtual 109, 3)) ∧ (decode cX5_readNumber 5 = .ok (.istore_n 2, 1)) ∧ (decode cX5_readNumber 6 = .ok (.aload_n 0, 1)) ∧ (decode cX5_readNumber 7 = .ok (.getfield 40, 3)) ∧ (decode cX5_readNumber 10 = .ok (.ifCond .ne 7, 3)) ∧ (decode cX5_readNumber 13 = .ok (.aload_n 0, 1)) ∧ (decode cX5_readNumber 14 = .ok (.invokevirtual 96, 3)) ∧ (decode cX5_readNumber 17 = .ok (.iload_n 2, 1)) := by decide +kernel
theorem dX5_readNumber_0 : decode cX5_readNumber 0 = .ok (.aload_n 0, 1) := bdX5_readNumber_0.1
theorem dX5_readNumber_1 : decode cX5_readNumber 1 = .ok (.iload_n 1, 1) := bdX5_readNumber_0.2.1
theorem dX5_readNumber_2 : decode cX5_readNumber 2 = .ok (.invokevirtual 109, 3) := bdX5_readNumber_0.2.2.1
theorem dX5_readNumber_5 : decode cX5_readNumber 5 = .ok (.istore_n 2, 1) := bdX5_readNumber_0.2.2.2.1
theorem dX5_readNumber_6 : decode cX5_readNumber 6 = .ok (.aload_n 0, 1) := bdX5_readNumber_0.2.2.2.2.1
theorem dX5_readNumber_7 : decode cX5_readNumber 7 = .ok (.getfield 40, 3) := bdX5_readNumber_0.2.2.2.2.2.1
theorem dX5_readNumber_10 : decode cX5_readNumber 10 = .ok (.ifCond .ne 7, 3) := bdX5_readNumber_0.2.2.2.2.2.2.1
theorem dX5_readNumber_13 : decode cX5_readNumber 13 = .ok (.aload_n 0, 1) := bdX5_readNumber_0.2.2.2.2.2.2.2.1
theorem dX5_readNumber_14 : decode cX5_readNumber 14 = .ok (.invokevirtual 96, 3) := bdX5_readNumber_0.2.2.2.2.2.2.2.2.1
theorem dX5_readNumber_17 : decode cX5_readNumber 17 = .ok (.iload_n 2, 1) := bdX5_readNumber_0.2.2.2.2.2.2.2.2.2
theorem bdX5_readNumber_18 : (decode cX5_readNumber 18 = .ok (.ireturn, 1)) := by decide +kernel
theorem dX5_readNumber_18 : decode cX5_readNumber 18 = .ok (.ireturn, 1) := bdX5_readNumber_18
theorem bdX5_peekNumber_0 : (decode cX5_peekNumber 0 = .ok (.aload_n 0, 1)) ∧ (decode cX5_peekNumber 1 = .ok (.getfield 20, 3)) ∧ (decode cX5_peekNumber 4 = .ok (.aload_n 0, 1)) ∧ (decode cX5_peekNumber 5 = .ok (.getfield 47, 3)) ∧ (decode cX5_peekNumber 8 = .ok (.invokevirtual 156, 3)) ∧ (decode cX5_peekNumber 11 = .ok (.istore_n 2, 1)) ∧ (decode cX5_peekNumber 12 = .ok (.aload_n 0, 1)) ∧ (decode cX5_peekNumber 13 = .ok (.invokevirtual 135, 3)) ∧ (decode cX5_peekNumber 16 = .ok (.ifCond .ne 11, 3)) ∧ (decode cX5_peekNumber 19 = .ok (.aload_n 0, 1)) := by decide +kernel
theorem dX5_peekNumber_0 : decode cX5_peekNumber 0 = .ok (.aload_n 0, 1) := bdX5_peekNumber_0.1
theorem dX5_peekNumber_1 : decode cX5_peekNumber 1 = .ok (.getfield 20, 3) := bdX5_peekNumber_0.2.1
theorem dX5_peekNumber_4 : decode cX5_peekNumber 4 = .ok (.aload_n 0, 1) := bdX5_peekNumber_0.2.2.1
theorem dX5_peekNumber_5 : decode cX5_peekNumber 5 = .ok (.getfield 47, 3) := bdX5_peekNumber_0.2.2.2.1
theorem dX5_peekNumber_8 : decode cX5_peekNumber 8 = .ok (.invokevirtual 156, 3) := bdX5_peekNumber_0.2.2.2.2.1
theorem dX5_peekNumber_11 : decode cX5_peekNumber 11 = .ok (.istore_n 2, 1) := bdX5_peekNumber_0.2.2.2.2.2.1
theorem dX5_peekNumber_12 : decode cX5_peekNumber 12 = .ok (.aload_n 0, 1) := bdX5_peekNumber_0.2.2.2.2.2.2.1
theorem dX5_peekNumber_13 : decode cX5_peekNumber 13 = .ok (.invokevirtual 135, 3) := bdX5_peekNumber_0.2.2.2.2.2.2.2.1
theorem dX5_peekNumber_16 : decode cX5_peekNumber 16 = .ok (.ifCond .ne 11, 3) := bdX5_peekNumber_0.2.2.2.2.2.2.2.2.1
theorem dX5_peekNumber_19 : decode cX5_peekNumber 19 = .ok (.aload_n 0, 1) := bdX5_peekNumber_0.2.2.2.2.2.2.2.2.2
theorem bdX5_peekNumber_20 : (decode cX5_peekNumber 20 = .ok (.iconst 1, 1)) ∧ (decode cX5_peekNumber 21 = .ok (.invokevirtual 87, 3)) ∧ (decode cX5_peekNumber 24 = .ok (.goto 21, 3)) ∧ (decode cX5_peekNumber 27 = .ok (.aload_n 0, 1)) ∧ (decode cX5_peekNumber 28 = .ok (.getfield 54, 3)) ∧ (decode cX5_peekNumber 31 = .ok (.iconst 2, 1)) ∧ (decode cX5_peekNumber 32 = .ok (.if_icmp .eq 8, 3)) ∧ (decode cX5_peekNumber 35 = .ok (.iload_n 2, 1)) ∧ (decode cX5_peekNumber 36 = .ok (.iload_n 1, 1)) ∧ (decode cX5_peekNumber 37 = .ok (.if_icmp .le 8, 3)) := by decide +kernel
theorem dX5_peekNumber_20 : decode cX5_peekNumber 20 = .ok (.iconst 1, 1) := bdX5_peekNumber_20.1
theorem dX5_peekNumber_21 : decode cX5_peekNumber 21 = .ok (.invokevirtual 87, 3) := bdX5_peekNumber_20.2.1
theorem dX5_peekNumber_24 : decode cX5_peekNumber 24 = .ok (.goto 21, 3) := bdX5_peekNumber_20.2.2.1
theorem dX5_peekNumber_27 : decode cX5_peekNumber 27 = .ok (.aload_n 0, 1) := bdX5_peekNumber_20.2.2.2.1
theorem dX5_peekNumber_28 : decode cX5_peekNumber 28 = .ok (.getfield 54, 3) := bdX5_peekNumber_20.2.2.2.2.1
theorem dX5_peekNumber_31 : decode cX5_peekNumber 31 = .ok (.iconst 2, 1) := bdX5_peekNumber_20.2.2.2.2.2.1
theorem dX5_peekNumber_32 : decode cX5_peekNumber 32 = .ok (.if_icmp .eq 8, 3) := bdX5_peekNumber_20.2.2.2.2.2.2.1
theorem dX5_peekNumber_35 : decode cX5_peekNumber 35 = .ok (.iload_n 2, 1) := bdX5_peekNumber_20.2.2.2.2.2.2.2.1
theorem dX5_peekNumber_36 : decode cX5_peekNumber 36 = .ok (.iload_n 1, 1) := bdX5_peekNumber_20.2.2.2.2.2.2.2.2.1
theorem dX5_peekNumber_37 : decode cX5_peekNumber 37 = .ok (.if_icmp .le 8, 3) := bdX5_peekNumber_20.2.2.2.2.2.2.2.2.2
theorem bdX5_peekNumber_40 : (decode cX5_peekNumber 40 = .ok (.aload_n 0, 1)) ∧ (decode cX5_peekNumber 41 = .ok (.iconst 2, 1)) ∧ (decode cX5_peekNumber 42 = .ok (.invokevirtual 87, 3)) ∧ (decode cX5_peekNumber 45 = .ok (.iload_n 2, 1)) ∧ (decode cX5_peekNumber 46 = .ok (.ireturn, 1)) := by decide +kernel
theorem dX5_peekNumber_40 : decode cX5_peekNumber 40 = .ok (.aload_n 0, 1) := bdX5_peekNumber_40.1
theorem dX5_peekNumber_41 : decode cX5_peekNumber 41 = .ok (.iconst 2, 1) := bdX5_peekNumber_40.2.1
theorem dX5_peekNumber_42 : decode cX5_peekNumber 42 = .ok (.invokevirtual 87, 3) := bdX5_peekNumber_40.2.2.1
theorem dX5_peekNumber_45 : decode cX5_peekNumber 45 = .ok (.iload_n 2, 1) := bdX5_peekNumber_40.2.2.2.1
theorem dX5_peekNumber_46 : decode cX5_peekNumber 46 = .ok (.ireturn, 1) := bdX5_peekNumber_40.2.2.2.2
theorem bdX5_readSign_0 : (decode cX5_readSign 0 = .ok (.aload_n 0, 1)) ∧ (decode cX5_readSign 1 = .ok (.getfield 54, 3)) ∧ (decode cX5_readSign 4 = .ok (.iload_n 1, 1)) ∧ (decode cX5_readSign 5 = .ok (.if_icmp .eq 8, 3)) ∧ (decode cX5_readSign 8 = .ok (.aload_n 0, 1)) ∧ (decode cX5_readSign 9 = .ok (.iconst 1, 1)) ∧ (decode cX5_readSign 10 = .ok (.invokevirtual 87, 3)) ∧ (decode cX5_readSign 13 = .ok (.aload_n 0, 1)) ∧ (decode cX5_readSign 14 = .ok (.getfield 40, 3)) ∧ (decode cX5_readSign 17 = .ok (.ifCond .ne 7, 3)) := by decide +kernel
theorem dX5_readSign_0 : decode cX5_readSign 0 = .ok (.aload_n 0, 1) := bdX5_readSign_0.1
theorem dX5_readSign_1 : decode cX5_readSign 1 = .ok (.getfield 54, 3) := bdX5_readSign_0.2.1
theorem dX5_readSign_4 : decode cX5_readSign 4 = .ok (.iload_n 1, 1) := bdX5_readSign_0.2.2.1
theorem dX5_readSign_5 : decode cX5_readSign 5 = .ok (.if_icmp .eq 8, 3) := bdX5_readSign_0.2.2.2.1
theorem dX5_readSign_8 : decode cX5_readSign 8 = .ok (.aload_n 0, 1) := bdX5_readSign_0.2.2.2.2.1
theorem dX5_readSign_9 : decode cX5_readSign 9 = .ok (.iconst 1, 1) := bdX5_readSign_0.2.2.2.2.2.1
theorem dX5_readSign_10 : decode cX5_readSign 10 = .ok (.invokevirtual 87, 3) := bdX5_readSign_0.2.2.2.2.2.2.1
theorem dX5_readSign_13 : decode cX5_readSign 13 = .ok (.aload_n 0, 1) := bdX5_readSign_0.2.2.2.2.2.2.2.1
theorem dX5_readSign_14 : decode cX5_readSign 14 = .ok (.getfield 40, 3) := bdX5_readSign_0.2.2.2.2.2.2.2.2.1
theorem dX5_readSign_17 : decode cX5_readSign 17 = .ok (.ifCond .ne 7, 3) := bdX5_readSign_0.2.2.2.2.2.2.2.2.2
theorem bdX5_readSign_20 : (decode cX5_readSign 20 = .ok (.aload_n 0, 1)) ∧ (decode cX5_readSign 21 = .ok (.invokevirtual 96, 3)) ∧ (decode cX5_readSign 24 = .ok (.return_, 1)) := by decide +kernel
theorem dX5_readSign_20 : decode cX5_readSign 20 = .ok (.aload_n 0, 1) := bdX5_readSign_20.1
theorem dX5_readSign_21 : decode cX5_readSign 21 = .ok (.invokevirtual 96, 3) := bdX5_readSign_20.2.1
theorem dX5_readSign_24 : decode cX5_readSign 24 = .ok (.return_, 1) := bdX5_readSign_20.2.2
theorem bdX5_readExpr_0 : (decode cX5_readExpr 0 = .ok (.iload_n 1, 1)) ∧ (decode cX5_readExpr 1 = .ok (.bipush 6, 2)) ∧ (decode cX5_readExpr 3 = .ok (.if_icmp .lt 20, 3)) ∧ (decode cX5_readExpr 6 = .ok (.aload_n 0, 1)) ∧ (decode cX5_readExpr 7 = .ok (.aload_n 0, 1)) ∧ (decode cX5_readExpr 8 = .ok (.invokevirtual 159, 3)) ∧ (decode cX5_readExpr 11 = .ok (.ifCond .eq 7, 3)) ∧ (decode cX5_readExpr 14 = .ok (.iconst 2, 1)) ∧ (decode cX5_readExpr 15 = .ok (.goto 4, 3)) ∧ (decode cX5_readExpr 18 = .ok (.iconst 1, 1)) := by decide +kernel
theorem dX5_readExpr_0 : decode cX5_readExpr 0 = .ok (.iload_n 1, 1) := bdX5_readExpr_0.1
theorem dX5_readExpr_1 : decode cX5_readExpr 1 = .ok (.bipush 6, 2) := bdX5_readExpr_0.2.1
theorem dX5_readExpr_3 : decode cX5_readExpr 3 = .ok (.if_icmp .lt 20, 3) := bdX5_readExpr_0.2.2.1
theorem dX5_readExpr_6 : decode cX5_readExpr 6 = .ok (.aload_n 0, 1) := bdX5_readExpr_0.2.2.2.1
theorem dX5_readExpr_7 : decode cX5_readExpr 7 = .ok (.aload_n 0, 1) := bdX5_readExpr_0.2.2.2.2.1
theorem dX5_readExpr_8 : decode cX5_readExpr 8 = .ok (.invokevirtual 159, 3) := bdX5_readExpr_0.2.2.2.2.2.1
theorem dX5_readExpr_11 : decode cX5_readExpr 11 = .ok (.ifCond .eq 7, 3) := bdX5_readExpr_0.2.2.2.2.2.2.1
theorem dX5_readExpr_14 : decode cX5_readExpr 14 = .ok (.iconst 2, 1) := bdX5_readExpr_0.2.2.2.2.2.2.2.1
theorem dX5_readExpr_15 : decode cX5_readExpr 15 = .ok (.goto 4, 3) := bdX5_readExpr_0.2.2.2.2.2.2.2.2.1
theorem dX5_readExpr_18 : decode cX5_readExpr 18 = .ok (.iconst 1, 1) := bdX5_readExpr_0.2.2.2.2.2.2.2.2.2
theorem bdX5_readExpr_19 : (decode cX5_readExpr 19 = .ok (.invokevirtual 87, 3)) ∧ (decode cX5_readExpr 22 = .ok (.return_, 1)) ∧ (decode cX5_readExpr 23 = .ok (.aload_n 0, 1)) ∧ (decode cX5_readExpr 24 = .ok (.iload_n 1, 1)) ∧ (decode cX5_readExpr 25 = .ok (.invokevirtual 162, 3)) ∧ (decode cX5_readExpr 28 = .ok (.iconst 0, 1)) ∧ (decode cX5_readExpr 29 = .ok (.istore_n 2, 1)) ∧ (decode cX5_readExpr 30 = .ok (.iload_n 2, 1)) ∧ (decode cX5_readExpr 31 = .ok (.sipush 700, 3)) ∧ (decode cX5_readExpr 34 = .ok (.if_icmp .ge 43, 3)) := by decide +kernel
theorem dX5_readExpr_19 : decode cX5_readExpr 19 = .ok (.invokevirtual 87, 3) := bdX5_readExpr_19.1
theorem dX5_readExpr_22 : decode cX5_readExpr 22 = .ok (.return_, 1) := bdX5_readExpr_19.2.1
theorem dX5_readExpr_23 : decode cX5_readExpr 23 = .ok (.aload_n 0, 1) := bdX5_readExpr_19.2.2.1
theorem dX5_readExpr_24 : decode cX5_readExpr 24 = .ok (.iload_n 1, 1) := bdX5_readExpr_19.2.2.2.1
theorem dX5_readExpr_25 : decode cX5_readExpr 25 = .ok (.invokevirtual 162, 3) := bdX5_readExpr_19.2.2.2.2.1
theorem dX5_readExpr_28 : decode cX5_readExpr 28 = .ok (.iconst 0, 1) := bdX5_readExpr_19.2.2.2.2.2.1
theorem dX5_readExpr_29 : decode cX5_readExpr 29 = .ok (.istore_n 2, 1) := bdX5_readExpr_19.2.2.2.2.2.2.1
theorem dX5_readExpr_30 : decode cX5_readExpr 30 = .ok (.iload_n 2, 1) := bdX5_readExpr_19.2.2.2.2.2.2.2.1
theorem dX5_readExpr_31 : decode cX5_readExpr 31 = .ok (.sipush 700, 3) := bdX5_readExpr_19.2.2.2.2.2.2.2.2.1
theorem dX5_readExpr_34 : decode cX5_readExpr 34 = .ok (.if_icmp .ge 43, 3) := bdX5_readExpr_19.2.2.2.2.2.2.2.2.2
theorem bdX5_readExpr_37 : (decode cX5_readExpr 37 = .ok (.aload_n 0, 1)) ∧ (decode cX5_readExpr 38 = .ok (.getfield 40, 3)) ∧ (decode cX5_readExpr 41 = .ok (.ifCond .ne 36, 3)) ∧ (decode cX5_readExpr 44 = .ok (.aload_n 0, 1)) ∧ (decode cX5_readExpr 45 = .ok (.getfield 54, 3)) ∧ (decode cX5_readExpr 48 = .ok (.sipush 134, 3)) ∧ (decode cX5_readExpr 51 = .ok (.if_icmp .ne 26, 3)) ∧ (decode cX5_readExpr 54 = .ok (.aload_n 0, 1)) ∧ (decode cX5_readExpr 55 = .ok (.invokevirtual 96, 3)) ∧ (decode cX5_readExpr 58 = .ok (.aload_n 0, 1)) := by decide +kernel
theorem dX5_readExpr_37 : decode cX5_readExpr 37 = .ok (.aload_n 0, 1) := bdX5_readExpr_37.1
theorem dX5_readExpr_38 : decode cX5_readExpr 38 = .ok (.getfield 40, 3) := bdX5_readExpr_37.2.1
theorem dX5_readExpr_41 : decode cX5_readExpr 41 = .ok (.ifCond .ne 36, 3) := bdX5_readExpr_37.2.2.1
theorem dX5_readExpr_44 : decode cX5_readExpr 44 = .ok (.aload_n 0, 1) := bdX5_readExpr_37.2.2.2.1
theorem dX5_readExpr_45 : decode cX5_readExpr 45 = .ok (.getfield 54, 3) := bdX5_readExpr_37.2.2.2.2.1
theorem dX5_readExpr_48 : decode cX5_readExpr 48 = .ok (.sipush 134, 3) := bdX5_readExpr_37.2.2.2.2.2.1
theorem dX5_readExpr_51 : decode cX5_readExpr 51 = .ok (.if_icmp .ne 26, 3) := bdX5_readExpr_37.2.2.2.2.2.2.1
theorem dX5_readExpr_54 : decode cX5_readExpr 54 = .ok (.aload_n 0, 1) := bdX5_readExpr_37.2.2.2.2.2.2.2.1
theorem dX5_readExpr_55 : decode cX5_readExpr 55 = .ok (.invokevirtual 96, 3) := bdX5_readExpr_37.2.2.2.2.2.2.2.2.1
theorem dX5_readExpr_58 : decode cX5_readExpr 58 = .ok (.aload_n 0, 1) := bdX5_readExpr_37.2.2.2.2.2.2.2.2.2
theorem bdX5_readExpr_59 : (decode cX5_readExpr 59 = .ok (.iload_n 1, 1)) ∧ (decode cX5_readExpr 60 = .ok (.invokevirtual 162, 3)) ∧ (decode cX5_readExpr 63 = .ok (.aload_n 0, 1)) ∧ (decode cX5_readExpr 64 = .ok (.getfield 34, 3)) ∧ (decode cX5_readExpr 67 = .ok (.iconst (-1), 1)) ∧ (decode cX5_readExpr 68 = .ok (.invokevirtual 165, 3)) ∧ (decode cX5_readExpr 71 = .ok (.iinc 2 1, 3)) ∧ (decode cX5_readExpr 74 = .ok (.goto (-44), 3)) ∧ (decode cX5_readExpr 77 = .ok (.return_, 1)) := by decide +kernel
theorem dX5_readExpr_59 : decode cX5_readExpr 59 = .ok (.iload_n 1, 1) := bdX5_readExpr_59.1
theorem dX5_readExpr_60 : decode cX5_readExpr 60 = .ok (.invokevirtual 162, 3) := bdX5_readExpr_59.2.1
theorem dX5_readExpr_63 : decode cX5_readExpr 63 = .ok (.aload_n 0, 1) := bdX5_readExpr_59.2.2.1
theorem dX5_readExpr_64 : decode cX5_readExpr 64 = .ok (.getfield 34, 3) := bdX5_readExpr_59.2.2.2.1
theorem dX5_readExpr_67 : decode cX5_readExpr 67 = .ok (.iconst (-1), 1) := bdX5_readExpr_59.2.2.2.2.1
theorem dX5_readExpr_68 : decode cX5_readExpr 68 = .ok (.invokevirtual 165, 3) := bdX5_readExpr_59.2.2.2.2.2.1
theorem dX5_readExpr_71 : decode cX5_readExpr 71 = .ok (.iinc 2 1, 3) := bdX5_readExpr_59.2.2.2.2.2.2.1
theorem dX5_readExpr_74 : decode cX5_readExpr 74 = .ok (.goto (-44), 3) := bdX5_readExpr_59.2.2.2.2.2.2.2.1
theorem dX5_readExpr_77 : decode cX5_readExpr 77 = .ok (.return_, 1) := bdX5_readExpr_59.2.2.2.2.2.2.2.2
theorem bdX5_mayBeginExpr_0 : (decode cX5_mayBeginExpr 0 = .ok (.aload_n 0, 1)) ∧ (decode cX5_mayBeginExpr 1 = .ok (.invokevirtual 135, 3)) ∧ (decode cX5_mayBeginExpr 4 = .ok (.ifCond .ne 22, 3)) ∧ (decode cX5_mayBeginExpr 7 = .ok (.aload_n 0, 1)) ∧ (decode cX5_mayBeginExpr 8 = .ok (.getfield 54, 3)) ∧ (decode cX5_mayBeginExpr 11 = .ok (.sipush 128, 3)) ∧ (decode cX5_mayBeginExpr 14 = .ok (.if_icmp .ge 12, 3)) ∧ (decode cX5_mayBeginExpr 17 = .ok (.aload_n 0, 1)) ∧ (decode cX5_mayBeginExpr 18 = .ok (.getfield 54, 3)) ∧ (decode cX5_mayBeginExpr 21 = .ok (.bipush 40, 2)) := by decide +kernel
theorem dX5_mayBeginExpr_0 : decode cX5_mayBeginExpr 0 = .ok (.aload_n 0, 1) := bdX5_mayBeginExpr_0.1
theorem dX5_mayBeginExpr_1 : decode cX5_mayBeginExpr 1 = .ok (.invokevirtual 135, 3) := bdX5_mayBeginExpr_0.2.1
theorem dX5_mayBeginExpr_4 : decode cX5_mayBeginExpr 4 = .ok (.ifCond .ne 22, 3) := bdX5_mayBeginExpr_0.2.2.1
theorem dX5_mayBeginExpr_7 : decode cX5_mayBeginExpr 7 = .ok (.aload_n 0, 1) := bdX5_mayBeginExpr_0.2.2.2.1
theorem dX5_mayBeginExpr_8 : decode cX5_mayBeginExpr 8 = .ok (.getfield 54, 3) := bdX5_mayBeginExpr_0.2.2.2.2.1
theorem dX5_mayBeginExpr_11 : decode cX5_mayBeginExpr 11 = .ok (.sipush 128, 3) := bdX5_mayBeginExpr_0.2.2.2.2.2.1
theorem dX5_mayBeginExpr_14 : decode cX5_mayBeginExpr 14 = .ok (.if_icmp .ge 12, 3) := bdX5_mayBeginExpr_0.2.2.2.2.2.2.1
theorem dX5_mayBeginExpr_17 : decode cX5_mayBeginExpr 17 = .ok (.aload_n 0, 1) := bdX5_mayBeginExpr_0.2.2.2.2.2.2.2.1
theorem dX5_mayBeginExpr_18 : decode cX5_mayBeginExpr 18 = .ok (.getfield 54, 3) := bdX5_mayBeginExpr_0.2.2.2.2.2.2.2.2.1
theorem dX5_mayBeginExpr_21 : decode cX5_mayBeginExpr 21 = .ok (.bipush 40, 2) := bdX5_mayBeginExpr_0.2.2.2.2.2.2.2.2.2
theorem bdX5_mayBeginExpr_23 : (decode cX5_mayBeginExpr 23 = .ok (.if_icmp .ne 7, 3)) ∧ (decode cX5_mayBeginExpr 26 = .ok (.iconst 1, 1)) ∧ (decode cX5_mayBeginExpr 27 = .ok (.goto 4, 3)) ∧ (decode cX5_mayBeginExpr 30 = .ok (.iconst 0, 1)) ∧ (decode cX5_mayBeginExpr 31 = .ok (.ireturn, 1)) := by decide +kernel
theorem dX5_mayBeginExpr_23 : decode cX5_mayBeginExpr 23 = .ok (.if_icmp .ne 7, 3) := bdX5_mayBeginExpr_23.1
theorem dX5_mayBeginExpr_26 : decode cX5_mayBeginExpr 26 = .ok (.iconst 1, 1) := bdX5_mayBeginExpr_23.2.1
theorem dX5_mayBeginExpr_27 : decode cX5_mayBeginExpr 27 = .ok (.goto 4, 3) := bdX5_mayBeginExpr_23.2.2.1
theorem dX5_mayBeginExpr_30 : decode cX5_mayBeginExpr 30 = .ok (.iconst 0, 1) := bdX5_mayBeginExpr_23.2.2.2.1
theorem dX5_mayBeginExpr_31 : decode cX5_mayBeginExpr 31 = .ok (.ireturn, 1) := bdX5_mayBeginExpr_23.2.2.2.2
theorem bdX5_readAnd_0 : (decode cX5_readAnd 0 = .ok (.aload_n 0, 1)) ∧ (decode cX5_readAnd 1 = .ok (.iload_n 1, 1)) ∧ (decode cX5_readAnd 2 = .ok (.invokevirtual 168, 3)) ∧ (decode cX5_readAnd 5 = .ok (.iconst 0, 1)) ∧ (decode cX5_readAnd 6 = .ok (.istore_n 2, 1)) ∧ (decode cX5_readAnd 7 = .ok (.iload_n 2, 1)) ∧ (decode cX5_readAnd 8 = .ok (.sipush 700, 3)) ∧ (decode cX5_readAnd 11 = .ok (.if_icmp .ge 44, 3)) ∧ (decode cX5_readAnd 14 = .ok (.aload_n 0, 1)) ∧ (decode cX5_readAnd 15 = .ok (.getfield 40, 3)) := by decide +kernel
theorem dX5_readAnd_0 : decode cX5_readAnd 0 = .ok (.aload_n 0, 1) := bdX5_readAnd_0.1
theorem dX5_readAnd_1 : decode cX5_readAnd 1 = .ok (.iload_n 1, 1) := bdX5_readAnd_0.2.1
theorem dX5_readAnd_2 : decode cX5_readAnd 2 = .ok (.invokevirtual 168, 3) := bdX5_readAnd_0.2.2.1
theorem dX5_readAnd_5 : decode cX5_readAnd 5 = .ok (.iconst 0, 1) := bdX5_readAnd_0.2.2.2.1
theorem dX5_readAnd_6 : decode cX5_readAnd 6 = .ok (.istore_n 2, 1) := bdX5_readAnd_0.2.2.2.2.1
theorem dX5_readAnd_7 : decode cX5_readAnd 7 = .ok (.iload_n 2, 1) := bdX5_readAnd_0.2.2.2.2.2.1
theorem dX5_readAnd_8 : decode cX5_readAnd 8 = .ok (.sipush 700, 3) := bdX5_readAnd_0.2.2.2.2.2.2.1
theorem dX5_readAnd_11 : decode cX5_readAnd 11 = .ok (.if_icmp .ge 44, 3) := bdX5_readAnd_0.2.2.2.2.2.2.2.1
theorem dX5_readAnd_14 : decode cX5_readAnd 14 = .ok (.aload_n 0, 1) := bdX5_readAnd_0.2.2.2.2.2.2.2.2.1
theorem dX5_readAnd_15 : decode cX5_readAnd 15 = .ok (.getfield 40, 3) := bdX5_readAnd_0.2.2.2.2.2.2.2.2.2
theorem bdX5_readAnd_18 : (decode cX5_readAnd 18 = .ok (.ifCond .ne 37, 3)) ∧ (decode cX5_readAnd 21 = .ok (.aload_n 0, 1)) ∧ (decode cX5_readAnd 22 = .ok (.getfield 54, 3)) ∧ (decode cX5_readAnd 25 = .ok (.sipush 135, 3)) ∧ (decode cX5_readAnd 28 = .ok (.if_icmp .ne 27, 3)) ∧ (decode cX5_readAnd 31 = .ok (.aload_n 0, 1)) ∧ (decode cX5_readAnd 32 = .ok (.invokevirtual 96, 3)) ∧ (decode cX5_readAnd 35 = .ok (.aload_n 0, 1)) ∧ (decode cX5_readAnd 36 = .ok (.iload_n 1, 1)) ∧ (decode cX5_readAnd 37 = .ok (.invokevirtual 168, 3)) := by decide +kernel
theorem dX5_readAnd_18 : decode cX5_readAnd 18 = .ok (.ifCond .ne 37, 3) := bdX5_readAnd_18.1
theorem dX5_readAnd_21 : decode cX5_readAnd 21 = .ok (.aload_n 0, 1) := bdX5_readAnd_18.2.1
theorem dX5_readAnd_22 : decode cX5_readAnd 22 = .ok (.getfield 54, 3) := bdX5_readAnd_18.2.2.1
theorem dX5_readAnd_25 : decode cX5_readAnd 25 = .ok (.sipush 135, 3) := bdX5_readAnd_18.2.2.2.1
theorem dX5_readAnd_28 : decode cX5_readAnd 28 = .ok (.if_icmp .ne 27, 3) := bdX5_readAnd_18.2.2.2.2.1
theorem dX5_readAnd_31 : decode cX5_readAnd 31 = .ok (.aload_n 0, 1) := bdX5_readAnd_18.2.2.2.2.2.1
theorem dX5_readAnd_32 : decode cX5_readAnd 32 = .ok (.invokevirtual 96, 3) := bdX5_readAnd_18.2.2.2.2.2.2.1
theorem dX5_readAnd_35 : decode cX5_readAnd 35 = .ok (.aload_n 0, 1) := bdX5_readAnd_18.2.2.2.2.2.2.2.1
theorem dX5_readAnd_36 : decode cX5_readAnd 36 = .ok (.iload_n 1, 1) := bdX5_readAnd_18.2.2.2.2.2.2.2.2.1
theorem dX5_readAnd_37 : decode cX5_readAnd 37 = .ok (.invokevirtual 168, 3) := bdX5_readAnd_18.2.2.2.2.2.2.2.2.2
theorem bdX5_readAnd_40 : (decode cX5_readAnd 40 = .ok (.aload_n 0, 1)) ∧ (decode cX5_readAnd 41 = .ok (.getfield 34, 3)) ∧ (decode cX5_readAnd 44 = .ok (.bipush (-2), 2)) ∧ (decode cX5_readAnd 46 = .ok (.invokevirtual 165, 3)) ∧ (decode cX5_readAnd 49 = .ok (.iinc 2 1, 3)) ∧ (decode cX5_readAnd 52 = .ok (.goto (-45), 3)) ∧ (decode cX5_readAnd 55 = .ok (.return_, 1)) := by decide +kernel
theorem dX5_readAnd_40 : decode cX5_readAnd 40 = .ok (.aload_n 0, 1) := bdX5_readAnd_40.1
theorem dX5_readAnd_41 : decode cX5_readAnd 41 = .ok (.getfield 34, 3) := bdX5_readAnd_40.2.1
theorem dX5_readAnd_44 : decode cX5_readAnd 44 = .ok (.bipush (-2), 2) := bdX5_readAnd_40.2.2.1
theorem dX5_readAnd_46 : decode cX5_readAnd 46 = .ok (.invokevirtual 165, 3) := bdX5_readAnd_40.2.2.2.1
theorem dX5_readAnd_49 : decode cX5_readAnd 49 = .ok (.iinc 2 1, 3) := bdX5_readAnd_40.2.2.2.2.1
theorem dX5_readAnd_52 : decode cX5_readAnd 52 = .ok (.goto (-45), 3) := bdX5_readAnd_40.2.2.2.2.2.1
theorem dX5_readAnd_55 : decode cX5_readAnd 55 = .ok (.return_, 1) := bdX5_readAnd_40.2.2.2.2.2.2
theorem bdX5_readNot_0 : (decode cX5_readNot 0 = .ok (.iconst 0, 1)) ∧ (decode cX5_readNot 1 = .ok (.istore_n 2, 1)) ∧ (decode cX5_readNot 2 = .ok (.iload_n 2, 1)) ∧ (decode cX5_readNot 3 = .ok (.bipush 6, 2)) ∧ (decode cX5_readNot 5 = .ok (.if_icmp .ge 23, 3)) ∧ (decode cX5_readNot 8 = .ok (.aload_n 0, 1)) ∧ (decode cX5_readNot 9 = .ok (.getfield 54, 3)) ∧ (decode cX5_readNot 12 = .ok (.sipush 136, 3)) ∧ (decode cX5_readNot 15 = .ok (.if_icmp .ne 13, 3)) ∧ (decode cX5_readNot 18 = .ok (.aload_n 0, 1)) := by decide +kernel
theorem dX5_readNot_0 : decode cX5_readNot 0 = .ok (.iconst 0, 1) := bdX5_readNot_0.1
theorem dX5_readNot_1 : decode cX5_readNot 1 = .ok (.istore_n 2, 1) := bdX5_readNot_0.2.1
theorem dX5_readNot_2 : decode cX5_readNot 2 = .ok (.iload_n 2, 1) := bdX5_readNot_0.2.2.1
theorem dX5_readNot_3 : decode cX5_readNot 3 = .ok (.bipush 6, 2) := bdX5_readNot_0.2.2.2.1
theorem dX5_readNot_5 : decode cX5_readNot 5 = .ok (.if_icmp .ge 23, 3) := bdX5_readNot_0.2.2.2.2.1
theorem dX5_readNot_8 : decode cX5_readNot 8 = .ok (.aload_n 0, 1) := bdX5_readNot_0.2.2.2.2.2.1
theorem dX5_readNot_9 : decode cX5_readNot 9 = .ok (.getfield 54, 3) := bdX5_readNot_0.2.2.2.2.2.2.1
theorem dX5_readNot_12 : decode cX5_readNot 12 = .ok (.sipush 136, 3) := bdX5_readNot_0.2.2.2.2.2.2.2.1
theorem dX5_readNot_15 : decode cX5_readNot 15 = .ok (.if_icmp .ne 13, 3) := bdX5_readNot_0.2.2.2.2.2.2.2.2.1
theorem dX5_readNot_18 : decode cX5_readNot 18 = .ok (.aload_n 0, 1) := bdX5_readNot_0.2.2.2.2.2.2.2.2.2
theorem bdX5_readNot_19 : (decode cX5_readNot 19 = .ok (.invokevirtual 96, 3)) ∧ (decode cX5_readNot 22 = .ok (.iinc 2 1, 3)) ∧ (decode cX5_readNot 25 = .ok (.goto (-23), 3)) ∧ (decode cX5_readNot 28 = .ok (.aload_n 0, 1)) ∧ (decode cX5_readNot 29 = .ok (.getfield 54, 3)) ∧ (decode cX5_readNot 32 = .ok (.sipush 136, 3)) ∧ (decode cX5_readNot 35 = .ok (.if_icmp .ne 8, 3)) ∧ (decode cX5_readNot 38 = .ok (.aload_n 0, 1)) ∧ (decode cX5_readNot 39 = .ok (.iconst 2, 1)) ∧ (decode cX5_readNot 40 = .ok (.invokevirtual 87, 3)) := by decide +kernel
theorem dX5_readNot_19 : decode cX5_readNot 19 = .ok (.invokevirtual 96, 3) := bdX5_readNot_19.1
theorem dX5_readNot_22 : decode cX5_readNot 22 = .ok (.iinc 2 1, 3) := bdX5_readNot_19.2.1
theorem dX5_readNot_25 : decode cX5_readNot 25 = .ok (.goto (-23), 3) := bdX5_readNot_19.2.2.1
theorem dX5_readNot_28 : decode cX5_readNot 28 = .ok (.aload_n 0, 1) := bdX5_readNot_19.2.2.2.1
theorem dX5_readNot_29 : decode cX5_readNot 29 = .ok (.getfield 54, 3) := bdX5_readNot_19.2.2.2.2.1
theorem dX5_readNot_32 : decode cX5_readNot 32 = .ok (.sipush 136, 3) := bdX5_readNot_19.2.2.2.2.2.1
theorem dX5_readNot_35 : decode cX5_readNot 35 = .ok (.if_icmp .ne 8, 3) := bdX5_readNot_19.2.2.2.2.2.2.1
theorem dX5_readNot_38 : decode cX5_readNot 38 = .ok (.aload_n 0, 1) := bdX5_readNot_19.2.2.2.2.2.2.2.1
theorem dX5_readNot_39 : decode cX5_readNot 39 = .ok (.iconst 2, 1) := bdX5_readNot_19.2.2.2.2.2.2.2.2.1
theorem dX5_readNot_40 : decode cX5_readNot 40 = .ok (.invokevirtual 87, 3) := bdX5_readNot_19.2.2.2.2.2.2.2.2.2
theorem bdX5_readNot_43 : (decode cX5_readNot 43 = .ok (.aload_n 0, 1)) ∧ (decode cX5_readNot 44 = .ok (.iload_n 1, 1)) ∧ (decode cX5_readNot 45 = .ok (.invokevirtual 171, 3)) ∧ (decode cX5_readNot 48 = .ok (.iconst 0, 1)) ∧ (decode cX5_readNot 49 = .ok (.istore_n 3, 1)) ∧ (decode cX5_readNot 50 = .ok (.iload_n 3, 1)) ∧ (decode cX5_readNot 51 = .ok (.iload_n 2, 1)) ∧ (decode cX5_readNot 52 = .ok (.if_icmp .ge 18, 3)) ∧ (decode cX5_readNot 55 = .ok (.aload_n 0, 1)) ∧ (decode cX5_readNot 56 = .ok (.getfield 34, 3)) := by decide +kernel
theorem dX5_readNot_43 : decode cX5_readNot 43 = .ok (.aload_n 0, 1) := bdX5_readNot_43.1
theorem dX5_readNot_44 : decode cX5_readNot 44 = .ok (.iload_n 1, 1) := bdX5_readNot_43.2.1
theorem dX5_readNot_45 : decode cX5_readNot 45 = .ok (.invokevirtual 171, 3) := bdX5_readNot_43.2.2.1
theorem dX5_readNot_48 : decode cX5_readNot 48 = .ok (.iconst 0, 1) := bdX5_readNot_43.2.2.2.1
theorem dX5_readNot_49 : decode cX5_readNot 49 = .ok (.istore_n 3, 1) := bdX5_readNot_43.2.2.2.2.1
theorem dX5_readNot_50 : decode cX5_readNot 50 = .ok (.iload_n 3, 1) := bdX5_readNot_43.2.2.2.2.2.1
theorem dX5_readNot_51 : decode cX5_readNot 51 = .ok (.iload_n 2, 1) := bdX5_readNot_43.2.2.2.2.2.2.1
theorem dX5_readNot_52 : decode cX5_readNot 52 = .ok (.if_icmp .ge 18, 3) := bdX5_readNot_43.2.2.2.2.2.2.2.1
theorem dX5_readNot_55 : decode cX5_readNot 55 = .ok (.aload_n 0, 1) := bdX5_readNot_43.2.2.2.2.2.2.2.2.1
theorem dX5_readNot_56 : decode cX5_readNot 56 = .ok (.getfield 34, 3) := bdX5_readNot_43.2.2.2.2.2.2.2.2.2
theorem bdX5_readNot_59 : (decode cX5_readNot 59 = .ok (.bipush (-3), 2)) ∧ (decode cX5_readNot 61 = .ok (.invokevirtual 165, 3)) ∧ (decode cX5_readNot 64 = .ok (.iinc 3 1, 3)) ∧ (decode cX5_readNot 67 = .ok (.goto (-17), 3)) ∧ (decode cX5_readNot 70 = .ok (.return_, 1)) := by decide +kernel
theorem dX5_readNot_59 : decode cX5_readNot 59 = .ok (.bipush (-3), 2) := bdX5_readNot_59.1
theorem dX5_readNot_61 : decode cX5_readNot 61 = .ok (.invokevirtual 165, 3) := bdX5_readNot_59.2.1
theorem dX5_readNot_64 : decode cX5_readNot 64 = .ok (.iinc 3 1, 3) := bdX5_readNot_59.2.2.1
theorem dX5_readNot_67 : decode cX5_readNot 67 = .ok (.goto (-17), 3) := bdX5_readNot_59.2.2.2.1
theorem dX5_readNot_70 : decode cX5_readNot 70 = .ok (.return_, 1) := bdX5_readNot_59.2.2.2.2
theorem bdX5_readTest_0 : (decode cX5_readTest 0 = .ok (.aload_n 0, 1)) ∧ (decode cX5_readTest 1 = .ok (.iload_n 1, 1)) ∧ (decode cX5_readTest 2 = .ok (.invokevirtual 174, 3)) ∧ (decode cX5_readTest 5 = .ok (.aload_n 0, 1)) ∧ (decode cX5_readTest 6 = .ok (.getfield 40, 3)) ∧ (decode cX5_readTest 9 = .ok (.ifCond .ne 55, 3)) ∧ (decode cX5_readTest 12 = .ok (.aload_n 0, 1)) ∧ (decode cX5_readTest 13 = .ok (.getfield 54, 3)) ∧ (decode cX5_readTest 16 = .ok (.bipush 60, 2)) ∧ (decode cX5_readTest 18 = .ok (.if_icmp .eq 12, 3)) := by decide +kernel
theorem dX5_readTest_0 : decode cX5_readTest 0 = .ok (.aload_n 0, 1) := bdX5_readTest_0.1
theorem dX5_readTest_1 : decode cX5_readTest 1 = .ok (.iload_n 1, 1) := bdX5_readTest_0.2.1
theorem dX5_readTest_2 : decode cX5_readTest 2 = .ok (.invokevirtual 174, 3) := bdX5_readTest_0.2.2.1
theorem dX5_readTest_5 : decode cX5_readTest 5 = .ok (.aload_n 0, 1) := bdX5_readTest_0.2.2.2.1
theorem dX5_readTest_6 : decode cX5_readTest 6 = .ok (.getfield 40, 3) := bdX5_readTest_0.2.2.2.2.1
theorem dX5_readTest_9 : decode cX5_readTest 9 = .ok (.ifCond .ne 55, 3) := bdX5_readTest_0.2.2.2.2.2.1
theorem dX5_readTest_12 : decode cX5_readTest 12 = .ok (.aload_n 0, 1) := bdX5_readTest_0.2.2.2.2.2.2.1
theorem dX5_readTest_13 : decode cX5_readTest 13 = .ok (.getfield 54, 3) := bdX5_readTest_0.2.2.2.2.2.2.2.1
theorem dX5_readTest_16 : decode cX5_readTest 16 = .ok (.bipush 60, 2) := bdX5_readTest_0.2.2.2.2.2.2.2.2.1
theorem dX5_readTest_18 : decode cX5_readTest 18 = .ok (.if_icmp .eq 12, 3) := bdX5_readTest_0.2.2.2.2.2.2.2.2.2
theorem bdX5_readTest_21 : (decode cX5_readTest 21 = .ok (.aload_n 0, 1)) ∧ (decode cX5_readTest 22 = .ok (.getfield 54, 3)) ∧ (decode cX5_readTest 25 = .ok (.bipush 61, 2)) ∧ (decode cX5_readTest 27 = .ok (.if_icmp .ne 37, 3)) ∧ (decode cX5_readTest 30 = .ok (.aload_n 0, 1)) ∧ (decode cX5_readTest 31 = .ok (.getfield 54, 3)) ∧ (decode cX5_readTest 34 = .ok (.bipush 60, 2)) ∧ (decode cX5_readTest 36 = .ok (.if_icmp .ne 8, 3)) ∧ (decode cX5_readTest 39 = .ok (.bipush (-4), 2)) ∧ (decode cX5_readTest 41 = .ok (.goto 5, 3)) := by decide +kernel
theorem dX5_readTest_21 : decode cX5_readTest 21 = .ok (.aload_n 0, 1) := bdX5_readTest_21.1
theorem dX5_readTest_22 : decode cX5_readTest 22 = .ok (.getfield 54, 3) := bdX5_readTest_21.2.1
theorem dX5_readTest_25 : decode cX5_readTest 25 = .ok (.bipush 61, 2) := bdX5_readTest_21.2.2.1
theorem dX5_readTest_27 : decode cX5_readTest 27 = .ok (.if_icmp .ne 37, 3) := bdX5_readTest_21.2.2.2.1
theorem dX5_readTest_30 : decode cX5_readTest 30 = .ok (.aload_n 0, 1) := bdX5_readTest_21.2.2.2.2.1
theorem dX5_readTest_31 : decode cX5_readTest 31 = .ok (.getfield 54, 3) := bdX5_readTest_21.2.2.2.2.2.1
theorem dX5_readTest_34 : decode cX5_readTest 34 = .ok (.bipush 60, 2) := bdX5_readTest_21.2.2.2.2.2.2.1
theorem dX5_readTest_36 : decode cX5_readTest 36 = .ok (.if_icmp .ne 8, 3) := bdX5_readTest_21.2.2.2.2.2.2.2.1
theorem dX5_readTest_39 : decode cX5_readTest 39 = .ok (.bipush (-4), 2) := bdX5_readTest_21.2.2.2.2.2.2.2.2.1
theorem dX5_readTest_41 : decode cX5_readTest 41 = .ok (.goto 5, 3) := bdX5_readTest_21.2.2.2.2.2.2.2.2.2
theorem bdX5_readTest_44 : (decode cX5_readTest 44 = .ok (.bipush (-5), 2)) ∧ (decode cX5_readTest 46 = .ok (.istore_n 2, 1)) ∧ (decode cX5_readTest 47 = .ok (.aload_n 0, 1)) ∧ (decode cX5_readTest 48 = .ok (.invokevirtual 96, 3)) ∧ (decode cX5_readTest 51 = .ok (.aload_n 0, 1)) ∧ (decode cX5_readTest 52 = .ok (.iload_n 1, 1)) ∧ (decode cX5_readTest 53 = .ok (.invokevirtual 174, 3)) ∧ (decode cX5_readTest 56 = .ok (.aload_n 0, 1)) ∧ (decode cX5_readTest 57 = .ok (.getfield 34, 3)) ∧ (decode cX5_readTest 60 = .ok (.iload_n 2, 1)) := by decide +kernel
theorem dX5_readTest_44 : decode cX5_readTest 44 = .ok (.bipush (-5), 2) := bdX5_readTest_44.1
theorem dX5_readTest_46 : decode cX5_readTest 46 = .ok (.istore_n 2, 1) := bdX5_readTest_44.2.1
theorem dX5_readTest_47 : decode cX5_readTest 47 = .ok (.aload_n 0, 1) := bdX5_readTest_44.2.2.1
theorem dX5_readTest_48 : decode cX5_readTest 48 = .ok (.invokevirtual 96, 3) := bdX5_readTest_44.2.2.2.1
theorem dX5_readTest_51 : decode cX5_readTest 51 = .ok (.aload_n 0, 1) := bdX5_readTest_44.2.2.2.2.1
theorem dX5_readTest_52 : decode cX5_readTest 52 = .ok (.iload_n 1, 1) := bdX5_readTest_44.2.2.2.2.2.1
theorem dX5_readTest_53 : decode cX5_readTest 53 = .ok (.invokevirtual 174, 3) := bdX5_readTest_44.2.2.2.2.2.2.1
theorem dX5_readTest_56 : decode cX5_readTest 56 = .ok (.aload_n 0, 1) := bdX5_readTest_44.2.2.2.2.2.2.2.1
theorem dX5_readTest_57 : decode cX5_readTest 57 = .ok (.getfield 34, 3) := bdX5_readTest_44.2.2.2.2.2.2.2.2.1
theorem dX5_readTest_60 : decode cX5_readTest 60 = .ok (.iload_n 2, 1) := bdX5_readTest_44.2.2.2.2.2.2.2.2.2
theorem bdX5_readTest_61 : (decode cX5_readTest 61 = .ok (.invokevirtual 165, 3)) ∧ (decode cX5_readTest 64 = .ok (.return_, 1)) := by decide +kernel
theorem dX5_readTest_61 : decode cX5_readTest 61 = .ok (.invokevirtual 165, 3) := bdX5_readTest_61.1
theorem dX5_readTest_64 : decode cX5_readTest 64 = .ok (.return_, 1) := bdX5_readTest_61.2
theorem bdX5_readSum_0 : (decode cX5_readSum 0 = .ok (.aload_n 0, 1)) ∧ (decode cX5_readSum 1 = .ok (.iload_n 1, 1)) ∧ (decode cX5_readSum 2 = .ok (.invokevirtual 177, 3)) ∧ (decode cX5_readSum 5 = .ok (.iconst 0, 1)) ∧ (decode cX5_readSum 6 = .ok (.istore_n 2, 1)) ∧ (decode cX5_readSum 7 = .ok (.iload_n 2, 1)) ∧ (decode cX5_readSum 8 = .ok (.sipush 700, 3)) ∧ (decode cX5_readSum 11 = .ok (.if_icmp .ge 68, 3)) ∧ (decode cX5_readSum 14 = .ok (.aload_n 0, 1)) ∧ (decode cX5_readSum 15 = .ok (.getfield 40, 3)) := by decide +kernel
theorem dX5_readSum_0 : decode cX5_readSum 0 = .ok (.aload_n 0, 1) := bdX5_readSum_0.1
theorem dX5_readSum_1 : decode cX5_readSum 1 = .ok (.iload_n 1, 1) := bdX5_readSum_0.2.1
theorem dX5_readSum_2 : decode cX5_readSum 2 = .ok (.invokevirtual 177, 3) := bdX5_readSum_0.2.2.1
theorem dX5_readSum_5 : decode cX5_readSum 5 = .ok (.iconst 0, 1) := bdX5_readSum_0.2.2.2.1
theorem dX5_readSum_6 : decode cX5_readSum 6 = .ok (.istore_n 2, 1) := bdX5_readSum_0.2.2.2.2.1
theorem dX5_readSum_7 : decode cX5_readSum 7 = .ok (.iload_n 2, 1) := bdX5_readSum_0.2.2.2.2.2.1
theorem dX5_readSum_8 : decode cX5_readSum 8 = .ok (.sipush 700, 3) := bdX5_readSum_0.2.2.2.2.2.2.1
theorem dX5_readSum_11 : decode cX5_readSum 11 = .ok (.if_icmp .ge 68, 3) := bdX5_readSum_0.2.2.2.2.2.2.2.1
theorem dX5_readSum_14 : decode cX5_readSum 14 = .ok (.aload_n 0, 1) := bdX5_readSum_0.2.2.2.2.2.2.2.2.1
theorem dX5_readSum_15 : decode cX5_readSum 15 = .ok (.getfield 40, 3) := bdX5_readSum_0.2.2.2.2.2.2.2.2.2
theorem bdX5_readSum_18 : (decode cX5_readSum 18 = .ok (.ifCond .ne 61, 3)) ∧ (decode cX5_readSum 21 = .ok (.aload_n 0, 1)) ∧ (decode cX5_readSum 22 = .ok (.getfield 54, 3)) ∧ (decode cX5_readSum 25 = .ok (.bipush 43, 2)) ∧ (decode cX5_readSum 27 = .ok (.if_icmp .eq 12, 3)) ∧ (decode cX5_readSum 30 = .ok (.aload_n 0, 1)) ∧ (decode cX5_readSum 31 = .ok (.getfield 54, 3)) ∧ (decode cX5_readSum 34 = .ok (.bipush 45, 2)) ∧ (decode cX5_readSum 36 = .ok (.if_icmp .ne 43, 3)) ∧ (decode cX5_readSum 39 = .ok (.aload_n 0, 1)) := by decide +kernel
theorem dX5_readSum_18 : decode cX5_readSum 18 = .ok (.ifCond .ne 61, 3) := bdX5_readSum_18.1
theorem dX5_readSum_21 : decode cX5_readSum 21 = .ok (.aload_n 0, 1) := bdX5_readSum_18.2.1
theorem dX5_readSum_22 : decode cX5_readSum 22 = .ok (.getfield 54, 3) := bdX5_readSum_18.2.2.1
theorem dX5_readSum_25 : decode cX5_readSum 25 = .ok (.bipush 43, 2) := bdX5_readSum_18.2.2.2.1
theorem dX5_readSum_27 : decode cX5_readSum 27 = .ok (.if_icmp .eq 12, 3) := bdX5_readSum_18.2.2.2.2.1
theorem dX5_readSum_30 : decode cX5_readSum 30 = .ok (.aload_n 0, 1) := bdX5_readSum_18.2.2.2.2.2.1
theorem dX5_readSum_31 : decode cX5_readSum 31 = .ok (.getfield 54, 3) := bdX5_readSum_18.2.2.2.2.2.2.1
theorem dX5_readSum_34 : decode cX5_readSum 34 = .ok (.bipush 45, 2) := bdX5_readSum_18.2.2.2.2.2.2.2.1
theorem dX5_readSum_36 : decode cX5_readSum 36 = .ok (.if_icmp .ne 43, 3) := bdX5_readSum_18.2.2.2.2.2.2.2.2.1
theorem dX5_readSum_39 : decode cX5_readSum 39 = .ok (.aload_n 0, 1) := bdX5_readSum_18.2.2.2.2.2.2.2.2.2
theorem bdX5_readSum_40 : (decode cX5_readSum 40 = .ok (.getfield 54, 3)) ∧ (decode cX5_readSum 43 = .ok (.bipush 43, 2)) ∧ (decode cX5_readSum 45 = .ok (.if_icmp .ne 8, 3)) ∧ (decode cX5_readSum 48 = .ok (.bipush (-6), 2)) ∧ (decode cX5_readSum 50 = .ok (.goto 5, 3)) ∧ (decode cX5_readSum 53 = .ok (.bipush (-7), 2)) ∧ (decode cX5_readSum 55 = .ok (.istore_n 3, 1)) ∧ (decode cX5_readSum 56 = .ok (.aload_n 0, 1)) ∧ (decode cX5_readSum 57 = .ok (.invokevirtual 96, 3)) ∧ (decode cX5_readSum 60 = .ok (.aload_n 0, 1)) := by decide +kernel
theorem dX5_readSum_40 : decode cX5_readSum 40 = .ok (.getfield 54, 3) := bdX5_readSum_40.1
theorem dX5_readSum_43 : decode cX5_readSum 43 = .ok (.bipush 43, 2) := bdX5_readSum_40.2.1
theorem dX5_readSum_45 : decode cX5_readSum 45 = .ok (.if_icmp .ne 8, 3) := bdX5_readSum_40.2.2.1
theorem dX5_readSum_48 : decode cX5_readSum 48 = .ok (.bipush (-6), 2) := bdX5_readSum_40.2.2.2.1
theorem dX5_readSum_50 : decode cX5_readSum 50 = .ok (.goto 5, 3) := bdX5_readSum_40.2.2.2.2.1
theorem dX5_readSum_53 : decode cX5_readSum 53 = .ok (.bipush (-7), 2) := bdX5_readSum_40.2.2.2.2.2.1
theorem dX5_readSum_55 : decode cX5_readSum 55 = .ok (.istore_n 3, 1) := bdX5_readSum_40.2.2.2.2.2.2.1
theorem dX5_readSum_56 : decode cX5_readSum 56 = .ok (.aload_n 0, 1) := bdX5_readSum_40.2.2.2.2.2.2.2.1
theorem dX5_readSum_57 : decode cX5_readSum 57 = .ok (.invokevirtual 96, 3) := bdX5_readSum_40.2.2.2.2.2.2.2.2.1
theorem dX5_readSum_60 : decode cX5_readSum 60 = .ok (.aload_n 0, 1) := bdX5_readSum_40.2.2.2.2.2.2.2.2.2
theorem bdX5_readSum_61 : (decode cX5_readSum 61 = .ok (.iload_n 1, 1)) ∧ (decode cX5_readSum 62 = .ok (.invokevirtual 177, 3)) ∧ (decode cX5_readSum 65 = .ok (.aload_n 0, 1)) ∧ (decode cX5_readSum 66 = .ok (.getfield 34, 3)) ∧ (decode cX5_readSum 69 = .ok (.iload_n 3, 1)) ∧ (decode cX5_readSum 70 = .ok (.invokevirtual 165, 3)) ∧ (decode cX5_readSum 73 = .ok (.iinc 2 1, 3)) ∧ (decode cX5_readSum 76 = .ok (.goto (-69), 3)) ∧ (decode cX5_readSum 79 = .ok (.return_, 1)) := by decide +kernel
theorem dX5_readSum_61 : decode cX5_readSum 61 = .ok (.iload_n 1, 1) := bdX5_readSum_61.1
theorem dX5_readSum_62 : decode cX5_readSum 62 = .ok (.invokevirtual 177, 3) := bdX5_readSum_61.2.1
theorem dX5_readSum_65 : decode cX5_readSum 65 = .ok (.aload_n 0, 1) := bdX5_readSum_61.2.2.1
theorem dX5_readSum_66 : decode cX5_readSum 66 = .ok (.getfield 34, 3) := bdX5_readSum_61.2.2.2.1
theorem dX5_readSum_69 : decode cX5_readSum 69 = .ok (.iload_n 3, 1) := bdX5_readSum_61.2.2.2.2.1
theorem dX5_readSum_70 : decode cX5_readSum 70 = .ok (.invokevirtual 165, 3) := bdX5_readSum_61.2.2.2.2.2.1
theorem dX5_readSum_73 : decode cX5_readSum 73 = .ok (.iinc 2 1, 3) := bdX5_readSum_61.2.2.2.2.2.2.1
theorem dX5_readSum_76 : decode cX5_readSum 76 = .ok (.goto (-69), 3) := bdX5_readSum_61.2.2.2.2.2.2.2.1
theorem dX5_readSum_79 : decode cX5_readSum 79 = .ok (.return_, 1) := bdX5_readSum_61.2.2.2.2.2.2.2.2
theorem bdX5_readProduct_0 : (decode cX5_readProduct 0 = .ok (.aload_n 0, 1)) ∧ (decode cX5_readProduct 1 = .ok (.iload_n 1, 1)) ∧ (decode cX5_readProduct 2 = .ok (.invokevirtual 180, 3)) ∧ (decode cX5_readProduct 5 = .ok (.iconst 0, 1)) ∧ (decode cX5_readProduct 6 = .ok (.istore_n 2, 1)) ∧ (decode cX5_readProduct 7 = .ok (.iload_n 2, 1)) ∧ (decode cX5_readProduct 8 = .ok (.sipush 700, 3)) ∧ (decode cX5_readProduct 11 = .ok (.if_icmp .ge 68, 3)) ∧ (decode cX5_readProduct 14 = .ok (.aload_n 0, 1)) ∧ (decode cX5_readProduct 15 = .ok (.getfield 40, 3)) := by decide +kernel
theorem dX5_readProduct_0 : decode cX5_readProduct 0 = .ok (.aload_n 0, 1) := bdX5_readProduct_0.1
theorem dX5_readProduct_1 : decode cX5_readProduct 1 = .ok (.iload_n 1, 1) := bdX5_readProduct_0.2.1
theorem dX5_readProduct_2 : decode cX5_readProduct 2 = .ok (.invokevirtual 180, 3) := bdX5_readProduct_0.2.2.1
theorem dX5_readProduct_5 : decode cX5_readProduct 5 = .ok (.iconst 0, 1) := bdX5_readProduct_0.2.2.2.1
theorem dX5_readProduct_6 : decode cX5_readProduct 6 = .ok (.istore_n 2, 1) := bdX5_readProduct_0.2.2.2.2.1
theorem dX5_readProduct_7 : decode cX5_readProduct 7 = .ok (.iload_n 2, 1) := bdX5_readProduct_0.2.2.2.2.2.1
theorem dX5_readProduct_8 : decode cX5_readProduct 8 = .ok (.sipush 700, 3) := bdX5_readProduct_0.2.2.2.2.2.2.1
theorem dX5_readProduct_11 : decode cX5_readProduct 11 = .ok (.if_icmp .ge 68, 3) := bdX5_readProduct_0.2.2.2.2.2.2.2.1
theorem dX5_readProduct_14 : decode cX5_readProduct 14 = .ok (.aload_n 0, 1) := bdX5_readProduct_0.2.2.2.2.2.2.2.2.1
theorem dX5_readProduct_15 : decode cX5_readProduct 15 = .ok (.getfield 40, 3) := bdX5_readProduct_0.2.2.2.2.2.2.2.2.2
theorem bdX5_readProduct_18 : (decode cX5_readProduct 18 = .ok (.ifCond .ne 61, 3)) ∧ (decode cX5_readProduct 21 = .ok (.aload_n 0, 1)) ∧ (decode cX5_readProduct 22 = .ok (.getfield 54, 3)) ∧ (decode cX5_readProduct 25 = .ok (.bipush 42, 2)) ∧ (decode cX5_readProduct 27 = .ok (.if_icmp .eq 12, 3)) ∧ (decode cX5_readProduct 30 = .ok (.aload_n 0, 1)) ∧ (decode cX5_readProduct 31 = .ok (.getfield 54, 3)) ∧ (decode cX5_readProduct 34 = .ok (.bipush 47, 2)) ∧ (decode cX5_readProduct 36 = .ok (.if_icmp .ne 43, 3)) ∧ (decode cX5_readProduct 39 = .ok (.aload_n 0, 1)) := by decide +kernel
theorem dX5_readProduct_18 : decode cX5_readProduct 18 = .ok (.ifCond .ne 61, 3) := bdX5_readProduct_18.1
theorem dX5_readProduct_21 : decode cX5_readProduct 21 = .ok (.aload_n 0, 1) := bdX5_readProduct_18.2.1
theorem dX5_readProduct_22 : decode cX5_readProduct 22 = .ok (.getfield 54, 3) := bdX5_readProduct_18.2.2.1
theorem dX5_readProduct_25 : decode cX5_readProduct 25 = .ok (.bipush 42, 2) := bdX5_readProduct_18.2.2.2.1
theorem dX5_readProduct_27 : decode cX5_readProduct 27 = .ok (.if_icmp .eq 12, 3) := bdX5_readProduct_18.2.2.2.2.1
theorem dX5_readProduct_30 : decode cX5_readProduct 30 = .ok (.aload_n 0, 1) := bdX5_readProduct_18.2.2.2.2.2.1
theorem dX5_readProduct_31 : decode cX5_readProduct 31 = .ok (.getfield 54, 3) := bdX5_readProduct_18.2.2.2.2.2.2.1
theorem dX5_readProduct_34 : decode cX5_readProduct 34 = .ok (.bipush 47, 2) := bdX5_readProduct_18.2.2.2.2.2.2.2.1
theorem dX5_readProduct_36 : decode cX5_readProduct 36 = .ok (.if_icmp .ne 43, 3) := bdX5_readProduct_18.2.2.2.2.2.2.2.2.1
theorem dX5_readProduct_39 : decode cX5_readProduct 39 = .ok (.aload_n 0, 1) := bdX5_readProduct_18.2.2.2.2.2.2.2.2.2
theorem bdX5_readProduct_40 : (decode cX5_readProduct 40 = .ok (.getfield 54, 3)) ∧ (decode cX5_readProduct 43 = .ok (.bipush 42, 2)) ∧ (decode cX5_readProduct 45 = .ok (.if_icmp .ne 8, 3)) ∧ (decode cX5_readProduct 48 = .ok (.bipush (-8), 2)) ∧ (decode cX5_readProduct 50 = .ok (.goto 5, 3)) ∧ (decode cX5_readProduct 53 = .ok (.bipush (-9), 2)) ∧ (decode cX5_readProduct 55 = .ok (.istore_n 3, 1)) ∧ (decode cX5_readProduct 56 = .ok (.aload_n 0, 1)) ∧ (decode cX5_readProduct 57 = .ok (.invokevirtual 96, 3)) ∧ (decode cX5_readProduct 60 = .ok (.aload_n 0, 1)) := by decide +kernel
theorem dX5_readProduct_40 : decode cX5_readProduct 40 = .ok (.getfield 54, 3) := bdX5_readProduct_40.1
theorem dX5_readProduct_43 : decode cX5_readProduct 43 = .ok (.bipush 42, 2) := bdX5_readProduct_40.2.1
theorem dX5_readProduct_45 : decode cX5_readProduct 45 = .ok (.if_icmp .ne 8, 3) := bdX5_readProduct_40.2.2.1
theorem dX5_readProduct_48 : decode cX5_readProduct 48 = .ok (.bipush (-8), 2) := bdX5_readProduct_40.2.2.2.1
theorem dX5_readProduct_50 : decode cX5_readProduct 50 = .ok (.goto 5, 3) := bdX5_readProduct_40.2.2.2.2.1
theorem dX5_readProduct_53 : decode cX5_readProduct 53 = .ok (.bipush (-9), 2) := bdX5_readProduct_40.2.2.2.2.2.1
theorem dX5_readProduct_55 : decode cX5_readProduct 55 = .ok (.istore_n 3, 1) := bdX5_readProduct_40.2.2.2.2.2.2.1
theorem dX5_readProduct_56 : decode cX5_readProduct 56 = .ok (.aload_n 0, 1) := bdX5_readProduct_40.2.2.2.2.2.2.2.1
theorem dX5_readProduct_57 : decode cX5_readProduct 57 = .ok (.invokevirtual 96, 3) := bdX5_readProduct_40.2.2.2.2.2.2.2.2.1
theorem dX5_readProduct_60 : decode cX5_readProduct 60 = .ok (.aload_n 0, 1) := bdX5_readProduct_40.2.2.2.2.2.2.2.2.2
theorem bdX5_readProduct_61 : (decode cX5_readProduct 61 = .ok (.iload_n 1, 1)) ∧ (decode cX5_readProduct 62 = .ok (.invokevirtual 180, 3)) ∧ (decode cX5_readProduct 65 = .ok (.aload_n 0, 1)) ∧ (decode cX5_readProduct 66 = .ok (.getfield 34, 3)) ∧ (decode cX5_readProduct 69 = .ok (.iload_n 3, 1)) ∧ (decode cX5_readProduct 70 = .ok (.invokevirtual 165, 3)) ∧ (decode cX5_readProduct 73 = .ok (.iinc 2 1, 3)) ∧ (decode cX5_readProduct 76 = .ok (.goto (-69), 3)) ∧ (decode cX5_readProduct 79 = .ok (.return_, 1)) := by decide +kernel
theorem dX5_readProduct_61 : decode cX5_readProduct 61 = .ok (.iload_n 1, 1) := bdX5_readProduct_61.1
theorem dX5_readProduct_62 : decode cX5_readProduct 62 = .ok (.invokevirtual 180, 3) := bdX5_readProduct_61.2.1
theorem dX5_readProduct_65 : decode cX5_readProduct 65 = .ok (.aload_n 0, 1) := bdX5_readProduct_61.2.2.1
theorem dX5_readProduct_66 : decode cX5_readProduct 66 = .ok (.getfield 34, 3) := bdX5_readProduct_61.2.2.2.1
theorem dX5_readProduct_69 : decode cX5_readProduct 69 = .ok (.iload_n 3, 1) := bdX5_readProduct_61.2.2.2.2.1
theorem dX5_readProduct_70 : decode cX5_readProduct 70 = .ok (.invokevirtual 165, 3) := bdX5_readProduct_61.2.2.2.2.2.1
theorem dX5_readProduct_73 : decode cX5_readProduct 73 = .ok (.iinc 2 1, 3) := bdX5_readProduct_61.2.2.2.2.2.2.1
theorem dX5_readProduct_76 : decode cX5_readProduct 76 = .ok (.goto (-69), 3) := bdX5_readProduct_61.2.2.2.2.2.2.2.1
theorem dX5_readProduct_79 : decode cX5_readProduct 79 = .ok (.return_, 1) := bdX5_readProduct_61.2.2.2.2.2.2.2.2
theorem bdX5_readPart_0 : (decode cX5_readPart 0 = .ok (.aload_n 0, 1)) ∧ (decode cX5_readPart 1 = .ok (.getfield 40, 3)) ∧ (decode cX5_readPart 4 = .ok (.ifCond .eq 4, 3)) ∧ (decode cX5_readPart 7 = .ok (.return_, 1)) ∧ (decode cX5_readPart 8 = .ok (.aload_n 0, 1)) ∧ (decode cX5_readPart 9 = .ok (.getfield 54, 3)) ∧ (decode cX5_readPart 12 = .ok (.iconst 1, 1)) ∧ (decode cX5_readPart 13 = .ok (.if_icmp .ne 28, 3)) ∧ (decode cX5_readPart 16 = .ok (.aload_n 0, 1)) ∧ (decode cX5_readPart 17 = .ok (.getfield 34, 3)) := by decide +kernel
theorem dX5_readPart_0 : decode cX5_readPart 0 = .ok (.aload_n 0, 1) := bdX5_readPart_0.1
theorem dX5_readPart_1 : decode cX5_readPart 1 = .ok (.getfield 40, 3) := bdX5_readPart_0.2.1
theorem dX5_readPart_4 : decode cX5_readPart 4 = .ok (.ifCond .eq 4, 3) := bdX5_readPart_0.2.2.1
theorem dX5_readPart_7 : decode cX5_readPart 7 = .ok (.return_, 1) := bdX5_readPart_0.2.2.2.1
theorem dX5_readPart_8 : decode cX5_readPart 8 = .ok (.aload_n 0, 1) := bdX5_readPart_0.2.2.2.2.1
theorem dX5_readPart_9 : decode cX5_readPart 9 = .ok (.getfield 54, 3) := bdX5_readPart_0.2.2.2.2.2.1
theorem dX5_readPart_12 : decode cX5_readPart 12 = .ok (.iconst 1, 1) := bdX5_readPart_0.2.2.2.2.2.2.1
theorem dX5_readPart_13 : decode cX5_readPart 13 = .ok (.if_icmp .ne 28, 3) := bdX5_readPart_0.2.2.2.2.2.2.2.1
theorem dX5_readPart_16 : decode cX5_readPart 16 = .ok (.aload_n 0, 1) := bdX5_readPart_0.2.2.2.2.2.2.2.2.1
theorem dX5_readPart_17 : decode cX5_readPart 17 = .ok (.getfield 34, 3) := bdX5_readPart_0.2.2.2.2.2.2.2.2.2
theorem bdX5_readPart_20 : (decode cX5_readPart 20 = .ok (.aload_n 0, 1)) ∧ (decode cX5_readPart 21 = .ok (.getfield 20, 3)) ∧ (decode cX5_readPart 24 = .ok (.aload_n 0, 1)) ∧ (decode cX5_readPart 25 = .ok (.getfield 47, 3)) ∧ (decode cX5_readPart 28 = .ok (.invokevirtual 156, 3)) ∧ (decode cX5_readPart 31 = .ok (.invokevirtual 165, 3)) ∧ (decode cX5_readPart 34 = .ok (.aload_n 0, 1)) ∧ (decode cX5_readPart 35 = .ok (.invokevirtual 96, 3)) ∧ (decode cX5_readPart 38 = .ok (.goto 78, 3)) ∧ (decode cX5_readPart 41 = .ok (.aload_n 0, 1)) := by decide +kernel
theorem dX5_readPart_20 : decode cX5_readPart 20 = .ok (.aload_n 0, 1) := bdX5_readPart_20.1
theorem dX5_readPart_21 : decode cX5_readPart 21 = .ok (.getfield 20, 3) := bdX5_readPart_20.2.1
theorem dX5_readPart_24 : decode cX5_readPart 24 = .ok (.aload_n 0, 1) := bdX5_readPart_20.2.2.1
theorem dX5_readPart_25 : decode cX5_readPart 25 = .ok (.getfield 47, 3) := bdX5_readPart_20.2.2.2.1
theorem dX5_readPart_28 : decode cX5_readPart 28 = .ok (.invokevirtual 156, 3) := bdX5_readPart_20.2.2.2.2.1
theorem dX5_readPart_31 : decode cX5_readPart 31 = .ok (.invokevirtual 165, 3) := bdX5_readPart_20.2.2.2.2.2.1
theorem dX5_readPart_34 : decode cX5_readPart 34 = .ok (.aload_n 0, 1) := bdX5_readPart_20.2.2.2.2.2.2.1
theorem dX5_readPart_35 : decode cX5_readPart 35 = .ok (.invokevirtual 96, 3) := bdX5_readPart_20.2.2.2.2.2.2.2.1
theorem dX5_readPart_38 : decode cX5_readPart 38 = .ok (.goto 78, 3) := bdX5_readPart_20.2.2.2.2.2.2.2.2.1
theorem dX5_readPart_41 : decode cX5_readPart 41 = .ok (.aload_n 0, 1) := bdX5_readPart_20.2.2.2.2.2.2.2.2.2
theorem bdX5_readPart_42 : (decode cX5_readPart 42 = .ok (.getfield 54, 3)) ∧ (decode cX5_readPart 45 = .ok (.iconst 2, 1)) ∧ (decode cX5_readPart 46 = .ok (.if_icmp .ne 11, 3)) ∧ (decode cX5_readPart 49 = .ok (.aload_n 0, 1)) ∧ (decode cX5_readPart 50 = .ok (.iconst 2, 1)) ∧ (decode cX5_readPart 51 = .ok (.invokevirtual 87, 3)) ∧ (decode cX5_readPart 54 = .ok (.goto 62, 3)) ∧ (decode cX5_readPart 57 = .ok (.aload_n 0, 1)) ∧ (decode cX5_readPart 58 = .ok (.getfield 54, 3)) ∧ (decode cX5_readPart 61 = .ok (.sipush 128, 3)) := by decide +kernel
theorem dX5_readPart_42 : decode cX5_readPart 42 = .ok (.getfield 54, 3) := bdX5_readPart_42.1
theorem dX5_readPart_45 : decode cX5_readPart 45 = .ok (.iconst 2, 1) := bdX5_readPart_42.2.1
theorem dX5_readPart_46 : decode cX5_readPart 46 = .ok (.if_icmp .ne 11, 3) := bdX5_readPart_42.2.2.1
theorem dX5_readPart_49 : decode cX5_readPart 49 = .ok (.aload_n 0, 1) := bdX5_readPart_42.2.2.2.1
theorem dX5_readPart_50 : decode cX5_readPart 50 = .ok (.iconst 2, 1) := bdX5_readPart_42.2.2.2.2.1
theorem dX5_readPart_51 : decode cX5_readPart 51 = .ok (.invokevirtual 87, 3) := bdX5_readPart_42.2.2.2.2.2.1
theorem dX5_readPart_54 : decode cX5_readPart 54 = .ok (.goto 62, 3) := bdX5_readPart_42.2.2.2.2.2.2.1
theorem dX5_readPart_57 : decode cX5_readPart 57 = .ok (.aload_n 0, 1) := bdX5_readPart_42.2.2.2.2.2.2.2.1
theorem dX5_readPart_58 : decode cX5_readPart 58 = .ok (.getfield 54, 3) := bdX5_readPart_42.2.2.2.2.2.2.2.2.1
theorem dX5_readPart_61 : decode cX5_readPart 61 = .ok (.sipush 128, 3) := bdX5_readPart_42.2.2.2.2.2.2.2.2.2
theorem bdX5_readPart_64 : (decode cX5_readPart 64 = .ok (.if_icmp .lt 18, 3)) ∧ (decode cX5_readPart 67 = .ok (.aload_n 0, 1)) ∧ (decode cX5_readPart 68 = .ok (.aload_n 0, 1)) ∧ (decode cX5_readPart 69 = .ok (.getfield 54, 3)) ∧ (decode cX5_readPart 72 = .ok (.sipush 140, 3)) ∧ (decode cX5_readPart 75 = .ok (.isub, 1)) ∧ (decode cX5_readPart 76 = .ok (.invokevirtual 183, 3)) ∧ (decode cX5_readPart 79 = .ok (.goto 37, 3)) ∧ (decode cX5_readPart 82 = .ok (.aload_n 0, 1)) ∧ (decode cX5_readPart 83 = .ok (.getfield 54, 3)) := by decide +kernel
theorem dX5_readPart_64 : decode cX5_readPart 64 = .ok (.if_icmp .lt 18, 3) := bdX5_readPart_64.1
theorem dX5_readPart_67 : decode cX5_readPart 67 = .ok (.aload_n 0, 1) := bdX5_readPart_64.2.1
theorem dX5_readPart_68 : decode cX5_readPart 68 = .ok (.aload_n 0, 1) := bdX5_readPart_64.2.2.1
theorem dX5_readPart_69 : decode cX5_readPart 69 = .ok (.getfield 54, 3) := bdX5_readPart_64.2.2.2.1
theorem dX5_readPart_72 : decode cX5_readPart 72 = .ok (.sipush 140, 3) := bdX5_readPart_64.2.2.2.2.1
theorem dX5_readPart_75 : decode cX5_readPart 75 = .ok (.isub, 1) := bdX5_readPart_64.2.2.2.2.2.1
theorem dX5_readPart_76 : decode cX5_readPart 76 = .ok (.invokevirtual 183, 3) := bdX5_readPart_64.2.2.2.2.2.2.1
theorem dX5_readPart_79 : decode cX5_readPart 79 = .ok (.goto 37, 3) := bdX5_readPart_64.2.2.2.2.2.2.2.1
theorem dX5_readPart_82 : decode cX5_readPart 82 = .ok (.aload_n 0, 1) := bdX5_readPart_64.2.2.2.2.2.2.2.2.1
theorem dX5_readPart_83 : decode cX5_readPart 83 = .ok (.getfield 54, 3) := bdX5_readPart_64.2.2.2.2.2.2.2.2.2
theorem bdX5_readPart_86 : (decode cX5_readPart 86 = .ok (.bipush 40, 2)) ∧ (decode cX5_readPart 88 = .ok (.if_icmp .ne 23, 3)) ∧ (decode cX5_readPart 91 = .ok (.aload_n 0, 1)) ∧ (decode cX5_readPart 92 = .ok (.invokevirtual 96, 3)) ∧ (decode cX5_readPart 95 = .ok (.aload_n 0, 1)) ∧ (decode cX5_readPart 96 = .ok (.iload_n 1, 1)) ∧ (decode cX5_readPart 97 = .ok (.iconst 1, 1)) ∧ (decode cX5_readPart 98 = .ok (.iadd, 1)) ∧ (decode cX5_readPart 99 = .ok (.invokevirtual 153, 3)) ∧ (decode cX5_readPart 102 = .ok (.aload_n 0, 1)) := by decide +kernel
theorem dX5_readPart_86 : decode cX5_readPart 86 = .ok (.bipush 40, 2) := bdX5_readPart_86.1
theorem dX5_readPart_88 : decode cX5_readPart 88 = .ok (.if_icmp .ne 23, 3) := bdX5_readPart_86.2.1
theorem dX5_readPart_91 : decode cX5_readPart 91 = .ok (.aload_n 0, 1) := bdX5_readPart_86.2.2.1
theorem dX5_readPart_92 : decode cX5_readPart 92 = .ok (.invokevirtual 96, 3) := bdX5_readPart_86.2.2.2.1
theorem dX5_readPart_95 : decode cX5_readPart 95 = .ok (.aload_n 0, 1) := bdX5_readPart_86.2.2.2.2.1
theorem dX5_readPart_96 : decode cX5_readPart 96 = .ok (.iload_n 1, 1) := bdX5_readPart_86.2.2.2.2.2.1
theorem dX5_readPart_97 : decode cX5_readPart 97 = .ok (.iconst 1, 1) := bdX5_readPart_86.2.2.2.2.2.2.1
theorem dX5_readPart_98 : decode cX5_readPart 98 = .ok (.iadd, 1) := bdX5_readPart_86.2.2.2.2.2.2.2.1
theorem dX5_readPart_99 : decode cX5_readPart 99 = .ok (.invokevirtual 153, 3) := bdX5_readPart_86.2.2.2.2.2.2.2.2.1
theorem dX5_readPart_102 : decode cX5_readPart 102 = .ok (.aload_n 0, 1) := bdX5_readPart_86.2.2.2.2.2.2.2.2.2
theorem bdX5_readPart_103 : (decode cX5_readPart 103 = .ok (.bipush 41, 2)) ∧ (decode cX5_readPart 105 = .ok (.invokevirtual 90, 3)) ∧ (decode cX5_readPart 108 = .ok (.goto 8, 3)) ∧ (decode cX5_readPart 111 = .ok (.aload_n 0, 1)) ∧ (decode cX5_readPart 112 = .ok (.iconst 1, 1)) ∧ (decode cX5_readPart 113 = .ok (.invokevirtual 87, 3)) ∧ (decode cX5_readPart 116 = .ok (.return_, 1)) := by decide +kernel
theorem dX5_readPart_103 : decode cX5_readPart 103 = .ok (.bipush 41, 2) := bdX5_readPart_103.1
theorem dX5_readPart_105 : decode cX5_readPart 105 = .ok (.invokevirtual 90, 3) := bdX5_readPart_103.2.1
theorem dX5_readPart_108 : decode cX5_readPart 108 = .ok (.goto 8, 3) := bdX5_readPart_103.2.2.1
theorem dX5_readPart_111 : decode cX5_readPart 111 = .ok (.aload_n 0, 1) := bdX5_readPart_103.2.2.2.1
theorem dX5_readPart_112 : decode cX5_readPart 112 = .ok (.iconst 1, 1) := bdX5_readPart_103.2.2.2.2.1
theorem dX5_readPart_113 : decode cX5_readPart 113 = .ok (.invokevirtual 87, 3) := bdX5_readPart_103.2.2.2.2.2.1
theorem dX5_readPart_116 : decode cX5_readPart 116 = .ok (.return_, 1) := bdX5_readPart_103.2.2.2.2.2.2
theorem bdX5_readValue_0 : (decode cX5_readValue 0 = .ok (.iload_n 1, 1)) ∧ (decode cX5_readValue 1 = .ok (.ifCond .lt 11, 3)) ∧ (decode cX5_readValue 4 = .ok (.iload_n 1, 1)) ∧ (decode cX5_readValue 5 = .ok (.aload_n 0, 1)) ∧ (decode cX5_readValue 6 = .ok (.getfield 150, 3)) ∧ (decode cX5_readValue 9 = .ok (.if_icmp .lt 9, 3)) ∧ (decode cX5_readValue 12 = .ok (.aload_n 0, 1)) ∧ (decode cX5_readValue 13 = .ok (.iconst 3, 1)) ∧ (decode cX5_readValue 14 = .ok (.invokevirtual 87, 3)) ∧ (decode cX5_readValue 17 = .ok (.return_, 1)) := by decide +kernel
theorem dX5_readValue_0 : decode cX5_readValue 0 = .ok (.iload_n 1, 1) := bdX5_readValue_0.1
theorem dX5_readValue_1 : decode cX5_readValue 1 = .ok (.ifCond .lt 11, 3) := bdX5_readValue_0.2.1
theorem dX5_readValue_4 : decode cX5_readValue 4 = .ok (.iload_n 1, 1) := bdX5_readValue_0.2.2.1
theorem dX5_readValue_5 : decode cX5_readValue 5 = .ok (.aload_n 0, 1) := bdX5_readValue_0.2.2.2.1
theorem dX5_readValue_6 : decode cX5_readValue 6 = .ok (.getfield 150, 3) := bdX5_readValue_0.2.2.2.2.1
theorem dX5_readValue_9 : decode cX5_readValue 9 = .ok (.if_icmp .lt 9, 3) := bdX5_readValue_0.2.2.2.2.2.1
theorem dX5_readValue_12 : decode cX5_readValue 12 = .ok (.aload_n 0, 1) := bdX5_readValue_0.2.2.2.2.2.2.1
theorem dX5_readValue_13 : decode cX5_readValue 13 = .ok (.iconst 3, 1) := bdX5_readValue_0.2.2.2.2.2.2.2.1
theorem dX5_readValue_14 : decode cX5_readValue 14 = .ok (.invokevirtual 87, 3) := bdX5_readValue_0.2.2.2.2.2.2.2.2.1
theorem dX5_readValue_17 : decode cX5_readValue 17 = .ok (.return_, 1) := bdX5_readValue_0.2.2.2.2.2.2.2.2.2
theorem bdX5_readValue_18 : (decode cX5_readValue 18 = .ok (.aload_n 0, 1)) ∧ (decode cX5_readValue 19 = .ok (.getfield 34, 3)) ∧ (decode cX5_readValue 22 = .ok (.bipush (-10), 2)) ∧ (decode cX5_readValue 24 = .ok (.iload_n 1, 1)) ∧ (decode cX5_readValue 25 = .ok (.isub, 1)) ∧ (decode cX5_readValue 26 = .ok (.invokevirtual 165, 3)) ∧ (decode cX5_readValue 29 = .ok (.aload_n 0, 1)) ∧ (decode cX5_readValue 30 = .ok (.invokevirtual 96, 3)) ∧ (decode cX5_readValue 33 = .ok (.return_, 1)) := by decide +kernel
theorem dX5_readValue_18 : decode cX5_readValue 18 = .ok (.aload_n 0, 1) := bdX5_readValue_18.1
theorem dX5_readValue_19 : decode cX5_readValue 19 = .ok (.getfield 34, 3) := bdX5_readValue_18.2.1
theorem dX5_readValue_22 : decode cX5_readValue 22 = .ok (.bipush (-10), 2) := bdX5_readValue_18.2.2.1
theorem dX5_readValue_24 : decode cX5_readValue 24 = .ok (.iload_n 1, 1) := bdX5_readValue_18.2.2.2.1
theorem dX5_readValue_25 : decode cX5_readValue 25 = .ok (.isub, 1) := bdX5_readValue_18.2.2.2.2.1
theorem dX5_readValue_26 : decode cX5_readValue 26 = .ok (.invokevirtual 165, 3) := bdX5_readValue_18.2.2.2.2.2.1
theorem dX5_readValue_29 : decode cX5_readValue 29 = .ok (.aload_n 0, 1) := bdX5_readValue_18.2.2.2.2.2.2.1
theorem dX5_readValue_30 : decode cX5_readValue 30 = .ok (.invokevirtual 96, 3) := bdX5_readValue_18.2.2.2.2.2.2.2.1
theorem dX5_readValue_33 : decode cX5_readValue 33 = .ok (.return_, 1) := bdX5_readValue_18.2.2.2.2.2.2.2.2
theorem bdX6_init_0 : (decode cX6_init 0 = .ok (.aload_n 0, 1)) ∧ (decode cX6_init 1 = .ok (.invokespecial 3, 3)) ∧ (decode cX6_init 4 = .ok (.aload_n 0, 1)) ∧ (decode cX6_init 5 = .ok (.sipush 700, 3)) ∧ (decode cX6_init 8 = .ok (.newarray .int, 2)) ∧ (decode cX6_init 10 = .ok (.putfield 9, 3)) ∧ (decode cX6_init 13 = .ok (.aload_n 0, 1)) ∧ (decode cX6_init 14 = .ok (.bipush 40, 2)) ∧ (decode cX6_init 16 = .ok (.newarray .int, 2)) ∧ (decode cX6_init 18 = .ok (.putfield 15, 3)) := by decide +kernel
theorem dX6_init_0 : decode cX6_init 0 = .ok (.aload_n 0, 1) := bdX6_init_0.1
theorem dX6_init_1 : decode cX6_init 1 = .ok (.invokespecial 3, 3) := bdX6_init_0.2.1
theorem dX6_init_4 : decode cX6_init 4 = .ok (.aload_n 0, 1) := bdX6_init_0.2.2.1
theorem dX6_init_5 : decode cX6_init 5 = .ok (.sipush 700, 3) := bdX6_init_0.2.2.2.1
theorem dX6_init_8 : decode cX6_init 8 = .ok (.newarray .int, 2) := bdX6_init_0.2.2.2.2.1
theorem dX6_init_10 : decode cX6_init 10 = .ok (.putfield 9, 3) := bdX6_init_0.2.2.2.2.2.1
theorem dX6_init_13 : decode cX6_init 13 = .ok (.aload_n 0, 1) := bdX6_init_0.2.2.2.2.2.2.1
theorem dX6_init_14 : decode cX6_init 14 = .ok (.bipush 40, 2) := bdX6_init_0.2.2.2.2.2.2.2.1
theorem dX6_init_16 : decode cX6_init 16 = .ok (.newarray .int, 2) := bdX6_init_0.2.2.2.2.2.2.2.2.1
theorem dX6_init_18 : decode cX6_init 18 = .ok (.putfield 15, 3) := bdX6_init_0.2.2.2.2.2.2.2.2.2
theorem bdX6_init_21 : (decode cX6_init 21 = .ok (.return_, 1)) := by decide +kernel
theorem dX6_init_21 : decode cX6_init 21 = .ok (.return_, 1) := bdX6_init_21
theorem bdX6_clear_0 : (decode cX6_clear 0 = .ok (.aload_n 0, 1)) ∧ (decode cX6_clear 1 = .ok (.iconst 0, 1)) ∧ (decode cX6_clear 2 = .ok (.putfield 18, 3)) ∧ (decode cX6_clear 5 = .ok (.return_, 1)) := by decide +kernel
theorem dX6_clear_0 : decode cX6_clear 0 = .ok (.aload_n 0, 1) := bdX6_clear_0.1
theorem dX6_clear_1 : decode cX6_clear 1 = .ok (.iconst 0, 1) := bdX6_clear_0.2.1
theorem dX6_clear_2 : decode cX6_clear 2 = .ok (.putfield 18, 3) := bdX6_clear_0.2.2.1
theorem dX6_clear_5 : decode cX6_clear 5 = .ok (.return_, 1) := bdX6_clear_0.2.2.2
theorem bdX6_isTold_0 : (decode cX6_isTold 0 = .ok (.aload_n 0, 1)) ∧ (decode cX6_isTold 1 = .ok (.getfield 18, 3)) ∧ (decode cX6_isTold 4 = .ok (.ifCond .le 7, 3)) ∧ (decode cX6_isTold 7 = .ok (.iconst 1, 1)) ∧ (decode cX6_isTold 8 = .ok (.goto 4, 3)) ∧ (decode cX6_isTold 11 = .ok (.iconst 0, 1)) ∧ (decode cX6_isTold 12 = .ok (.ireturn, 1)) := by decide +kernel
theorem dX6_isTold_0 : decode cX6_isTold 0 = .ok (.aload_n 0, 1) := bdX6_isTold_0.1
theorem dX6_isTold_1 : decode cX6_isTold 1 = .ok (.getfield 18, 3) := bdX6_isTold_0.2.1
theorem dX6_isTold_4 : decode cX6_isTold 4 = .ok (.ifCond .le 7, 3) := bdX6_isTold_0.2.2.1
theorem dX6_isTold_7 : decode cX6_isTold 7 = .ok (.iconst 1, 1) := bdX6_isTold_0.2.2.2.1
theorem dX6_isTold_8 : decode cX6_isTold 8 = .ok (.goto 4, 3) := bdX6_isTold_0.2.2.2.2.1
theorem dX6_isTold_11 : decode cX6_isTold 11 = .ok (.iconst 0, 1) := bdX6_isTold_0.2.2.2.2.2.1
theorem dX6_isTold_12 : decode cX6_isTold 12 = .ok (.ireturn, 1) := bdX6_isTold_0.2.2.2.2.2.2
theorem bdX6_add_0 : (decode cX6_add 0 = .ok (.aload_n 0, 1)) ∧ (decode cX6_add 1 = .ok (.getfield 18, 3)) ∧ (decode cX6_add 4 = .ok (.aload_n 0, 1)) ∧ (decode cX6_add 5 = .ok (.getfield 9, 3)) ∧ (decode cX6_add 8 = .ok (.arraylength, 1)) ∧ (decode cX6_add 9 = .ok (.if_icmp .ge 23, 3)) ∧ (decode cX6_add 12 = .ok (.aload_n 0, 1)) ∧ (decode cX6_add 13 = .ok (.getfield 9, 3)) ∧ (decode cX6_add 16 = .ok (.aload_n 0, 1)) ∧ (decode cX6_add 17 = .ok (.getfield 18, 3)) := by decide +kernel
theorem dX6_add_0 : decode cX6_add 0 = .ok (.aload_n 0, 1) := bdX6_add_0.1
theorem dX6_add_1 : decode cX6_add 1 = .ok (.getfield 18, 3) := bdX6_add_0.2.1
theorem dX6_add_4 : decode cX6_add 4 = .ok (.aload_n 0, 1) := bdX6_add_0.2.2.1
theorem dX6_add_5 : decode cX6_add 5 = .ok (.getfield 9, 3) := bdX6_add_0.2.2.2.1
theorem dX6_add_8 : decode cX6_add 8 = .ok (.arraylength, 1) := bdX6_add_0.2.2.2.2.1
theorem dX6_add_9 : decode cX6_add 9 = .ok (.if_icmp .ge 23, 3) := bdX6_add_0.2.2.2.2.2.1
theorem dX6_add_12 : decode cX6_add 12 = .ok (.aload_n 0, 1) := bdX6_add_0.2.2.2.2.2.2.1
theorem dX6_add_13 : decode cX6_add 13 = .ok (.getfield 9, 3) := bdX6_add_0.2.2.2.2.2.2.2.1
theorem dX6_add_16 : decode cX6_add 16 = .ok (.aload_n 0, 1) := bdX6_add_0.2.2.2.2.2.2.2.2.1
theorem dX6_add_17 : decode cX6_add 17 = .ok (.getfield 18, 3) := bdX6_add_0.2.2.2.2.2.2.2.2.2
theorem bdX6_add_20 : (decode cX6_add 20 = .ok (.iload_n 1, 1)) ∧ (decode cX6_add 21 = .ok (.iastore, 1)) ∧ (decode cX6_add 22 = .ok (.aload_n 0, 1)) ∧ (decode cX6_add 23 = .ok (.dup, 1)) ∧ (decode cX6_add 24 = .ok (.getfield 18, 3)) ∧ (decode cX6_add 27 = .ok (.iconst 1, 1)) ∧ (decode cX6_add 28 = .ok (.iadd, 1)) ∧ (decode cX6_add 29 = .ok (.putfield 18, 3)) ∧ (decode cX6_add 32 = .ok (.return_, 1)) := by decide +kernel
theorem dX6_add_20 : decode cX6_add 20 = .ok (.iload_n 1, 1) := bdX6_add_20.1
theorem dX6_add_21 : decode cX6_add 21 = .ok (.iastore, 1) := bdX6_add_20.2.1
theorem dX6_add_22 : decode cX6_add 22 = .ok (.aload_n 0, 1) := bdX6_add_20.2.2.1
theorem dX6_add_23 : decode cX6_add 23 = .ok (.dup, 1) := bdX6_add_20.2.2.2.1
theorem dX6_add_24 : decode cX6_add 24 = .ok (.getfield 18, 3) := bdX6_add_20.2.2.2.2.1
theorem dX6_add_27 : decode cX6_add 27 = .ok (.iconst 1, 1) := bdX6_add_20.2.2.2.2.2.1
theorem dX6_add_28 : decode cX6_add 28 = .ok (.iadd, 1) := bdX6_add_20.2.2.2.2.2.2.1
theorem dX6_add_29 : decode cX6_add 29 = .ok (.putfield 18, 3) := bdX6_add_20.2.2.2.2.2.2.2.1
theorem dX6_add_32 : decode cX6_add 32 = .ok (.return_, 1) := bdX6_add_20.2.2.2.2.2.2.2.2
theorem bdX6_reckon_0 : (decode cX6_reckon 0 = .ok (.iconst 0, 1)) ∧ (decode cX6_reckon 1 = .ok (.istore_n 2, 1)) ∧ (decode cX6_reckon 2 = .ok (.iconst 0, 1)) ∧ (decode cX6_reckon 3 = .ok (.istore_n 3, 1)) ∧ (decode cX6_reckon 4 = .ok (.iload_n 3, 1)) ∧ (decode cX6_reckon 5 = .ok (.aload_n 0, 1)) ∧ (decode cX6_reckon 6 = .ok (.getfield 18, 3)) ∧ (decode cX6_reckon 9 = .ok (.if_icmp .ge 152, 3)) ∧ (decode cX6_reckon 12 = .ok (.iload_n 3, 1)) ∧ (decode cX6_reckon 13 = .ok (.aload_n 0, 1)) := by decide +kernel
theorem dX6_reckon_0 : decode cX6_reckon 0 = .ok (.iconst 0, 1) := bdX6_reckon_0.1
theorem dX6_reckon_1 : decode cX6_reckon 1 = .ok (.istore_n 2, 1) := bdX6_reckon_0.2.1
theorem dX6_reckon_2 : decode cX6_reckon 2 = .ok (.iconst 0, 1) := bdX6_reckon_0.2.2.1
theorem dX6_reckon_3 : decode cX6_reckon 3 = .ok (.istore_n 3, 1) := bdX6_reckon_0.2.2.2.1
theorem dX6_reckon_4 : decode cX6_reckon 4 = .ok (.iload_n 3, 1) := bdX6_reckon_0.2.2.2.2.1
theorem dX6_reckon_5 : decode cX6_reckon 5 = .ok (.aload_n 0, 1) := bdX6_reckon_0.2.2.2.2.2.1
theorem dX6_reckon_6 : decode cX6_reckon 6 = .ok (.getfield 18, 3) := bdX6_reckon_0.2.2.2.2.2.2.1
theorem dX6_reckon_9 : decode cX6_reckon 9 = .ok (.if_icmp .ge 152, 3) := bdX6_reckon_0.2.2.2.2.2.2.2.1
theorem dX6_reckon_12 : decode cX6_reckon 12 = .ok (.iload_n 3, 1) := bdX6_reckon_0.2.2.2.2.2.2.2.2.1
theorem dX6_reckon_13 : decode cX6_reckon 13 = .ok (.aload_n 0, 1) := bdX6_reckon_0.2.2.2.2.2.2.2.2.2
theorem bdX6_reckon_14 : (decode cX6_reckon 14 = .ok (.getfield 9, 3)) ∧ (decode cX6_reckon 17 = .ok (.arraylength, 1)) ∧ (decode cX6_reckon 18 = .ok (.if_icmp .ge 143, 3)) ∧ (decode cX6_reckon 21 = .ok (.aload_n 0, 1)) ∧ (decode cX6_reckon 22 = .ok (.getfield 9, 3)) ∧ (decode cX6_reckon 25 = .ok (.iload_n 3, 1)) ∧ (decode cX6_reckon 26 = .ok (.iaload, 1)) ∧ (decode cX6_reckon 27 = .ok (.istore 4, 2)) ∧ (decode cX6_reckon 29 = .ok (.iload 4, 2)) ∧ (decode cX6_reckon 31 = .ok (.ifCond .ge 10, 3)) := by decide +kernel
theorem dX6_reckon_14 : decode cX6_reckon 14 = .ok (.getfield 9, 3) := bdX6_reckon_14.1
theorem dX6_reckon_17 : decode cX6_reckon 17 = .ok (.arraylength, 1) := bdX6_reckon_14.2.1
theorem dX6_reckon_18 : decode cX6_reckon 18 = .ok (.if_icmp .ge 143, 3) := bdX6_reckon_14.2.2.1
theorem dX6_reckon_21 : decode cX6_reckon 21 = .ok (.aload_n 0, 1) := bdX6_reckon_14.2.2.2.1
theorem dX6_reckon_22 : decode cX6_reckon 22 = .ok (.getfield 9, 3) := bdX6_reckon_14.2.2.2.2.1
theorem dX6_reckon_25 : decode cX6_reckon 25 = .ok (.iload_n 3, 1) := bdX6_reckon_14.2.2.2.2.2.1
theorem dX6_reckon_26 : decode cX6_reckon 26 = .ok (.iaload, 1) := bdX6_reckon_14.2.2.2.2.2.2.1
theorem dX6_reckon_27 : decode cX6_reckon 27 = .ok (.istore 4, 2) := bdX6_reckon_14.2.2.2.2.2.2.2.1
theorem dX6_reckon_29 : decode cX6_reckon 29 = .ok (.iload 4, 2) := bdX6_reckon_14.2.2.2.2.2.2.2.2.1
theorem dX6_reckon_31 : decode cX6_reckon 31 = .ok (.ifCond .ge 10, 3) := bdX6_reckon_14.2.2.2.2.2.2.2.2.2
theorem bdX6_reckon_34 : (decode cX6_reckon 34 = .ok (.iload 4, 2)) ∧ (decode cX6_reckon 36 = .ok (.bipush (-10), 2)) ∧ (decode cX6_reckon 38 = .ok (.if_icmp .gt 43, 3)) ∧ (decode cX6_reckon 41 = .ok (.iload_n 2, 1)) ∧ (decode cX6_reckon 42 = .ok (.aload_n 0, 1)) ∧ (decode cX6_reckon 43 = .ok (.getfield 15, 3)) ∧ (decode cX6_reckon 46 = .ok (.arraylength, 1)) ∧ (decode cX6_reckon 47 = .ok (.if_icmp .ge 108, 3)) ∧ (decode cX6_reckon 50 = .ok (.aload_n 0, 1)) ∧ (decode cX6_reckon 51 = .ok (.getfield 15, 3)) := by decide +kernel
theorem dX6_reckon_34 : decode cX6_reckon 34 = .ok (.iload 4, 2) := bdX6_reckon_34.1
theorem dX6_reckon_36 : decode cX6_reckon 36 = .ok (.bipush (-10), 2) := bdX6_reckon_34.2.1
theorem dX6_reckon_38 : decode cX6_reckon 38 = .ok (.if_icmp .gt 43, 3) := bdX6_reckon_34.2.2.1
theorem dX6_reckon_41 : decode cX6_reckon 41 = .ok (.iload_n 2, 1) := bdX6_reckon_34.2.2.2.1
theorem dX6_reckon_42 : decode cX6_reckon 42 = .ok (.aload_n 0, 1) := bdX6_reckon_34.2.2.2.2.1
theorem dX6_reckon_43 : decode cX6_reckon 43 = .ok (.getfield 15, 3) := bdX6_reckon_34.2.2.2.2.2.1
theorem dX6_reckon_46 : decode cX6_reckon 46 = .ok (.arraylength, 1) := bdX6_reckon_34.2.2.2.2.2.2.1
theorem dX6_reckon_47 : decode cX6_reckon 47 = .ok (.if_icmp .ge 108, 3) := bdX6_reckon_34.2.2.2.2.2.2.2.1
theorem dX6_reckon_50 : decode cX6_reckon 50 = .ok (.aload_n 0, 1) := bdX6_reckon_34.2.2.2.2.2.2.2.2.1
theorem dX6_reckon_51 : decode cX6_reckon 51 = .ok (.getfield 15, 3) := bdX6_reckon_34.2.2.2.2.2.2.2.2.2
theorem bdX6_reckon_54 : (decode cX6_reckon 54 = .ok (.iload_n 2, 1)) ∧ (decode cX6_reckon 55 = .ok (.iload 4, 2)) ∧ (decode cX6_reckon 57 = .ok (.ifCond .lt 8, 3)) ∧ (decode cX6_reckon 60 = .ok (.iload 4, 2)) ∧ (decode cX6_reckon 62 = .ok (.goto 12, 3)) ∧ (decode cX6_reckon 65 = .ok (.aload_n 1, 1)) ∧ (decode cX6_reckon 66 = .ok (.bipush (-10), 2)) ∧ (decode cX6_reckon 68 = .ok (.iload 4, 2)) ∧ (decode cX6_reckon 70 = .ok (.isub, 1)) ∧ (decode cX6_reckon 71 = .ok (.invokestatic 22, 3)) := by decide +kernel
theorem dX6_reckon_54 : decode cX6_reckon 54 = .ok (.iload_n 2, 1) := bdX6_reckon_54.1
theorem dX6_reckon_55 : decode cX6_reckon 55 = .ok (.iload 4, 2) := bdX6_reckon_54.2.1
theorem dX6_reckon_57 : decode cX6_reckon 57 = .ok (.ifCond .lt 8, 3) := bdX6_reckon_54.2.2.1
theorem dX6_reckon_60 : decode cX6_reckon 60 = .ok (.iload 4, 2) := bdX6_reckon_54.2.2.2.1
theorem dX6_reckon_62 : decode cX6_reckon 62 = .ok (.goto 12, 3) := bdX6_reckon_54.2.2.2.2.1
theorem dX6_reckon_65 : decode cX6_reckon 65 = .ok (.aload_n 1, 1) := bdX6_reckon_54.2.2.2.2.2.1
theorem dX6_reckon_66 : decode cX6_reckon 66 = .ok (.bipush (-10), 2) := bdX6_reckon_54.2.2.2.2.2.2.1
theorem dX6_reckon_68 : decode cX6_reckon 68 = .ok (.iload 4, 2) := bdX6_reckon_54.2.2.2.2.2.2.2.1
theorem dX6_reckon_70 : decode cX6_reckon 70 = .ok (.isub, 1) := bdX6_reckon_54.2.2.2.2.2.2.2.2.1
theorem dX6_reckon_71 : decode cX6_reckon 71 = .ok (.invokestatic 22, 3) := bdX6_reckon_54.2.2.2.2.2.2.2.2.2
theorem bdX6_reckon_74 : (decode cX6_reckon 74 = .ok (.iastore, 1)) ∧ (decode cX6_reckon 75 = .ok (.iinc 2 1, 3)) ∧ (decode cX6_reckon 78 = .ok (.goto 77, 3)) ∧ (decode cX6_reckon 81 = .ok (.iload 4, 2)) ∧ (decode cX6_reckon 83 = .ok (.bipush (-3), 2)) ∧ (decode cX6_reckon 85 = .ok (.if_icmp .ne 35, 3)) ∧ (decode cX6_reckon 88 = .ok (.iload_n 2, 1)) ∧ (decode cX6_reckon 89 = .ok (.iconst 1, 1)) ∧ (decode cX6_reckon 90 = .ok (.if_icmp .lt 65, 3)) ∧ (decode cX6_reckon 93 = .ok (.aload_n 0, 1)) := by decide +kernel
theorem dX6_reckon_74 : decode cX6_reckon 74 = .ok (.iastore, 1) := bdX6_reckon_74.1
theorem dX6_reckon_75 : decode cX6_reckon 75 = .ok (.iinc 2 1, 3) := bdX6_reckon_74.2.1
theorem dX6_reckon_78 : decode cX6_reckon 78 = .ok (.goto 77, 3) := bdX6_reckon_74.2.2.1
theorem dX6_reckon_81 : decode cX6_reckon 81 = .ok (.iload 4, 2) := bdX6_reckon_74.2.2.2.1
theorem dX6_reckon_83 : decode cX6_reckon 83 = .ok (.bipush (-3), 2) := bdX6_reckon_74.2.2.2.2.1
theorem dX6_reckon_85 : decode cX6_reckon 85 = .ok (.if_icmp .ne 35, 3) := bdX6_reckon_74.2.2.2.2.2.1
theorem dX6_reckon_88 : decode cX6_reckon 88 = .ok (.iload_n 2, 1) := bdX6_reckon_74.2.2.2.2.2.2.1
theorem dX6_reckon_89 : decode cX6_reckon 89 = .ok (.iconst 1, 1) := bdX6_reckon_74.2.2.2.2.2.2.2.1
theorem dX6_reckon_90 : decode cX6_reckon 90 = .ok (.if_icmp .lt 65, 3) := bdX6_reckon_74.2.2.2.2.2.2.2.2.1
theorem dX6_reckon_93 : decode cX6_reckon 93 = .ok (.aload_n 0, 1) := bdX6_reckon_74.2.2.2.2.2.2.2.2.2
theorem bdX6_reckon_94 : (decode cX6_reckon 94 = .ok (.getfield 15, 3)) ∧ (decode cX6_reckon 97 = .ok (.iload_n 2, 1)) ∧ (decode cX6_reckon 98 = .ok (.iconst 1, 1)) ∧ (decode cX6_reckon 99 = .ok (.isub, 1)) ∧ (decode cX6_reckon 100 = .ok (.aload_n 0, 1)) ∧ (decode cX6_reckon 101 = .ok (.getfield 15, 3)) ∧ (decode cX6_reckon 104 = .ok (.iload_n 2, 1)) ∧ (decode cX6_reckon 105 = .ok (.iconst 1, 1)) ∧ (decode cX6_reckon 106 = .ok (.isub, 1)) ∧ (decode cX6_reckon 107 = .ok (.iaload, 1)) := by decide +kernel
theorem dX6_reckon_94 : decode cX6_reckon 94 = .ok (.getfield 15, 3) := bdX6_reckon_94.1
theorem dX6_reckon_97 : decode cX6_reckon 97 = .ok (.iload_n 2, 1) := bdX6_reckon_94.2.1
theorem dX6_reckon_98 : decode cX6_reckon 98 = .ok (.iconst 1, 1) := bdX6_reckon_94.2.2.1
theorem dX6_reckon_99 : decode cX6_reckon 99 = .ok (.isub, 1) := bdX6_reckon_94.2.2.2.1
theorem dX6_reckon_100 : decode cX6_reckon 100 = .ok (.aload_n 0, 1) := bdX6_reckon_94.2.2.2.2.1
theorem dX6_reckon_101 : decode cX6_reckon 101 = .ok (.getfield 15, 3) := bdX6_reckon_94.2.2.2.2.2.1
theorem dX6_reckon_104 : decode cX6_reckon 104 = .ok (.iload_n 2, 1) := bdX6_reckon_94.2.2.2.2.2.2.1
theorem dX6_reckon_105 : decode cX6_reckon 105 = .ok (.iconst 1, 1) := bdX6_reckon_94.2.2.2.2.2.2.2.1
theorem dX6_reckon_106 : decode cX6_reckon 106 = .ok (.isub, 1) := bdX6_reckon_94.2.2.2.2.2.2.2.2.1
theorem dX6_reckon_107 : decode cX6_reckon 107 = .ok (.iaload, 1) := bdX6_reckon_94.2.2.2.2.2.2.2.2.2
theorem bdX6_reckon_108 : (decode cX6_reckon 108 = .ok (.ifCond .ne 7, 3)) ∧ (decode cX6_reckon 111 = .ok (.iconst 1, 1)) ∧ (decode cX6_reckon 112 = .ok (.goto 4, 3)) ∧ (decode cX6_reckon 115 = .ok (.iconst 0, 1)) ∧ (decode cX6_reckon 116 = .ok (.iastore, 1)) ∧ (decode cX6_reckon 117 = .ok (.goto 38, 3)) ∧ (decode cX6_reckon 120 = .ok (.iload_n 2, 1)) ∧ (decode cX6_reckon 121 = .ok (.iconst 2, 1)) ∧ (decode cX6_reckon 122 = .ok (.if_icmp .lt 33, 3)) ∧ (decode cX6_reckon 125 = .ok (.iinc 2 (-1), 3)) := by decide +kernel
theorem dX6_reckon_108 : decode cX6_reckon 108 = .ok (.ifCond .ne 7, 3) := bdX6_reckon_108.1
theorem dX6_reckon_111 : decode cX6_reckon 111 = .ok (.iconst 1, 1) := bdX6_reckon_108.2.1
theorem dX6_reckon_112 : decode cX6_reckon 112 = .ok (.goto 4, 3) := bdX6_reckon_108.2.2.1
theorem dX6_reckon_115 : decode cX6_reckon 115 = .ok (.iconst 0, 1) := bdX6_reckon_108.2.2.2.1
theorem dX6_reckon_116 : decode cX6_reckon 116 = .ok (.iastore, 1) := bdX6_reckon_108.2.2.2.2.1
theorem dX6_reckon_117 : decode cX6_reckon 117 = .ok (.goto 38, 3) := bdX6_reckon_108.2.2.2.2.2.1
theorem dX6_reckon_120 : decode cX6_reckon 120 = .ok (.iload_n 2, 1) := bdX6_reckon_108.2.2.2.2.2.2.1
theorem dX6_reckon_121 : decode cX6_reckon 121 = .ok (.iconst 2, 1) := bdX6_reckon_108.2.2.2.2.2.2.2.1
theorem dX6_reckon_122 : decode cX6_reckon 122 = .ok (.if_icmp .lt 33, 3) := bdX6_reckon_108.2.2.2.2.2.2.2.2.1
theorem dX6_reckon_125 : decode cX6_reckon 125 = .ok (.iinc 2 (-1), 3) := bdX6_reckon_108.2.2.2.2.2.2.2.2.2
theorem bdX6_reckon_128 : (decode cX6_reckon 128 = .ok (.aload_n 0, 1)) ∧ (decode cX6_reckon 129 = .ok (.getfield 15, 3)) ∧ (decode cX6_reckon 132 = .ok (.iload_n 2, 1)) ∧ (decode cX6_reckon 133 = .ok (.iconst 1, 1)) ∧ (decode cX6_reckon 134 = .ok (.isub, 1)) ∧ (decode cX6_reckon 135 = .ok (.iload 4, 2)) ∧ (decode cX6_reckon 137 = .ok (.aload_n 0, 1)) ∧ (decode cX6_reckon 138 = .ok (.getfield 15, 3)) ∧ (decode cX6_reckon 141 = .ok (.iload_n 2, 1)) ∧ (decode cX6_reckon 142 = .ok (.iconst 1, 1)) := by decide +kernel
theorem dX6_reckon_128 : decode cX6_reckon 128 = .ok (.aload_n 0, 1) := bdX6_reckon_128.1
theorem dX6_reckon_129 : decode cX6_reckon 129 = .ok (.getfield 15, 3) := bdX6_reckon_128.2.1
theorem dX6_reckon_132 : decode cX6_reckon 132 = .ok (.iload_n 2, 1) := bdX6_reckon_128.2.2.1
theorem dX6_reckon_133 : decode cX6_reckon 133 = .ok (.iconst 1, 1) := bdX6_reckon_128.2.2.2.1
theorem dX6_reckon_134 : decode cX6_reckon 134 = .ok (.isub, 1) := bdX6_reckon_128.2.2.2.2.1
theorem dX6_reckon_135 : decode cX6_reckon 135 = .ok (.iload 4, 2) := bdX6_reckon_128.2.2.2.2.2.1
theorem dX6_reckon_137 : decode cX6_reckon 137 = .ok (.aload_n 0, 1) := bdX6_reckon_128.2.2.2.2.2.2.1
theorem dX6_reckon_138 : decode cX6_reckon 138 = .ok (.getfield 15, 3) := bdX6_reckon_128.2.2.2.2.2.2.2.1
theorem dX6_reckon_141 : decode cX6_reckon 141 = .ok (.iload_n 2, 1) := bdX6_reckon_128.2.2.2.2.2.2.2.2.1
theorem dX6_reckon_142 : decode cX6_reckon 142 = .ok (.iconst 1, 1) := bdX6_reckon_128.2.2.2.2.2.2.2.2.2
theorem bdX6_reckon_143 : (decode cX6_reckon 143 = .ok (.isub, 1)) ∧ (decode cX6_reckon 144 = .ok (.iaload, 1)) ∧ (decode cX6_reckon 145 = .ok (.aload_n 0, 1)) ∧ (decode cX6_reckon 146 = .ok (.getfield 15, 3)) ∧ (decode cX6_reckon 149 = .ok (.iload_n 2, 1)) ∧ (decode cX6_reckon 150 = .ok (.iaload, 1)) ∧ (decode cX6_reckon 151 = .ok (.invokestatic 26, 3)) ∧ (decode cX6_reckon 154 = .ok (.iastore, 1)) ∧ (decode cX6_reckon 155 = .ok (.iinc 3 1, 3)) ∧ (decode cX6_reckon 158 = .ok (.goto (-154), 3)) := by decide +kernel
theorem dX6_reckon_143 : decode cX6_reckon 143 = .ok (.isub, 1) := bdX6_reckon_143.1
theorem dX6_reckon_144 : decode cX6_reckon 144 = .ok (.iaload, 1) := bdX6_reckon_143.2.1
theorem dX6_reckon_145 : decode cX6_reckon 145 = .ok (.aload_n 0, 1) := bdX6_reckon_143.2.2.1
theorem dX6_reckon_146 : decode cX6_reckon 146 = .ok (.getfield 15, 3) := bdX6_reckon_143.2.2.2.1
theorem dX6_reckon_149 : decode cX6_reckon 149 = .ok (.iload_n 2, 1) := bdX6_reckon_143.2.2.2.2.1
theorem dX6_reckon_150 : decode cX6_reckon 150 = .ok (.iaload, 1) := bdX6_reckon_143.2.2.2.2.2.1
theorem dX6_reckon_151 : decode cX6_reckon 151 = .ok (.invokestatic 26, 3) := bdX6_reckon_143.2.2.2.2.2.2.1
theorem dX6_reckon_154 : decode cX6_reckon 154 = .ok (.iastore, 1) := bdX6_reckon_143.2.2.2.2.2.2.2.1
theorem dX6_reckon_155 : decode cX6_reckon 155 = .ok (.iinc 3 1, 3) := bdX6_reckon_143.2.2.2.2.2.2.2.2.1
theorem dX6_reckon_158 : decode cX6_reckon 158 = .ok (.goto (-154), 3) := bdX6_reckon_143.2.2.2.2.2.2.2.2.2
theorem bdX6_reckon_161 : (decode cX6_reckon 161 = .ok (.aload_n 0, 1)) ∧ (decode cX6_reckon 162 = .ok (.getfield 15, 3)) ∧ (decode cX6_reckon 165 = .ok (.iconst 0, 1)) ∧ (decode cX6_reckon 166 = .ok (.iaload, 1)) ∧ (decode cX6_reckon 167 = .ok (.ireturn, 1)) := by decide +kernel
theorem dX6_reckon_161 : decode cX6_reckon 161 = .ok (.aload_n 0, 1) := bdX6_reckon_161.1
theorem dX6_reckon_162 : decode cX6_reckon 162 = .ok (.getfield 15, 3) := bdX6_reckon_161.2.1
theorem dX6_reckon_165 : decode cX6_reckon 165 = .ok (.iconst 0, 1) := bdX6_reckon_161.2.2.1
theorem dX6_reckon_166 : decode cX6_reckon 166 = .ok (.iaload, 1) := bdX6_reckon_161.2.2.2.1
theorem dX6_reckon_167 : decode cX6_reckon 167 = .ok (.ireturn, 1) := bdX6_reckon_161.2.2.2.2
theorem bdX6_valueOf_0 : (decode cX6_valueOf 0 = .ok (.iload_n 1, 1)) ∧ (decode cX6_valueOf 1 = .ok (.ifCond .lt 15, 3)) ∧ (decode cX6_valueOf 4 = .ok (.iload_n 1, 1)) ∧ (decode cX6_valueOf 5 = .ok (.aload_n 0, 1)) ∧ (decode cX6_valueOf 6 = .ok (.arraylength, 1)) ∧ (decode cX6_valueOf 7 = .ok (.if_icmp .ge 9, 3)) ∧ (decode cX6_valueOf 10 = .ok (.aload_n 0, 1)) ∧ (decode cX6_valueOf 11 = .ok (.iload_n 1, 1)) ∧ (decode cX6_valueOf 12 = .ok (.iaload, 1)) ∧ (decode cX6_valueOf 13 = .ok (.goto 4, 3)) := by decide +kernel
theorem dX6_valueOf_0 : decode cX6_valueOf 0 = .ok (.iload_n 1, 1) := bdX6_valueOf_0.1
theorem dX6_valueOf_1 : decode cX6_valueOf 1 = .ok (.ifCond .lt 15, 3) := bdX6_valueOf_0.2.1
theorem dX6_valueOf_4 : decode cX6_valueOf 4 = .ok (.iload_n 1, 1) := bdX6_valueOf_0.2.2.1
theorem dX6_valueOf_5 : decode cX6_valueOf 5 = .ok (.aload_n 0, 1) := bdX6_valueOf_0.2.2.2.1
theorem dX6_valueOf_6 : decode cX6_valueOf 6 = .ok (.arraylength, 1) := bdX6_valueOf_0.2.2.2.2.1
theorem dX6_valueOf_7 : decode cX6_valueOf 7 = .ok (.if_icmp .ge 9, 3) := bdX6_valueOf_0.2.2.2.2.2.1
theorem dX6_valueOf_10 : decode cX6_valueOf 10 = .ok (.aload_n 0, 1) := bdX6_valueOf_0.2.2.2.2.2.2.1
theorem dX6_valueOf_11 : decode cX6_valueOf 11 = .ok (.iload_n 1, 1) := bdX6_valueOf_0.2.2.2.2.2.2.2.1
theorem dX6_valueOf_12 : decode cX6_valueOf 12 = .ok (.iaload, 1) := bdX6_valueOf_0.2.2.2.2.2.2.2.2.1
theorem dX6_valueOf_13 : decode cX6_valueOf 13 = .ok (.goto 4, 3) := bdX6_valueOf_0.2.2.2.2.2.2.2.2.2
theorem bdX6_valueOf_16 : (decode cX6_valueOf 16 = .ok (.iconst 0, 1)) ∧ (decode cX6_valueOf 17 = .ok (.ireturn, 1)) := by decide +kernel
theorem dX6_valueOf_16 : decode cX6_valueOf 16 = .ok (.iconst 0, 1) := bdX6_valueOf_16.1
theorem dX6_valueOf_17 : decode cX6_valueOf 17 = .ok (.ireturn, 1) := bdX6_valueOf_16.2
theorem bdX6_join_0 : (decode cX6_join 0 = .ok (.iload_n 0, 1)) ∧ (decode cX6_join 1 = .ok (.tableswitch 125 (-9) (-1) #[113, 109, 105, 101, 90, 79, 125, 65, 51], 51)) ∧ (decode cX6_join 52 = .ok (.iload_n 1, 1)) ∧ (decode cX6_join 53 = .ok (.ifCond .ne 7, 3)) ∧ (decode cX6_join 56 = .ok (.iload_n 2, 1)) ∧ (decode cX6_join 57 = .ok (.ifCond .eq 7, 3)) ∧ (decode cX6_join 60 = .ok (.iconst 1, 1)) ∧ (decode cX6_join 61 = .ok (.goto 4, 3)) ∧ (decode cX6_join 64 = .ok (.iconst 0, 1)) ∧ (decode cX6_join 65 = .ok (.ireturn, 1)) := by decide +kernel
theorem dX6_join_0 : decode cX6_join 0 = .ok (.iload_n 0, 1) := bdX6_join_0.1
theorem dX6_join_1 : decode cX6_join 1 = .ok (.tableswitch 125 (-9) (-1) #[113, 109, 105, 101, 90, 79, 125, 65, 51], 51) := bdX6_join_0.2.1
theorem dX6_join_52 : decode cX6_join 52 = .ok (.iload_n 1, 1) := bdX6_join_0.2.2.1
theorem dX6_join_53 : decode cX6_join 53 = .ok (.ifCond .ne 7, 3) := bdX6_join_0.2.2.2.1
theorem dX6_join_56 : decode cX6_join 56 = .ok (.iload_n 2, 1) := bdX6_join_0.2.2.2.2.1
theorem dX6_join_57 : decode cX6_join 57 = .ok (.ifCond .eq 7, 3) := bdX6_join_0.2.2.2.2.2.1
theorem dX6_join_60 : decode cX6_join 60 = .ok (.iconst 1, 1) := bdX6_join_0.2.2.2.2.2.2.1
theorem dX6_join_61 : decode cX6_join 61 = .ok (.goto 4, 3) := bdX6_join_0.2.2.2.2.2.2.2.1
theorem dX6_join_64 : decode cX6_join 64 = .ok (.iconst 0, 1) := bdX6_join_0.2.2.2.2.2.2.2.2.1
theorem dX6_join_65 : decode cX6_join 65 = .ok (.ireturn, 1) := bdX6_join_0.2.2.2.2.2.2.2.2.2
theorem bdX6_join_66 : (decode cX6_join 66 = .ok (.iload_n 1, 1)) ∧ (decode cX6_join 67 = .ok (.ifCond .eq 11, 3)) ∧ (decode cX6_join 70 = .ok (.iload_n 2, 1)) ∧ (decode cX6_join 71 = .ok (.ifCond .eq 7, 3)) ∧ (decode cX6_join 74 = .ok (.iconst 1, 1)) ∧ (decode cX6_join 75 = .ok (.goto 4, 3)) ∧ (decode cX6_join 78 = .ok (.iconst 0, 1)) ∧ (decode cX6_join 79 = .ok (.ireturn, 1)) ∧ (decode cX6_join 80 = .ok (.iload_n 1, 1)) ∧ (decode cX6_join 81 = .ok (.iload_n 2, 1)) := by decide +kernel
theorem dX6_join_66 : decode cX6_join 66 = .ok (.iload_n 1, 1) := bdX6_join_66.1
theorem dX6_join_67 : decode cX6_join 67 = .ok (.ifCond .eq 11, 3) := bdX6_join_66.2.1
theorem dX6_join_70 : decode cX6_join 70 = .ok (.iload_n 2, 1) := bdX6_join_66.2.2.1
theorem dX6_join_71 : decode cX6_join 71 = .ok (.ifCond .eq 7, 3) := bdX6_join_66.2.2.2.1
theorem dX6_join_74 : decode cX6_join 74 = .ok (.iconst 1, 1) := bdX6_join_66.2.2.2.2.1
theorem dX6_join_75 : decode cX6_join 75 = .ok (.goto 4, 3) := bdX6_join_66.2.2.2.2.2.1
theorem dX6_join_78 : decode cX6_join 78 = .ok (.iconst 0, 1) := bdX6_join_66.2.2.2.2.2.2.1
theorem dX6_join_79 : decode cX6_join 79 = .ok (.ireturn, 1) := bdX6_join_66.2.2.2.2.2.2.2.1
theorem dX6_join_80 : decode cX6_join 80 = .ok (.iload_n 1, 1) := bdX6_join_66.2.2.2.2.2.2.2.2.1
theorem dX6_join_81 : decode cX6_join 81 = .ok (.iload_n 2, 1) := bdX6_join_66.2.2.2.2.2.2.2.2.2
theorem bdX6_join_82 : (decode cX6_join 82 = .ok (.if_icmp .ge 7, 3)) ∧ (decode cX6_join 85 = .ok (.iconst 1, 1)) ∧ (decode cX6_join 86 = .ok (.goto 4, 3)) ∧ (decode cX6_join 89 = .ok (.iconst 0, 1)) ∧ (decode cX6_join 90 = .ok (.ireturn, 1)) ∧ (decode cX6_join 91 = .ok (.iload_n 1, 1)) ∧ (decode cX6_join 92 = .ok (.iload_n 2, 1)) ∧ (decode cX6_join 93 = .ok (.if_icmp .ne 7, 3)) ∧ (decode cX6_join 96 = .ok (.iconst 1, 1)) ∧ (decode cX6_join 97 = .ok (.goto 4, 3)) := by decide +kernel
theorem dX6_join_82 : decode cX6_join 82 = .ok (.if_icmp .ge 7, 3) := bdX6_join_82.1
theorem dX6_join_85 : decode cX6_join 85 = .ok (.iconst 1, 1) := bdX6_join_82.2.1
theorem dX6_join_86 : decode cX6_join 86 = .ok (.goto 4, 3) := bdX6_join_82.2.2.1
theorem dX6_join_89 : decode cX6_join 89 = .ok (.iconst 0, 1) := bdX6_join_82.2.2.2.1
theorem dX6_join_90 : decode cX6_join 90 = .ok (.ireturn, 1) := bdX6_join_82.2.2.2.2.1
theorem dX6_join_91 : decode cX6_join 91 = .ok (.iload_n 1, 1) := bdX6_join_82.2.2.2.2.2.1
theorem dX6_join_92 : decode cX6_join 92 = .ok (.iload_n 2, 1) := bdX6_join_82.2.2.2.2.2.2.1
theorem dX6_join_93 : decode cX6_join 93 = .ok (.if_icmp .ne 7, 3) := bdX6_join_82.2.2.2.2.2.2.2.1
theorem dX6_join_96 : decode cX6_join 96 = .ok (.iconst 1, 1) := bdX6_join_82.2.2.2.2.2.2.2.2.1
theorem dX6_join_97 : decode cX6_join 97 = .ok (.goto 4, 3) := bdX6_join_82.2.2.2.2.2.2.2.2.2
theorem bdX6_join_100 : (decode cX6_join 100 = .ok (.iconst 0, 1)) ∧ (decode cX6_join 101 = .ok (.ireturn, 1)) ∧ (decode cX6_join 102 = .ok (.iload_n 1, 1)) ∧ (decode cX6_join 103 = .ok (.iload_n 2, 1)) ∧ (decode cX6_join 104 = .ok (.iadd, 1)) ∧ (decode cX6_join 105 = .ok (.ireturn, 1)) ∧ (decode cX6_join 106 = .ok (.iload_n 1, 1)) ∧ (decode cX6_join 107 = .ok (.iload_n 2, 1)) ∧ (decode cX6_join 108 = .ok (.isub, 1)) ∧ (decode cX6_join 109 = .ok (.ireturn, 1)) := by decide +kernel
theorem dX6_join_100 : decode cX6_join 100 = .ok (.iconst 0, 1) := bdX6_join_100.1
theorem dX6_join_101 : decode cX6_join 101 = .ok (.ireturn, 1) := bdX6_join_100.2.1
theorem dX6_join_102 : decode cX6_join 102 = .ok (.iload_n 1, 1) := bdX6_join_100.2.2.1
theorem dX6_join_103 : decode cX6_join 103 = .ok (.iload_n 2, 1) := bdX6_join_100.2.2.2.1
theorem dX6_join_104 : decode cX6_join 104 = .ok (.iadd, 1) := bdX6_join_100.2.2.2.2.1
theorem dX6_join_105 : decode cX6_join 105 = .ok (.ireturn, 1) := bdX6_join_100.2.2.2.2.2.1
theorem dX6_join_106 : decode cX6_join 106 = .ok (.iload_n 1, 1) := bdX6_join_100.2.2.2.2.2.2.1
theorem dX6_join_107 : decode cX6_join 107 = .ok (.iload_n 2, 1) := bdX6_join_100.2.2.2.2.2.2.2.1
theorem dX6_join_108 : decode cX6_join 108 = .ok (.isub, 1) := bdX6_join_100.2.2.2.2.2.2.2.2.1
theorem dX6_join_109 : decode cX6_join 109 = .ok (.ireturn, 1) := bdX6_join_100.2.2.2.2.2.2.2.2.2
theorem bdX6_join_110 : (decode cX6_join 110 = .ok (.iload_n 1, 1)) ∧ (decode cX6_join 111 = .ok (.iload_n 2, 1)) ∧ (decode cX6_join 112 = .ok (.imul, 1)) ∧ (decode cX6_join 113 = .ok (.ireturn, 1)) ∧ (decode cX6_join 114 = .ok (.iload_n 2, 1)) ∧ (decode cX6_join 115 = .ok (.ifCond .ne 7, 3)) ∧ (decode cX6_join 118 = .ok (.iconst 0, 1)) ∧ (decode cX6_join 119 = .ok (.goto 6, 3)) ∧ (decode cX6_join 122 = .ok (.iload_n 1, 1)) ∧ (decode cX6_join 123 = .ok (.iload_n 2, 1)) := by decide +kernel
theorem dX6_join_110 : decode cX6_join 110 = .ok (.iload_n 1, 1) := bdX6_join_110.1
theorem dX6_join_111 : decode cX6_join 111 = .ok (.iload_n 2, 1) := bdX6_join_110.2.1
theorem dX6_join_112 : decode cX6_join 112 = .ok (.imul, 1) := bdX6_join_110.2.2.1
theorem dX6_join_113 : decode cX6_join 113 = .ok (.ireturn, 1) := bdX6_join_110.2.2.2.1
theorem dX6_join_114 : decode cX6_join 114 = .ok (.iload_n 2, 1) := bdX6_join_110.2.2.2.2.1
theorem dX6_join_115 : decode cX6_join 115 = .ok (.ifCond .ne 7, 3) := bdX6_join_110.2.2.2.2.2.1
theorem dX6_join_118 : decode cX6_join 118 = .ok (.iconst 0, 1) := bdX6_join_110.2.2.2.2.2.2.1
theorem dX6_join_119 : decode cX6_join 119 = .ok (.goto 6, 3) := bdX6_join_110.2.2.2.2.2.2.2.1
theorem dX6_join_122 : decode cX6_join 122 = .ok (.iload_n 1, 1) := bdX6_join_110.2.2.2.2.2.2.2.2.1
theorem dX6_join_123 : decode cX6_join 123 = .ok (.iload_n 2, 1) := bdX6_join_110.2.2.2.2.2.2.2.2.2
theorem bdX6_join_124 : (decode cX6_join 124 = .ok (.idiv, 1)) ∧ (decode cX6_join 125 = .ok (.ireturn, 1)) ∧ (decode cX6_join 126 = .ok (.iconst 0, 1)) ∧ (decode cX6_join 127 = .ok (.ireturn, 1)) := by decide +kernel
theorem dX6_join_124 : decode cX6_join 124 = .ok (.idiv, 1) := bdX6_join_124.1
theorem dX6_join_125 : decode cX6_join 125 = .ok (.ireturn, 1) := bdX6_join_124.2.1
theorem dX6_join_126 : decode cX6_join 126 = .ok (.iconst 0, 1) := bdX6_join_124.2.2.1
theorem dX6_join_127 : decode cX6_join 127 = .ok (.ireturn, 1) := bdX6_join_124.2.2.2
theorem bdX7_init_0 : (decode cX7_init 0 = .ok (.aload_n 0, 1)) ∧ (decode cX7_init 1 = .ok (.invokespecial 3, 3)) ∧ (decode cX7_init 4 = .ok (.aload_n 0, 1)) ∧ (decode cX7_init 5 = .ok (.bipush 8, 2)) ∧ (decode cX7_init 7 = .ok (.newarray .int, 2)) ∧ (decode cX7_init 9 = .ok (.putfield 9, 3)) ∧ (decode cX7_init 12 = .ok (.aload_n 0, 1)) ∧ (decode cX7_init 13 = .ok (.bipush 8, 2)) ∧ (decode cX7_init 15 = .ok (.newarray .int, 2)) ∧ (decode cX7_init 17 = .ok (.putfield 15, 3)) := by decide +kernel
theorem dX7_init_0 : decode cX7_init 0 = .ok (.aload_n 0, 1) := bdX7_init_0.1
theorem dX7_init_1 : decode cX7_init 1 = .ok (.invokespecial 3, 3) := bdX7_init_0.2.1
theorem dX7_init_4 : decode cX7_init 4 = .ok (.aload_n 0, 1) := bdX7_init_0.2.2.1
theorem dX7_init_5 : decode cX7_init 5 = .ok (.bipush 8, 2) := bdX7_init_0.2.2.2.1
theorem dX7_init_7 : decode cX7_init 7 = .ok (.newarray .int, 2) := bdX7_init_0.2.2.2.2.1
theorem dX7_init_9 : decode cX7_init 9 = .ok (.putfield 9, 3) := bdX7_init_0.2.2.2.2.2.1
theorem dX7_init_12 : decode cX7_init 12 = .ok (.aload_n 0, 1) := bdX7_init_0.2.2.2.2.2.2.1
theorem dX7_init_13 : decode cX7_init 13 = .ok (.bipush 8, 2) := bdX7_init_0.2.2.2.2.2.2.2.1
theorem dX7_init_15 : decode cX7_init 15 = .ok (.newarray .int, 2) := bdX7_init_0.2.2.2.2.2.2.2.2.1
theorem dX7_init_17 : decode cX7_init 17 = .ok (.putfield 15, 3) := bdX7_init_0.2.2.2.2.2.2.2.2.2
theorem bdX7_init_20 : (decode cX7_init 20 = .ok (.aload_n 0, 1)) ∧ (decode cX7_init 21 = .ok (.bipush 8, 2)) ∧ (decode cX7_init 23 = .ok (.newarray .int, 2)) ∧ (decode cX7_init 25 = .ok (.putfield 18, 3)) ∧ (decode cX7_init 28 = .ok (.aload_n 0, 1)) ∧ (decode cX7_init 29 = .ok (.iconst 0, 1)) ∧ (decode cX7_init 30 = .ok (.putfield 21, 3)) ∧ (decode cX7_init 33 = .ok (.return_, 1)) := by decide +kernel
theorem dX7_init_20 : decode cX7_init 20 = .ok (.aload_n 0, 1) := bdX7_init_20.1
theorem dX7_init_21 : decode cX7_init 21 = .ok (.bipush 8, 2) := bdX7_init_20.2.1
theorem dX7_init_23 : decode cX7_init 23 = .ok (.newarray .int, 2) := bdX7_init_20.2.2.1
theorem dX7_init_25 : decode cX7_init 25 = .ok (.putfield 18, 3) := bdX7_init_20.2.2.2.1
theorem dX7_init_28 : decode cX7_init 28 = .ok (.aload_n 0, 1) := bdX7_init_20.2.2.2.2.1
theorem dX7_init_29 : decode cX7_init 29 = .ok (.iconst 0, 1) := bdX7_init_20.2.2.2.2.2.1
theorem dX7_init_30 : decode cX7_init 30 = .ok (.putfield 21, 3) := bdX7_init_20.2.2.2.2.2.2.1
theorem dX7_init_33 : decode cX7_init 33 = .ok (.return_, 1) := bdX7_init_20.2.2.2.2.2.2.2
theorem bdX7_add_0 : (decode cX7_add 0 = .ok (.aload_n 0, 1)) ∧ (decode cX7_add 1 = .ok (.getfield 21, 3)) ∧ (decode cX7_add 4 = .ok (.bipush 8, 2)) ∧ (decode cX7_add 6 = .ok (.if_icmp .ge 43, 3)) ∧ (decode cX7_add 9 = .ok (.aload_n 0, 1)) ∧ (decode cX7_add 10 = .ok (.getfield 9, 3)) ∧ (decode cX7_add 13 = .ok (.aload_n 0, 1)) ∧ (decode cX7_add 14 = .ok (.getfield 21, 3)) ∧ (decode cX7_add 17 = .ok (.iload_n 1, 1)) ∧ (decode cX7_add 18 = .ok (.iastore, 1)) := by decide +kernel
theorem dX7_add_0 : decode cX7_add 0 = .ok (.aload_n 0, 1) := bdX7_add_0.1
theorem dX7_add_1 : decode cX7_add 1 = .ok (.getfield 21, 3) := bdX7_add_0.2.1
theorem dX7_add_4 : decode cX7_add 4 = .ok (.bipush 8, 2) := bdX7_add_0.2.2.1
theorem dX7_add_6 : decode cX7_add 6 = .ok (.if_icmp .ge 43, 3) := bdX7_add_0.2.2.2.1
theorem dX7_add_9 : decode cX7_add 9 = .ok (.aload_n 0, 1) := bdX7_add_0.2.2.2.2.1
theorem dX7_add_10 : decode cX7_add 10 = .ok (.getfield 9, 3) := bdX7_add_0.2.2.2.2.2.1
theorem dX7_add_13 : decode cX7_add 13 = .ok (.aload_n 0, 1) := bdX7_add_0.2.2.2.2.2.2.1
theorem dX7_add_14 : decode cX7_add 14 = .ok (.getfield 21, 3) := bdX7_add_0.2.2.2.2.2.2.2.1
theorem dX7_add_17 : decode cX7_add 17 = .ok (.iload_n 1, 1) := bdX7_add_0.2.2.2.2.2.2.2.2.1
theorem dX7_add_18 : decode cX7_add 18 = .ok (.iastore, 1) := bdX7_add_0.2.2.2.2.2.2.2.2.2
theorem bdX7_add_19 : (decode cX7_add 19 = .ok (.aload_n 0, 1)) ∧ (decode cX7_add 20 = .ok (.getfield 15, 3)) ∧ (decode cX7_add 23 = .ok (.aload_n 0, 1)) ∧ (decode cX7_add 24 = .ok (.getfield 21, 3)) ∧ (decode cX7_add 27 = .ok (.iload_n 2, 1)) ∧ (decode cX7_add 28 = .ok (.iastore, 1)) ∧ (decode cX7_add 29 = .ok (.aload_n 0, 1)) ∧ (decode cX7_add 30 = .ok (.getfield 18, 3)) ∧ (decode cX7_add 33 = .ok (.aload_n 0, 1)) ∧ (decode cX7_add 34 = .ok (.getfield 21, 3)) := by decide +kernel
theorem dX7_add_19 : decode cX7_add 19 = .ok (.aload_n 0, 1) := bdX7_add_19.1
theorem dX7_add_20 : decode cX7_add 20 = .ok (.getfield 15, 3) := bdX7_add_19.2.1
theorem dX7_add_23 : decode cX7_add 23 = .ok (.aload_n 0, 1) := bdX7_add_19.2.2.1
theorem dX7_add_24 : decode cX7_add 24 = .ok (.getfield 21, 3) := bdX7_add_19.2.2.2.1
theorem dX7_add_27 : decode cX7_add 27 = .ok (.iload_n 2, 1) := bdX7_add_19.2.2.2.2.1
theorem dX7_add_28 : decode cX7_add 28 = .ok (.iastore, 1) := bdX7_add_19.2.2.2.2.2.1
theorem dX7_add_29 : decode cX7_add 29 = .ok (.aload_n 0, 1) := bdX7_add_19.2.2.2.2.2.2.1
theorem dX7_add_30 : decode cX7_add 30 = .ok (.getfield 18, 3) := bdX7_add_19.2.2.2.2.2.2.2.1
theorem dX7_add_33 : decode cX7_add 33 = .ok (.aload_n 0, 1) := bdX7_add_19.2.2.2.2.2.2.2.2.1
theorem dX7_add_34 : decode cX7_add 34 = .ok (.getfield 21, 3) := bdX7_add_19.2.2.2.2.2.2.2.2.2
theorem bdX7_add_37 : (decode cX7_add 37 = .ok (.iload_n 3, 1)) ∧ (decode cX7_add 38 = .ok (.iastore, 1)) ∧ (decode cX7_add 39 = .ok (.aload_n 0, 1)) ∧ (decode cX7_add 40 = .ok (.dup, 1)) ∧ (decode cX7_add 41 = .ok (.getfield 21, 3)) ∧ (decode cX7_add 44 = .ok (.iconst 1, 1)) ∧ (decode cX7_add 45 = .ok (.iadd, 1)) ∧ (decode cX7_add 46 = .ok (.putfield 21, 3)) ∧ (decode cX7_add 49 = .ok (.return_, 1)) := by decide +kernel
theorem dX7_add_37 : decode cX7_add 37 = .ok (.iload_n 3, 1) := bdX7_add_37.1
theorem dX7_add_38 : decode cX7_add 38 = .ok (.iastore, 1) := bdX7_add_37.2.1
theorem dX7_add_39 : decode cX7_add 39 = .ok (.aload_n 0, 1) := bdX7_add_37.2.2.1
theorem dX7_add_40 : decode cX7_add 40 = .ok (.dup, 1) := bdX7_add_37.2.2.2.1
theorem dX7_add_41 : decode cX7_add 41 = .ok (.getfield 21, 3) := bdX7_add_37.2.2.2.2.1
theorem dX7_add_44 : decode cX7_add 44 = .ok (.iconst 1, 1) := bdX7_add_37.2.2.2.2.2.1
theorem dX7_add_45 : decode cX7_add 45 = .ok (.iadd, 1) := bdX7_add_37.2.2.2.2.2.2.1
theorem dX7_add_46 : decode cX7_add 46 = .ok (.putfield 21, 3) := bdX7_add_37.2.2.2.2.2.2.2.1
theorem dX7_add_49 : decode cX7_add 49 = .ok (.return_, 1) := bdX7_add_37.2.2.2.2.2.2.2.2
theorem bdX7_copyFrom_0 : (decode cX7_copyFrom 0 = .ok (.iconst 0, 1)) ∧ (decode cX7_copyFrom 1 = .ok (.istore_n 2, 1)) ∧ (decode cX7_copyFrom 2 = .ok (.iload_n 2, 1)) ∧ (decode cX7_copyFrom 3 = .ok (.bipush 8, 2)) ∧ (decode cX7_copyFrom 5 = .ok (.if_icmp .ge 45, 3)) ∧ (decode cX7_copyFrom 8 = .ok (.aload_n 0, 1)) ∧ (decode cX7_copyFrom 9 = .ok (.getfield 9, 3)) ∧ (decode cX7_copyFrom 12 = .ok (.iload_n 2, 1)) ∧ (decode cX7_copyFrom 13 = .ok (.aload_n 1, 1)) ∧ (decode cX7_copyFrom 14 = .ok (.getfield 9, 3)) := by decide +kernel
theorem dX7_copyFrom_0 : decode cX7_copyFrom 0 = .ok (.iconst 0, 1) := bdX7_copyFrom_0.1
theorem dX7_copyFrom_1 : decode cX7_copyFrom 1 = .ok (.istore_n 2, 1) := bdX7_copyFrom_0.2.1
theorem dX7_copyFrom_2 : decode cX7_copyFrom 2 = .ok (.iload_n 2, 1) := bdX7_copyFrom_0.2.2.1
theorem dX7_copyFrom_3 : decode cX7_copyFrom 3 = .ok (.bipush 8, 2) := bdX7_copyFrom_0.2.2.2.1
theorem dX7_copyFrom_5 : decode cX7_copyFrom 5 = .ok (.if_icmp .ge 45, 3) := bdX7_copyFrom_0.2.2.2.2.1
theorem dX7_copyFrom_8 : decode cX7_copyFrom 8 = .ok (.aload_n 0, 1) := bdX7_copyFrom_0.2.2.2.2.2.1
theorem dX7_copyFrom_9 : decode cX7_copyFrom 9 = .ok (.getfield 9, 3) := bdX7_copyFrom_0.2.2.2.2.2.2.1
theorem dX7_copyFrom_12 : decode cX7_copyFrom 12 = .ok (.iload_n 2, 1) := bdX7_copyFrom_0.2.2.2.2.2.2.2.1
theorem dX7_copyFrom_13 : decode cX7_copyFrom 13 = .ok (.aload_n 1, 1) := bdX7_copyFrom_0.2.2.2.2.2.2.2.2.1
theorem dX7_copyFrom_14 : decode cX7_copyFrom 14 = .ok (.getfield 9, 3) := bdX7_copyFrom_0.2.2.2.2.2.2.2.2.2
theorem bdX7_copyFrom_17 : (decode cX7_copyFrom 17 = .ok (.iload_n 2, 1)) ∧ (decode cX7_copyFrom 18 = .ok (.iaload, 1)) ∧ (decode cX7_copyFrom 19 = .ok (.iastore, 1)) ∧ (decode cX7_copyFrom 20 = .ok (.aload_n 0, 1)) ∧ (decode cX7_copyFrom 21 = .ok (.getfield 15, 3)) ∧ (decode cX7_copyFrom 24 = .ok (.iload_n 2, 1)) ∧ (decode cX7_copyFrom 25 = .ok (.aload_n 1, 1)) ∧ (decode cX7_copyFrom 26 = .ok (.getfield 15, 3)) ∧ (decode cX7_copyFrom 29 = .ok (.iload_n 2, 1)) ∧ (decode cX7_copyFrom 30 = .ok (.iaload, 1)) := by decide +kernel
theorem dX7_copyFrom_17 : decode cX7_copyFrom 17 = .ok (.iload_n 2, 1) := bdX7_copyFrom_17.1
theorem dX7_copyFrom_18 : decode cX7_copyFrom 18 = .ok (.iaload, 1) := bdX7_copyFrom_17.2.1
theorem dX7_copyFrom_19 : decode cX7_copyFrom 19 = .ok (.iastore, 1) := bdX7_copyFrom_17.2.2.1
theorem dX7_copyFrom_20 : decode cX7_copyFrom 20 = .ok (.aload_n 0, 1) := bdX7_copyFrom_17.2.2.2.1
theorem dX7_copyFrom_21 : decode cX7_copyFrom 21 = .ok (.getfield 15, 3) := bdX7_copyFrom_17.2.2.2.2.1
theorem dX7_copyFrom_24 : decode cX7_copyFrom 24 = .ok (.iload_n 2, 1) := bdX7_copyFrom_17.2.2.2.2.2.1
theorem dX7_copyFrom_25 : decode cX7_copyFrom 25 = .ok (.aload_n 1, 1) := bdX7_copyFrom_17.2.2.2.2.2.2.1
theorem dX7_copyFrom_26 : decode cX7_copyFrom 26 = .ok (.getfield 15, 3) := bdX7_copyFrom_17.2.2.2.2.2.2.2.1
theorem dX7_copyFrom_29 : decode cX7_copyFrom 29 = .ok (.iload_n 2, 1) := bdX7_copyFrom_17.2.2.2.2.2.2.2.2.1
theorem dX7_copyFrom_30 : decode cX7_copyFrom 30 = .ok (.iaload, 1) := bdX7_copyFrom_17.2.2.2.2.2.2.2.2.2
theorem bdX7_copyFrom_31 : (decode cX7_copyFrom 31 = .ok (.iastore, 1)) ∧ (decode cX7_copyFrom 32 = .ok (.aload_n 0, 1)) ∧ (decode cX7_copyFrom 33 = .ok (.getfield 18, 3)) ∧ (decode cX7_copyFrom 36 = .ok (.iload_n 2, 1)) ∧ (decode cX7_copyFrom 37 = .ok (.aload_n 1, 1)) ∧ (decode cX7_copyFrom 38 = .ok (.getfield 18, 3)) ∧ (decode cX7_copyFrom 41 = .ok (.iload_n 2, 1)) ∧ (decode cX7_copyFrom 42 = .ok (.iaload, 1)) ∧ (decode cX7_copyFrom 43 = .ok (.iastore, 1)) ∧ (decode cX7_copyFrom 44 = .ok (.iinc 2 1, 3)) := by decide +kernel
theorem dX7_copyFrom_31 : decode cX7_copyFrom 31 = .ok (.iastore, 1) := bdX7_copyFrom_31.1
theorem dX7_copyFrom_32 : decode cX7_copyFrom 32 = .ok (.aload_n 0, 1) := bdX7_copyFrom_31.2.1
theorem dX7_copyFrom_33 : decode cX7_copyFrom 33 = .ok (.getfield 18, 3) := bdX7_copyFrom_31.2.2.1
theorem dX7_copyFrom_36 : decode cX7_copyFrom 36 = .ok (.iload_n 2, 1) := bdX7_copyFrom_31.2.2.2.1
theorem dX7_copyFrom_37 : decode cX7_copyFrom 37 = .ok (.aload_n 1, 1) := bdX7_copyFrom_31.2.2.2.2.1
theorem dX7_copyFrom_38 : decode cX7_copyFrom 38 = .ok (.getfield 18, 3) := bdX7_copyFrom_31.2.2.2.2.2.1
theorem dX7_copyFrom_41 : decode cX7_copyFrom 41 = .ok (.iload_n 2, 1) := bdX7_copyFrom_31.2.2.2.2.2.2.1
theorem dX7_copyFrom_42 : decode cX7_copyFrom 42 = .ok (.iaload, 1) := bdX7_copyFrom_31.2.2.2.2.2.2.2.1
theorem dX7_copyFrom_43 : decode cX7_copyFrom 43 = .ok (.iastore, 1) := bdX7_copyFrom_31.2.2.2.2.2.2.2.2.1
theorem dX7_copyFrom_44 : decode cX7_copyFrom 44 = .ok (.iinc 2 1, 3) := bdX7_copyFrom_31.2.2.2.2.2.2.2.2.2
theorem bdX7_copyFrom_47 : (decode cX7_copyFrom 47 = .ok (.goto (-45), 3)) ∧ (decode cX7_copyFrom 50 = .ok (.aload_n 0, 1)) ∧ (decode cX7_copyFrom 51 = .ok (.aload_n 1, 1)) ∧ (decode cX7_copyFrom 52 = .ok (.getfield 21, 3)) ∧ (decode cX7_copyFrom 55 = .ok (.putfield 21, 3)) ∧ (decode cX7_copyFrom 58 = .ok (.return_, 1)) := by decide +kernel
theorem dX7_copyFrom_47 : decode cX7_copyFrom 47 = .ok (.goto (-45), 3) := bdX7_copyFrom_47.1
theorem dX7_copyFrom_50 : decode cX7_copyFrom 50 = .ok (.aload_n 0, 1) := bdX7_copyFrom_47.2.1
theorem dX7_copyFrom_51 : decode cX7_copyFrom 51 = .ok (.aload_n 1, 1) := bdX7_copyFrom_47.2.2.1
theorem dX7_copyFrom_52 : decode cX7_copyFrom 52 = .ok (.getfield 21, 3) := bdX7_copyFrom_47.2.2.2.1
theorem dX7_copyFrom_55 : decode cX7_copyFrom 55 = .ok (.putfield 21, 3) := bdX7_copyFrom_47.2.2.2.2.1
theorem dX7_copyFrom_58 : decode cX7_copyFrom 58 = .ok (.return_, 1) := bdX7_copyFrom_47.2.2.2.2.2
theorem bdX8_init_0 : (decode cX8_init 0 = .ok (.aload_n 0, 1)) ∧ (decode cX8_init 1 = .ok (.invokespecial 3, 3)) ∧ (decode cX8_init 4 = .ok (.aload_n 0, 1)) ∧ (decode cX8_init 5 = .ok (.bipush 10, 2)) ∧ (decode cX8_init 7 = .ok (.putfield 9, 3)) ∧ (decode cX8_init 10 = .ok (.aload_n 0, 1)) ∧ (decode cX8_init 11 = .ok (.bipush 10, 2)) ∧ (decode cX8_init 13 = .ok (.putfield 15, 3)) ∧ (decode cX8_init 16 = .ok (.aload_n 0, 1)) ∧ (decode cX8_init 17 = .ok (.bipush 8, 2)) := by decide +kernel
theorem dX8_init_0 : decode cX8_init 0 = .ok (.aload_n 0, 1) := bdX8_init_0.1
theorem dX8_init_1 : decode cX8_init 1 = .ok (.invokespecial 3, 3) := bdX8_init_0.2.1
theorem dX8_init_4 : decode cX8_init 4 = .ok (.aload_n 0, 1) := bdX8_init_0.2.2.1
theorem dX8_init_5 : decode cX8_init 5 = .ok (.bipush 10, 2) := bdX8_init_0.2.2.2.1
theorem dX8_init_7 : decode cX8_init 7 = .ok (.putfield 9, 3) := bdX8_init_0.2.2.2.2.1
theorem dX8_init_10 : decode cX8_init 10 = .ok (.aload_n 0, 1) := bdX8_init_0.2.2.2.2.2.1
theorem dX8_init_11 : decode cX8_init 11 = .ok (.bipush 10, 2) := bdX8_init_0.2.2.2.2.2.2.1
theorem dX8_init_13 : decode cX8_init 13 = .ok (.putfield 15, 3) := bdX8_init_0.2.2.2.2.2.2.2.1
theorem dX8_init_16 : decode cX8_init 16 = .ok (.aload_n 0, 1) := bdX8_init_0.2.2.2.2.2.2.2.2.1
theorem dX8_init_17 : decode cX8_init 17 = .ok (.bipush 8, 2) := bdX8_init_0.2.2.2.2.2.2.2.2.2
theorem bdX8_init_19 : (decode cX8_init 19 = .ok (.newarray .int, 2)) ∧ (decode cX8_init 21 = .ok (.putfield 18, 3)) ∧ (decode cX8_init 24 = .ok (.aload_n 0, 1)) ∧ (decode cX8_init 25 = .ok (.bipush 8, 2)) ∧ (decode cX8_init 27 = .ok (.newarray .int, 2)) ∧ (decode cX8_init 29 = .ok (.putfield 22, 3)) ∧ (decode cX8_init 32 = .ok (.aload_n 0, 1)) ∧ (decode cX8_init 33 = .ok (.bipush 8, 2)) ∧ (decode cX8_init 35 = .ok (.newarray .int, 2)) ∧ (decode cX8_init 37 = .ok (.putfield 25, 3)) := by decide +kernel
theorem dX8_init_19 : decode cX8_init 19 = .ok (.newarray .int, 2) := bdX8_init_19.1
theorem dX8_init_21 : decode cX8_init 21 = .ok (.putfield 18, 3) := bdX8_init_19.2.1
theorem dX8_init_24 : decode cX8_init 24 = .ok (.aload_n 0, 1) := bdX8_init_19.2.2.1
theorem dX8_init_25 : decode cX8_init 25 = .ok (.bipush 8, 2) := bdX8_init_19.2.2.2.1
theorem dX8_init_27 : decode cX8_init 27 = .ok (.newarray .int, 2) := bdX8_init_19.2.2.2.2.1
theorem dX8_init_29 : decode cX8_init 29 = .ok (.putfield 22, 3) := bdX8_init_19.2.2.2.2.2.1
theorem dX8_init_32 : decode cX8_init 32 = .ok (.aload_n 0, 1) := bdX8_init_19.2.2.2.2.2.2.1
theorem dX8_init_33 : decode cX8_init 33 = .ok (.bipush 8, 2) := bdX8_init_19.2.2.2.2.2.2.2.1
theorem dX8_init_35 : decode cX8_init 35 = .ok (.newarray .int, 2) := bdX8_init_19.2.2.2.2.2.2.2.2.1
theorem dX8_init_37 : decode cX8_init 37 = .ok (.putfield 25, 3) := bdX8_init_19.2.2.2.2.2.2.2.2.2
theorem bdX8_init_40 : (decode cX8_init 40 = .ok (.return_, 1)) := by decide +kernel
theorem dX8_init_40 : decode cX8_init 40 = .ok (.return_, 1) := bdX8_init_40
theorem bdX8_begin_0 : (decode cX8_begin 0 = .ok (.aload_n 0, 1)) ∧ (decode cX8_begin 1 = .ok (.iconst 0, 1)) ∧ (decode cX8_begin 2 = .ok (.putfield 28, 3)) ∧ (decode cX8_begin 5 = .ok (.aload_n 0, 1)) ∧ (decode cX8_begin 6 = .ok (.aload_n 1, 1)) ∧ (decode cX8_begin 7 = .ok (.getfield 31, 3)) ∧ (decode cX8_begin 10 = .ok (.putfield 9, 3)) ∧ (decode cX8_begin 13 = .ok (.aload_n 0, 1)) ∧ (decode cX8_begin 14 = .ok (.aload_n 1, 1)) ∧ (decode cX8_begin 15 = .ok (.getfield 34, 3)) := by decide +kernel
theorem dX8_begin_0 : decode cX8_begin 0 = .ok (.aload_n 0, 1) := bdX8_begin_0.1
theorem dX8_begin_1 : decode cX8_begin 1 = .ok (.iconst 0, 1) := bdX8_begin_0.2.1
theorem dX8_begin_2 : decode cX8_begin 2 = .ok (.putfield 28, 3) := bdX8_begin_0.2.2.1
theorem dX8_begin_5 : decode cX8_begin 5 = .ok (.aload_n 0, 1) := bdX8_begin_0.2.2.2.1
theorem dX8_begin_6 : decode cX8_begin 6 = .ok (.aload_n 1, 1) := bdX8_begin_0.2.2.2.2.1
theorem dX8_begin_7 : decode cX8_begin 7 = .ok (.getfield 31, 3) := bdX8_begin_0.2.2.2.2.2.1
theorem dX8_begin_10 : decode cX8_begin 10 = .ok (.putfield 9, 3) := bdX8_begin_0.2.2.2.2.2.2.1
theorem dX8_begin_13 : decode cX8_begin 13 = .ok (.aload_n 0, 1) := bdX8_begin_0.2.2.2.2.2.2.2.1
theorem dX8_begin_14 : decode cX8_begin 14 = .ok (.aload_n 1, 1) := bdX8_begin_0.2.2.2.2.2.2.2.2.1
theorem dX8_begin_15 : decode cX8_begin 15 = .ok (.getfield 34, 3) := bdX8_begin_0.2.2.2.2.2.2.2.2.2
theorem bdX8_begin_18 : (decode cX8_begin 18 = .ok (.putfield 15, 3)) ∧ (decode cX8_begin 21 = .ok (.aload_n 0, 1)) ∧ (decode cX8_begin 22 = .ok (.iconst 0, 1)) ∧ (decode cX8_begin 23 = .ok (.putfield 35, 3)) ∧ (decode cX8_begin 26 = .ok (.aload_n 0, 1)) ∧ (decode cX8_begin 27 = .ok (.iconst 0, 1)) ∧ (decode cX8_begin 28 = .ok (.putfield 38, 3)) ∧ (decode cX8_begin 31 = .ok (.iconst 0, 1)) ∧ (decode cX8_begin 32 = .ok (.istore_n 2, 1)) ∧ (decode cX8_begin 33 = .ok (.iload_n 2, 1)) := by decide +kernel
theorem dX8_begin_18 : decode cX8_begin 18 = .ok (.putfield 15, 3) := bdX8_begin_18.1
theorem dX8_begin_21 : decode cX8_begin 21 = .ok (.aload_n 0, 1) := bdX8_begin_18.2.1
theorem dX8_begin_22 : decode cX8_begin 22 = .ok (.iconst 0, 1) := bdX8_begin_18.2.2.1
theorem dX8_begin_23 : decode cX8_begin 23 = .ok (.putfield 35, 3) := bdX8_begin_18.2.2.2.1
theorem dX8_begin_26 : decode cX8_begin 26 = .ok (.aload_n 0, 1) := bdX8_begin_18.2.2.2.2.1
theorem dX8_begin_27 : decode cX8_begin 27 = .ok (.iconst 0, 1) := bdX8_begin_18.2.2.2.2.2.1
theorem dX8_begin_28 : decode cX8_begin 28 = .ok (.putfield 38, 3) := bdX8_begin_18.2.2.2.2.2.2.1
theorem dX8_begin_31 : decode cX8_begin 31 = .ok (.iconst 0, 1) := bdX8_begin_18.2.2.2.2.2.2.2.1
theorem dX8_begin_32 : decode cX8_begin 32 = .ok (.istore_n 2, 1) := bdX8_begin_18.2.2.2.2.2.2.2.2.1
theorem dX8_begin_33 : decode cX8_begin 33 = .ok (.iload_n 2, 1) := bdX8_begin_18.2.2.2.2.2.2.2.2.2
theorem bdX8_begin_34 : (decode cX8_begin 34 = .ok (.bipush 8, 2)) ∧ (decode cX8_begin 36 = .ok (.if_icmp .ge 23, 3)) ∧ (decode cX8_begin 39 = .ok (.aload_n 0, 1)) ∧ (decode cX8_begin 40 = .ok (.getfield 18, 3)) ∧ (decode cX8_begin 43 = .ok (.iload_n 2, 1)) ∧ (decode cX8_begin 44 = .ok (.iload_n 2, 1)) ∧ (decode cX8_begin 45 = .ok (.iastore, 1)) ∧ (decode cX8_begin 46 = .ok (.aload_n 0, 1)) ∧ (decode cX8_begin 47 = .ok (.getfield 22, 3)) ∧ (decode cX8_begin 50 = .ok (.iload_n 2, 1)) := by decide +kernel
theorem dX8_begin_34 : decode cX8_begin 34 = .ok (.bipush 8, 2) := bdX8_begin_34.1
theorem dX8_begin_36 : decode cX8_begin 36 = .ok (.if_icmp .ge 23, 3) := bdX8_begin_34.2.1
theorem dX8_begin_39 : decode cX8_begin 39 = .ok (.aload_n 0, 1) := bdX8_begin_34.2.2.1
theorem dX8_begin_40 : decode cX8_begin 40 = .ok (.getfield 18, 3) := bdX8_begin_34.2.2.2.1
theorem dX8_begin_43 : decode cX8_begin 43 = .ok (.iload_n 2, 1) := bdX8_begin_34.2.2.2.2.1
theorem dX8_begin_44 : decode cX8_begin 44 = .ok (.iload_n 2, 1) := bdX8_begin_34.2.2.2.2.2.1
theorem dX8_begin_45 : decode cX8_begin 45 = .ok (.iastore, 1) := bdX8_begin_34.2.2.2.2.2.2.1
theorem dX8_begin_46 : decode cX8_begin 46 = .ok (.aload_n 0, 1) := bdX8_begin_34.2.2.2.2.2.2.2.1
theorem dX8_begin_47 : decode cX8_begin 47 = .ok (.getfield 22, 3) := bdX8_begin_34.2.2.2.2.2.2.2.2.1
theorem dX8_begin_50 : decode cX8_begin 50 = .ok (.iload_n 2, 1) := bdX8_begin_34.2.2.2.2.2.2.2.2.2
theorem bdX8_begin_51 : (decode cX8_begin 51 = .ok (.iconst (-1), 1)) ∧ (decode cX8_begin 52 = .ok (.iastore, 1)) ∧ (decode cX8_begin 53 = .ok (.iinc 2 1, 3)) ∧ (decode cX8_begin 56 = .ok (.goto (-23), 3)) ∧ (decode cX8_begin 59 = .ok (.aload_n 0, 1)) ∧ (decode cX8_begin 60 = .ok (.invokevirtual 41, 3)) ∧ (decode cX8_begin 63 = .ok (.return_, 1)) := by decide +kernel
theorem dX8_begin_51 : decode cX8_begin 51 = .ok (.iconst (-1), 1) := bdX8_begin_51.1
theorem dX8_begin_52 : decode cX8_begin 52 = .ok (.iastore, 1) := bdX8_begin_51.2.1
theorem dX8_begin_53 : decode cX8_begin 53 = .ok (.iinc 2 1, 3) := bdX8_begin_51.2.2.1
theorem dX8_begin_56 : decode cX8_begin 56 = .ok (.goto (-23), 3) := bdX8_begin_51.2.2.2.1
theorem dX8_begin_59 : decode cX8_begin 59 = .ok (.aload_n 0, 1) := bdX8_begin_51.2.2.2.2.1
theorem dX8_begin_60 : decode cX8_begin 60 = .ok (.invokevirtual 41, 3) := bdX8_begin_51.2.2.2.2.2.1
theorem dX8_begin_63 : decode cX8_begin 63 = .ok (.return_, 1) := bdX8_begin_51.2.2.2.2.2.2
theorem bdX8_beginYears_0 : (decode cX8_beginYears 0 = .ok (.aload_n 0, 1)) ∧ (decode cX8_beginYears 1 = .ok (.iconst 0, 1)) ∧ (decode cX8_beginYears 2 = .ok (.putfield 44, 3)) ∧ (decode cX8_beginYears 5 = .ok (.aload_n 0, 1)) ∧ (decode cX8_beginYears 6 = .ok (.iconst 0, 1)) ∧ (decode cX8_beginYears 7 = .ok (.putfield 47, 3)) ∧ (decode cX8_beginYears 10 = .ok (.iconst 0, 1)) ∧ (decode cX8_beginYears 11 = .ok (.istore_n 1, 1)) ∧ (decode cX8_beginYears 12 = .ok (.iload_n 1, 1)) ∧ (decode cX8_beginYears 13 = .ok (.bipush 8, 2)) := by decide +kernel
theorem dX8_beginYears_0 : decode cX8_beginYears 0 = .ok (.aload_n 0, 1) := bdX8_beginYears_0.1
theorem dX8_beginYears_1 : decode cX8_beginYears 1 = .ok (.iconst 0, 1) := bdX8_beginYears_0.2.1
theorem dX8_beginYears_2 : decode cX8_beginYears 2 = .ok (.putfield 44, 3) := bdX8_beginYears_0.2.2.1
theorem dX8_beginYears_5 : decode cX8_beginYears 5 = .ok (.aload_n 0, 1) := bdX8_beginYears_0.2.2.2.1
theorem dX8_beginYears_6 : decode cX8_beginYears 6 = .ok (.iconst 0, 1) := bdX8_beginYears_0.2.2.2.2.1
theorem dX8_beginYears_7 : decode cX8_beginYears 7 = .ok (.putfield 47, 3) := bdX8_beginYears_0.2.2.2.2.2.1
theorem dX8_beginYears_10 : decode cX8_beginYears 10 = .ok (.iconst 0, 1) := bdX8_beginYears_0.2.2.2.2.2.2.1
theorem dX8_beginYears_11 : decode cX8_beginYears 11 = .ok (.istore_n 1, 1) := bdX8_beginYears_0.2.2.2.2.2.2.2.1
theorem dX8_beginYears_12 : decode cX8_beginYears 12 = .ok (.iload_n 1, 1) := bdX8_beginYears_0.2.2.2.2.2.2.2.2.1
theorem dX8_beginYears_13 : decode cX8_beginYears 13 = .ok (.bipush 8, 2) := bdX8_beginYears_0.2.2.2.2.2.2.2.2.2
theorem bdX8_beginYears_15 : (decode cX8_beginYears 15 = .ok (.if_icmp .ge 16, 3)) ∧ (decode cX8_beginYears 18 = .ok (.aload_n 0, 1)) ∧ (decode cX8_beginYears 19 = .ok (.getfield 25, 3)) ∧ (decode cX8_beginYears 22 = .ok (.iload_n 1, 1)) ∧ (decode cX8_beginYears 23 = .ok (.iconst 0, 1)) ∧ (decode cX8_beginYears 24 = .ok (.iastore, 1)) ∧ (decode cX8_beginYears 25 = .ok (.iinc 1 1, 3)) ∧ (decode cX8_beginYears 28 = .ok (.goto (-16), 3)) ∧ (decode cX8_beginYears 31 = .ok (.return_, 1)) := by decide +kernel
theorem dX8_beginYears_15 : decode cX8_beginYears 15 = .ok (.if_icmp .ge 16, 3) := bdX8_beginYears_15.1
theorem dX8_beginYears_18 : decode cX8_beginYears 18 = .ok (.aload_n 0, 1) := bdX8_beginYears_15.2.1
theorem dX8_beginYears_19 : decode cX8_beginYears 19 = .ok (.getfield 25, 3) := bdX8_beginYears_15.2.2.1
theorem dX8_beginYears_22 : decode cX8_beginYears 22 = .ok (.iload_n 1, 1) := bdX8_beginYears_15.2.2.2.1
theorem dX8_beginYears_23 : decode cX8_beginYears 23 = .ok (.iconst 0, 1) := bdX8_beginYears_15.2.2.2.2.1
theorem dX8_beginYears_24 : decode cX8_beginYears 24 = .ok (.iastore, 1) := bdX8_beginYears_15.2.2.2.2.2.1
theorem dX8_beginYears_25 : decode cX8_beginYears 25 = .ok (.iinc 1 1, 3) := bdX8_beginYears_15.2.2.2.2.2.2.1
theorem dX8_beginYears_28 : decode cX8_beginYears 28 = .ok (.goto (-16), 3) := bdX8_beginYears_15.2.2.2.2.2.2.2.1
theorem dX8_beginYears_31 : decode cX8_beginYears 31 = .ok (.return_, 1) := bdX8_beginYears_15.2.2.2.2.2.2.2.2
theorem bdX8_lotOf_0 : (decode cX8_lotOf 0 = .ok (.aload_n 0, 1)) ∧ (decode cX8_lotOf 1 = .ok (.getfield 28, 3)) ∧ (decode cX8_lotOf 4 = .ok (.iload_n 1, 1)) ∧ (decode cX8_lotOf 5 = .ok (.ishr, 1)) ∧ (decode cX8_lotOf 6 = .ok (.iconst 1, 1)) ∧ (decode cX8_lotOf 7 = .ok (.iand, 1)) ∧ (decode cX8_lotOf 8 = .ok (.ireturn, 1)) := by decide +kernel
theorem dX8_lotOf_0 : decode cX8_lotOf 0 = .ok (.aload_n 0, 1) := bdX8_lotOf_0.1
theorem dX8_lotOf_1 : decode cX8_lotOf 1 = .ok (.getfield 28, 3) := bdX8_lotOf_0.2.1
theorem dX8_lotOf_4 : decode cX8_lotOf 4 = .ok (.iload_n 1, 1) := bdX8_lotOf_0.2.2.1
theorem dX8_lotOf_5 : decode cX8_lotOf 5 = .ok (.ishr, 1) := bdX8_lotOf_0.2.2.2.1
theorem dX8_lotOf_6 : decode cX8_lotOf 6 = .ok (.iconst 1, 1) := bdX8_lotOf_0.2.2.2.2.1
theorem dX8_lotOf_7 : decode cX8_lotOf 7 = .ok (.iand, 1) := bdX8_lotOf_0.2.2.2.2.2.1
theorem dX8_lotOf_8 : decode cX8_lotOf 8 = .ok (.ireturn, 1) := bdX8_lotOf_0.2.2.2.2.2.2
theorem bdX8_isGone_0 : (decode cX8_isGone 0 = .ok (.aload_n 0, 1)) ∧ (decode cX8_isGone 1 = .ok (.getfield 47, 3)) ∧ (decode cX8_isGone 4 = .ok (.iload_n 1, 1)) ∧ (decode cX8_isGone 5 = .ok (.ishr, 1)) ∧ (decode cX8_isGone 6 = .ok (.iconst 1, 1)) ∧ (decode cX8_isGone 7 = .ok (.iand, 1)) ∧ (decode cX8_isGone 8 = .ok (.ifCond .eq 7, 3)) ∧ (decode cX8_isGone 11 = .ok (.iconst 1, 1)) ∧ (decode cX8_isGone 12 = .ok (.goto 4, 3)) ∧ (decode cX8_isGone 15 = .ok (.iconst 0, 1)) := by decide +kernel
theorem dX8_isGone_0 : decode cX8_isGone 0 = .ok (.aload_n 0, 1) := bdX8_isGone_0.1
theorem dX8_isGone_1 : decode cX8_isGone 1 = .ok (.getfield 47, 3) := bdX8_isGone_0.2.1
theorem dX8_isGone_4 : decode cX8_isGone 4 = .ok (.iload_n 1, 1) := bdX8_isGone_0.2.2.1
theorem dX8_isGone_5 : decode cX8_isGone 5 = .ok (.ishr, 1) := bdX8_isGone_0.2.2.2.1
theorem dX8_isGone_6 : decode cX8_isGone 6 = .ok (.iconst 1, 1) := bdX8_isGone_0.2.2.2.2.1
theorem dX8_isGone_7 : decode cX8_isGone 7 = .ok (.iand, 1) := bdX8_isGone_0.2.2.2.2.2.1
theorem dX8_isGone_8 : decode cX8_isGone 8 = .ok (.ifCond .eq 7, 3) := bdX8_isGone_0.2.2.2.2.2.2.1
theorem dX8_isGone_11 : decode cX8_isGone 11 = .ok (.iconst 1, 1) := bdX8_isGone_0.2.2.2.2.2.2.2.1
theorem dX8_isGone_12 : decode cX8_isGone 12 = .ok (.goto 4, 3) := bdX8_isGone_0.2.2.2.2.2.2.2.2.1
theorem dX8_isGone_15 : decode cX8_isGone 15 = .ok (.iconst 0, 1) := bdX8_isGone_0.2.2.2.2.2.2.2.2.2
theorem bdX8_isGone_16 : (decode cX8_isGone 16 = .ok (.ireturn, 1)) := by decide +kernel
theorem dX8_isGone_16 : decode cX8_isGone 16 = .ok (.ireturn, 1) := bdX8_isGone_16
theorem bdX8_turnLot_0 : (decode cX8_turnLot 0 = .ok (.aload_n 0, 1)) ∧ (decode cX8_turnLot 1 = .ok (.dup, 1)) ∧ (decode cX8_turnLot 2 = .ok (.getfield 28, 3)) ∧ (decode cX8_turnLot 5 = .ok (.iconst 1, 1)) ∧ (decode cX8_turnLot 6 = .ok (.iload_n 1, 1)) ∧ (decode cX8_turnLot 7 = .ok (.ishl, 1)) ∧ (decode cX8_turnLot 8 = .ok (.ixor, 1)) ∧ (decode cX8_turnLot 9 = .ok (.putfield 28, 3)) ∧ (decode cX8_turnLot 12 = .ok (.return_, 1)) := by decide +kernel
theorem dX8_turnLot_0 : decode cX8_turnLot 0 = .ok (.aload_n 0, 1) := bdX8_turnLot_0.1
theorem dX8_turnLot_1 : decode cX8_turnLot 1 = .ok (.dup, 1) := bdX8_turnLot_0.2.1
theorem dX8_turnLot_2 : decode cX8_turnLot 2 = .ok (.getfield 28, 3) := bdX8_turnLot_0.2.2.1
theorem dX8_turnLot_5 : decode cX8_turnLot 5 = .ok (.iconst 1, 1) := bdX8_turnLot_0.2.2.2.1
theorem dX8_turnLot_6 : decode cX8_turnLot 6 = .ok (.iload_n 1, 1) := bdX8_turnLot_0.2.2.2.2.1
theorem dX8_turnLot_7 : decode cX8_turnLot 7 = .ok (.ishl, 1) := bdX8_turnLot_0.2.2.2.2.2.1
theorem dX8_turnLot_8 : decode cX8_turnLot 8 = .ok (.ixor, 1) := bdX8_turnLot_0.2.2.2.2.2.2.1
theorem dX8_turnLot_9 : decode cX8_turnLot 9 = .ok (.putfield 28, 3) := bdX8_turnLot_0.2.2.2.2.2.2.2.1
theorem dX8_turnLot_12 : decode cX8_turnLot 12 = .ok (.return_, 1) := bdX8_turnLot_0.2.2.2.2.2.2.2.2
theorem bdX8_storeAndEat_0 : (decode cX8_storeAndEat 0 = .ok (.iload_n 1, 1)) ∧ (decode cX8_storeAndEat 1 = .ok (.ifCond .lt 9, 3)) ∧ (decode cX8_storeAndEat 4 = .ok (.iload_n 1, 1)) ∧ (decode cX8_storeAndEat 5 = .ok (.bipush 8, 2)) ∧ (decode cX8_storeAndEat 7 = .ok (.if_icmp .lt 4, 3)) ∧ (decode cX8_storeAndEat 10 = .ok (.return_, 1)) ∧ (decode cX8_storeAndEat 11 = .ok (.iload_n 2, 1)) ∧ (decode cX8_storeAndEat 12 = .ok (.bipush 10, 2)) ∧ (decode cX8_storeAndEat 14 = .ok (.idiv, 1)) ∧ (decode cX8_storeAndEat 15 = .ok (.istore 4, 2)) := by decide +kernel
theorem dX8_storeAndEat_0 : decode cX8_storeAndEat 0 = .ok (.iload_n 1, 1) := bdX8_storeAndEat_0.1
theorem dX8_storeAndEat_1 : decode cX8_storeAndEat 1 = .ok (.ifCond .lt 9, 3) := bdX8_storeAndEat_0.2.1
theorem dX8_storeAndEat_4 : decode cX8_storeAndEat 4 = .ok (.iload_n 1, 1) := bdX8_storeAndEat_0.2.2.1
theorem dX8_storeAndEat_5 : decode cX8_storeAndEat 5 = .ok (.bipush 8, 2) := bdX8_storeAndEat_0.2.2.2.1
theorem dX8_storeAndEat_7 : decode cX8_storeAndEat 7 = .ok (.if_icmp .lt 4, 3) := bdX8_storeAndEat_0.2.2.2.2.1
theorem dX8_storeAndEat_10 : decode cX8_storeAndEat 10 = .ok (.return_, 1) := bdX8_storeAndEat_0.2.2.2.2.2.1
theorem dX8_storeAndEat_11 : decode cX8_storeAndEat 11 = .ok (.iload_n 2, 1) := bdX8_storeAndEat_0.2.2.2.2.2.2.1
theorem dX8_storeAndEat_12 : decode cX8_storeAndEat 12 = .ok (.bipush 10, 2) := bdX8_storeAndEat_0.2.2.2.2.2.2.2.1
theorem dX8_storeAndEat_14 : decode cX8_storeAndEat 14 = .ok (.idiv, 1) := bdX8_storeAndEat_0.2.2.2.2.2.2.2.2.1
theorem dX8_storeAndEat_15 : decode cX8_storeAndEat 15 = .ok (.istore 4, 2) := bdX8_storeAndEat_0.2.2.2.2.2.2.2.2.2
theorem bdX8_storeAndEat_17 : (decode cX8_storeAndEat 17 = .ok (.aload_n 0, 1)) ∧ (decode cX8_storeAndEat 18 = .ok (.dup, 1)) ∧ (decode cX8_storeAndEat 19 = .ok (.getfield 35, 3)) ∧ (decode cX8_storeAndEat 22 = .ok (.iload 4, 2)) ∧ (decode cX8_storeAndEat 24 = .ok (.iadd, 1)) ∧ (decode cX8_storeAndEat 25 = .ok (.putfield 35, 3)) ∧ (decode cX8_storeAndEat 28 = .ok (.sipush 999, 3)) ∧ (decode cX8_storeAndEat 31 = .ok (.aload_n 0, 1)) ∧ (decode cX8_storeAndEat 32 = .ok (.getfield 25, 3)) ∧ (decode cX8_storeAndEat 35 = .ok (.iload_n 1, 1)) := by decide +kernel
theorem dX8_storeAndEat_17 : decode cX8_storeAndEat 17 = .ok (.aload_n 0, 1) := bdX8_storeAndEat_17.1
theorem dX8_storeAndEat_18 : decode cX8_storeAndEat 18 = .ok (.dup, 1) := bdX8_storeAndEat_17.2.1
theorem dX8_storeAndEat_19 : decode cX8_storeAndEat 19 = .ok (.getfield 35, 3) := bdX8_storeAndEat_17.2.2.1
theorem dX8_storeAndEat_22 : decode cX8_storeAndEat 22 = .ok (.iload 4, 2) := bdX8_storeAndEat_17.2.2.2.1
theorem dX8_storeAndEat_24 : decode cX8_storeAndEat 24 = .ok (.iadd, 1) := bdX8_storeAndEat_17.2.2.2.2.1
theorem dX8_storeAndEat_25 : decode cX8_storeAndEat 25 = .ok (.putfield 35, 3) := bdX8_storeAndEat_17.2.2.2.2.2.1
theorem dX8_storeAndEat_28 : decode cX8_storeAndEat 28 = .ok (.sipush 999, 3) := bdX8_storeAndEat_17.2.2.2.2.2.2.1
theorem dX8_storeAndEat_31 : decode cX8_storeAndEat 31 = .ok (.aload_n 0, 1) := bdX8_storeAndEat_17.2.2.2.2.2.2.2.1
theorem dX8_storeAndEat_32 : decode cX8_storeAndEat 32 = .ok (.getfield 25, 3) := bdX8_storeAndEat_17.2.2.2.2.2.2.2.2.1
theorem dX8_storeAndEat_35 : decode cX8_storeAndEat 35 = .ok (.iload_n 1, 1) := bdX8_storeAndEat_17.2.2.2.2.2.2.2.2.2
theorem bdX8_storeAndEat_36 : (decode cX8_storeAndEat 36 = .ok (.iaload, 1)) ∧ (decode cX8_storeAndEat 37 = .ok (.iload_n 2, 1)) ∧ (decode cX8_storeAndEat 38 = .ok (.iadd, 1)) ∧ (decode cX8_storeAndEat 39 = .ok (.iload 4, 2)) ∧ (decode cX8_storeAndEat 41 = .ok (.isub, 1)) ∧ (decode cX8_storeAndEat 42 = .ok (.invokestatic 50, 3)) ∧ (decode cX8_storeAndEat 45 = .ok (.istore 5, 2)) ∧ (decode cX8_storeAndEat 47 = .ok (.iload 5, 2)) ∧ (decode cX8_storeAndEat 49 = .ok (.iload_n 3, 1)) ∧ (decode cX8_storeAndEat 50 = .ok (.if_icmp .ge 25, 3)) := by decide +kernel
theorem dX8_storeAndEat_36 : decode cX8_storeAndEat 36 = .ok (.iaload, 1) := bdX8_storeAndEat_36.1
theorem dX8_storeAndEat_37 : decode cX8_storeAndEat 37 = .ok (.iload_n 2, 1) := bdX8_storeAndEat_36.2.1
theorem dX8_storeAndEat_38 : decode cX8_storeAndEat 38 = .ok (.iadd, 1) := bdX8_storeAndEat_36.2.2.1
theorem dX8_storeAndEat_39 : decode cX8_storeAndEat 39 = .ok (.iload 4, 2) := bdX8_storeAndEat_36.2.2.2.1
theorem dX8_storeAndEat_41 : decode cX8_storeAndEat 41 = .ok (.isub, 1) := bdX8_storeAndEat_36.2.2.2.2.1
theorem dX8_storeAndEat_42 : decode cX8_storeAndEat 42 = .ok (.invokestatic 50, 3) := bdX8_storeAndEat_36.2.2.2.2.2.1
theorem dX8_storeAndEat_45 : decode cX8_storeAndEat 45 = .ok (.istore 5, 2) := bdX8_storeAndEat_36.2.2.2.2.2.2.1
theorem dX8_storeAndEat_47 : decode cX8_storeAndEat 47 = .ok (.iload 5, 2) := bdX8_storeAndEat_36.2.2.2.2.2.2.2.1
theorem dX8_storeAndEat_49 : decode cX8_storeAndEat 49 = .ok (.iload_n 3, 1) := bdX8_storeAndEat_36.2.2.2.2.2.2.2.2.1
theorem dX8_storeAndEat_50 : decode cX8_storeAndEat 50 = .ok (.if_icmp .ge 25, 3) := bdX8_storeAndEat_36.2.2.2.2.2.2.2.2.2
theorem bdX8_storeAndEat_53 : (decode cX8_storeAndEat 53 = .ok (.aload_n 0, 1)) ∧ (decode cX8_storeAndEat 54 = .ok (.getfield 25, 3)) ∧ (decode cX8_storeAndEat 57 = .ok (.iload_n 1, 1)) ∧ (decode cX8_storeAndEat 58 = .ok (.iconst 0, 1)) ∧ (decode cX8_storeAndEat 59 = .ok (.iastore, 1)) ∧ (decode cX8_storeAndEat 60 = .ok (.aload_n 0, 1)) ∧ (decode cX8_storeAndEat 61 = .ok (.dup, 1)) ∧ (decode cX8_storeAndEat 62 = .ok (.getfield 47, 3)) ∧ (decode cX8_storeAndEat 65 = .ok (.iconst 1, 1)) ∧ (decode cX8_storeAndEat 66 = .ok (.iload_n 1, 1)) := by decide +kernel
theorem dX8_storeAndEat_53 : decode cX8_storeAndEat 53 = .ok (.aload_n 0, 1) := bdX8_storeAndEat_53.1
theorem dX8_storeAndEat_54 : decode cX8_storeAndEat 54 = .ok (.getfield 25, 3) := bdX8_storeAndEat_53.2.1
theorem dX8_storeAndEat_57 : decode cX8_storeAndEat 57 = .ok (.iload_n 1, 1) := bdX8_storeAndEat_53.2.2.1
theorem dX8_storeAndEat_58 : decode cX8_storeAndEat 58 = .ok (.iconst 0, 1) := bdX8_storeAndEat_53.2.2.2.1
theorem dX8_storeAndEat_59 : decode cX8_storeAndEat 59 = .ok (.iastore, 1) := bdX8_storeAndEat_53.2.2.2.2.1
theorem dX8_storeAndEat_60 : decode cX8_storeAndEat 60 = .ok (.aload_n 0, 1) := bdX8_storeAndEat_53.2.2.2.2.2.1
theorem dX8_storeAndEat_61 : decode cX8_storeAndEat 61 = .ok (.dup, 1) := bdX8_storeAndEat_53.2.2.2.2.2.2.1
theorem dX8_storeAndEat_62 : decode cX8_storeAndEat 62 = .ok (.getfield 47, 3) := bdX8_storeAndEat_53.2.2.2.2.2.2.2.1
theorem dX8_storeAndEat_65 : decode cX8_storeAndEat 65 = .ok (.iconst 1, 1) := bdX8_storeAndEat_53.2.2.2.2.2.2.2.2.1
theorem dX8_storeAndEat_66 : decode cX8_storeAndEat 66 = .ok (.iload_n 1, 1) := bdX8_storeAndEat_53.2.2.2.2.2.2.2.2.2
theorem bdX8_storeAndEat_67 : (decode cX8_storeAndEat 67 = .ok (.ishl, 1)) ∧ (decode cX8_storeAndEat 68 = .ok (.ior, 1)) ∧ (decode cX8_storeAndEat 69 = .ok (.putfield 47, 3)) ∧ (decode cX8_storeAndEat 72 = .ok (.goto 13, 3)) ∧ (decode cX8_storeAndEat 75 = .ok (.aload_n 0, 1)) ∧ (decode cX8_storeAndEat 76 = .ok (.getfield 25, 3)) ∧ (decode cX8_storeAndEat 79 = .ok (.iload_n 1, 1)) ∧ (decode cX8_storeAndEat 80 = .ok (.iload 5, 2)) ∧ (decode cX8_storeAndEat 82 = .ok (.iload_n 3, 1)) ∧ (decode cX8_storeAndEat 83 = .ok (.isub, 1)) := by decide +kernel
theorem dX8_storeAndEat_67 : decode cX8_storeAndEat 67 = .ok (.ishl, 1) := bdX8_storeAndEat_67.1
theorem dX8_storeAndEat_68 : decode cX8_storeAndEat 68 = .ok (.ior, 1) := bdX8_storeAndEat_67.2.1
theorem dX8_storeAndEat_69 : decode cX8_storeAndEat 69 = .ok (.putfield 47, 3) := bdX8_storeAndEat_67.2.2.1
theorem dX8_storeAndEat_72 : decode cX8_storeAndEat 72 = .ok (.goto 13, 3) := bdX8_storeAndEat_67.2.2.2.1
theorem dX8_storeAndEat_75 : decode cX8_storeAndEat 75 = .ok (.aload_n 0, 1) := bdX8_storeAndEat_67.2.2.2.2.1
theorem dX8_storeAndEat_76 : decode cX8_storeAndEat 76 = .ok (.getfield 25, 3) := bdX8_storeAndEat_67.2.2.2.2.2.1
theorem dX8_storeAndEat_79 : decode cX8_storeAndEat 79 = .ok (.iload_n 1, 1) := bdX8_storeAndEat_67.2.2.2.2.2.2.1
theorem dX8_storeAndEat_80 : decode cX8_storeAndEat 80 = .ok (.iload 5, 2) := bdX8_storeAndEat_67.2.2.2.2.2.2.2.1
theorem dX8_storeAndEat_82 : decode cX8_storeAndEat 82 = .ok (.iload_n 3, 1) := bdX8_storeAndEat_67.2.2.2.2.2.2.2.2.1
theorem dX8_storeAndEat_83 : decode cX8_storeAndEat 83 = .ok (.isub, 1) := bdX8_storeAndEat_67.2.2.2.2.2.2.2.2.2
theorem bdX8_storeAndEat_84 : (decode cX8_storeAndEat 84 = .ok (.iastore, 1)) ∧ (decode cX8_storeAndEat 85 = .ok (.return_, 1)) := by decide +kernel
theorem dX8_storeAndEat_84 : decode cX8_storeAndEat 84 = .ok (.iastore, 1) := bdX8_storeAndEat_84.1
theorem dX8_storeAndEat_85 : decode cX8_storeAndEat 85 = .ok (.return_, 1) := bdX8_storeAndEat_84.2
theorem bdX8_moveInOrder_0 : (decode cX8_moveInOrder 0 = .ok (.iload_n 1, 1)) ∧ (decode cX8_moveInOrder 1 = .ok (.ifCond .lt 9, 3)) ∧ (decode cX8_moveInOrder 4 = .ok (.iload_n 1, 1)) ∧ (decode cX8_moveInOrder 5 = .ok (.bipush 8, 2)) ∧ (decode cX8_moveInOrder 7 = .ok (.if_icmp .lt 4, 3)) ∧ (decode cX8_moveInOrder 10 = .ok (.return_, 1)) ∧ (decode cX8_moveInOrder 11 = .ok (.aload_n 0, 1)) ∧ (decode cX8_moveInOrder 12 = .ok (.getfield 18, 3)) ∧ (decode cX8_moveInOrder 15 = .ok (.iload_n 1, 1)) ∧ (decode cX8_moveInOrder 16 = .ok (.iaload, 1)) := by decide +kernel
theorem dX8_moveInOrder_0 : decode cX8_moveInOrder 0 = .ok (.iload_n 1, 1) := bdX8_moveInOrder_0.1
theorem dX8_moveInOrder_1 : decode cX8_moveInOrder 1 = .ok (.ifCond .lt 9, 3) := bdX8_moveInOrder_0.2.1
theorem dX8_moveInOrder_4 : decode cX8_moveInOrder 4 = .ok (.iload_n 1, 1) := bdX8_moveInOrder_0.2.2.1
theorem dX8_moveInOrder_5 : decode cX8_moveInOrder 5 = .ok (.bipush 8, 2) := bdX8_moveInOrder_0.2.2.2.1
theorem dX8_moveInOrder_7 : decode cX8_moveInOrder 7 = .ok (.if_icmp .lt 4, 3) := bdX8_moveInOrder_0.2.2.2.2.1
theorem dX8_moveInOrder_10 : decode cX8_moveInOrder 10 = .ok (.return_, 1) := bdX8_moveInOrder_0.2.2.2.2.2.1
theorem dX8_moveInOrder_11 : decode cX8_moveInOrder 11 = .ok (.aload_n 0, 1) := bdX8_moveInOrder_0.2.2.2.2.2.2.1
theorem dX8_moveInOrder_12 : decode cX8_moveInOrder 12 = .ok (.getfield 18, 3) := bdX8_moveInOrder_0.2.2.2.2.2.2.2.1
theorem dX8_moveInOrder_15 : decode cX8_moveInOrder 15 = .ok (.iload_n 1, 1) := bdX8_moveInOrder_0.2.2.2.2.2.2.2.2.1
theorem dX8_moveInOrder_16 : decode cX8_moveInOrder 16 = .ok (.iaload, 1) := bdX8_moveInOrder_0.2.2.2.2.2.2.2.2.2
theorem bdX8_moveInOrder_17 : (decode cX8_moveInOrder 17 = .ok (.istore_n 3, 1)) ∧ (decode cX8_moveInOrder 18 = .ok (.iconst 0, 1)) ∧ (decode cX8_moveInOrder 19 = .ok (.istore 4, 2)) ∧ (decode cX8_moveInOrder 21 = .ok (.iload 4, 2)) ∧ (decode cX8_moveInOrder 23 = .ok (.bipush 8, 2)) ∧ (decode cX8_moveInOrder 25 = .ok (.if_icmp .ge 53, 3)) ∧ (decode cX8_moveInOrder 28 = .ok (.aload_n 0, 1)) ∧ (decode cX8_moveInOrder 29 = .ok (.getfield 18, 3)) ∧ (decode cX8_moveInOrder 32 = .ok (.iload 4, 2)) ∧ (decode cX8_moveInOrder 34 = .ok (.iaload, 1)) := by decide +kernel
theorem dX8_moveInOrder_17 : decode cX8_moveInOrder 17 = .ok (.istore_n 3, 1) := bdX8_moveInOrder_17.1
theorem dX8_moveInOrder_18 : decode cX8_moveInOrder 18 = .ok (.iconst 0, 1) := bdX8_moveInOrder_17.2.1
theorem dX8_moveInOrder_19 : decode cX8_moveInOrder 19 = .ok (.istore 4, 2) := bdX8_moveInOrder_17.2.2.1
theorem dX8_moveInOrder_21 : decode cX8_moveInOrder 21 = .ok (.iload 4, 2) := bdX8_moveInOrder_17.2.2.2.1
theorem dX8_moveInOrder_23 : decode cX8_moveInOrder 23 = .ok (.bipush 8, 2) := bdX8_moveInOrder_17.2.2.2.2.1
theorem dX8_moveInOrder_25 : decode cX8_moveInOrder 25 = .ok (.if_icmp .ge 53, 3) := bdX8_moveInOrder_17.2.2.2.2.2.1
theorem dX8_moveInOrder_28 : decode cX8_moveInOrder 28 = .ok (.aload_n 0, 1) := bdX8_moveInOrder_17.2.2.2.2.2.2.1
theorem dX8_moveInOrder_29 : decode cX8_moveInOrder 29 = .ok (.getfield 18, 3) := bdX8_moveInOrder_17.2.2.2.2.2.2.2.1
theorem dX8_moveInOrder_32 : decode cX8_moveInOrder 32 = .ok (.iload 4, 2) := bdX8_moveInOrder_17.2.2.2.2.2.2.2.2.1
theorem dX8_moveInOrder_34 : decode cX8_moveInOrder 34 = .ok (.iaload, 1) := bdX8_moveInOrder_17.2.2.2.2.2.2.2.2.2
theorem bdX8_moveInOrder_35 : (decode cX8_moveInOrder 35 = .ok (.iload_n 3, 1)) ∧ (decode cX8_moveInOrder 36 = .ok (.if_icmp .le 14, 3)) ∧ (decode cX8_moveInOrder 39 = .ok (.aload_n 0, 1)) ∧ (decode cX8_moveInOrder 40 = .ok (.getfield 18, 3)) ∧ (decode cX8_moveInOrder 43 = .ok (.iload 4, 2)) ∧ (decode cX8_moveInOrder 45 = .ok (.dup2, 1)) ∧ (decode cX8_moveInOrder 46 = .ok (.iaload, 1)) ∧ (decode cX8_moveInOrder 47 = .ok (.iconst 1, 1)) ∧ (decode cX8_moveInOrder 48 = .ok (.isub, 1)) ∧ (decode cX8_moveInOrder 49 = .ok (.iastore, 1)) := by decide +kernel
theorem dX8_moveInOrder_35 : decode cX8_moveInOrder 35 = .ok (.iload_n 3, 1) := bdX8_moveInOrder_35.1
theorem dX8_moveInOrder_36 : decode cX8_moveInOrder 36 = .ok (.if_icmp .le 14, 3) := bdX8_moveInOrder_35.2.1
theorem dX8_moveInOrder_39 : decode cX8_moveInOrder 39 = .ok (.aload_n 0, 1) := bdX8_moveInOrder_35.2.2.1
theorem dX8_moveInOrder_40 : decode cX8_moveInOrder 40 = .ok (.getfield 18, 3) := bdX8_moveInOrder_35.2.2.2.1
theorem dX8_moveInOrder_43 : decode cX8_moveInOrder 43 = .ok (.iload 4, 2) := bdX8_moveInOrder_35.2.2.2.2.1
theorem dX8_moveInOrder_45 : decode cX8_moveInOrder 45 = .ok (.dup2, 1) := bdX8_moveInOrder_35.2.2.2.2.2.1
theorem dX8_moveInOrder_46 : decode cX8_moveInOrder 46 = .ok (.iaload, 1) := bdX8_moveInOrder_35.2.2.2.2.2.2.1
theorem dX8_moveInOrder_47 : decode cX8_moveInOrder 47 = .ok (.iconst 1, 1) := bdX8_moveInOrder_35.2.2.2.2.2.2.2.1
theorem dX8_moveInOrder_48 : decode cX8_moveInOrder 48 = .ok (.isub, 1) := bdX8_moveInOrder_35.2.2.2.2.2.2.2.2.1
theorem dX8_moveInOrder_49 : decode cX8_moveInOrder 49 = .ok (.iastore, 1) := bdX8_moveInOrder_35.2.2.2.2.2.2.2.2.2
theorem bdX8_moveInOrder_50 : (decode cX8_moveInOrder 50 = .ok (.aload_n 0, 1)) ∧ (decode cX8_moveInOrder 51 = .ok (.getfield 18, 3)) ∧ (decode cX8_moveInOrder 54 = .ok (.iload 4, 2)) ∧ (decode cX8_moveInOrder 56 = .ok (.iaload, 1)) ∧ (decode cX8_moveInOrder 57 = .ok (.iload_n 2, 1)) ∧ (decode cX8_moveInOrder 58 = .ok (.if_icmp .lt 14, 3)) ∧ (decode cX8_moveInOrder 61 = .ok (.aload_n 0, 1)) ∧ (decode cX8_moveInOrder 62 = .ok (.getfield 18, 3)) ∧ (decode cX8_moveInOrder 65 = .ok (.iload 4, 2)) ∧ (decode cX8_moveInOrder 67 = .ok (.dup2, 1)) := by decide +kernel
theorem dX8_moveInOrder_50 : decode cX8_moveInOrder 50 = .ok (.aload_n 0, 1) := bdX8_moveInOrder_50.1
theorem dX8_moveInOrder_51 : decode cX8_moveInOrder 51 = .ok (.getfield 18, 3) := bdX8_moveInOrder_50.2.1
theorem dX8_moveInOrder_54 : decode cX8_moveInOrder 54 = .ok (.iload 4, 2) := bdX8_moveInOrder_50.2.2.1
theorem dX8_moveInOrder_56 : decode cX8_moveInOrder 56 = .ok (.iaload, 1) := bdX8_moveInOrder_50.2.2.2.1
theorem dX8_moveInOrder_57 : decode cX8_moveInOrder 57 = .ok (.iload_n 2, 1) := bdX8_moveInOrder_50.2.2.2.2.1
theorem dX8_moveInOrder_58 : decode cX8_moveInOrder 58 = .ok (.if_icmp .lt 14, 3) := bdX8_moveInOrder_50.2.2.2.2.2.1
theorem dX8_moveInOrder_61 : decode cX8_moveInOrder 61 = .ok (.aload_n 0, 1) := bdX8_moveInOrder_50.2.2.2.2.2.2.1
theorem dX8_moveInOrder_62 : decode cX8_moveInOrder 62 = .ok (.getfield 18, 3) := bdX8_moveInOrder_50.2.2.2.2.2.2.2.1
theorem dX8_moveInOrder_65 : decode cX8_moveInOrder 65 = .ok (.iload 4, 2) := bdX8_moveInOrder_50.2.2.2.2.2.2.2.2.1
theorem dX8_moveInOrder_67 : decode cX8_moveInOrder 67 = .ok (.dup2, 1) := bdX8_moveInOrder_50.2.2.2.2.2.2.2.2.2
theorem bdX8_moveInOrder_68 : (decode cX8_moveInOrder 68 = .ok (.iaload, 1)) ∧ (decode cX8_moveInOrder 69 = .ok (.iconst 1, 1)) ∧ (decode cX8_moveInOrder 70 = .ok (.iadd, 1)) ∧ (decode cX8_moveInOrder 71 = .ok (.iastore, 1)) ∧ (decode cX8_moveInOrder 72 = .ok (.iinc 4 1, 3)) ∧ (decode cX8_moveInOrder 75 = .ok (.goto (-54), 3)) ∧ (decode cX8_moveInOrder 78 = .ok (.aload_n 0, 1)) ∧ (decode cX8_moveInOrder 79 = .ok (.getfield 18, 3)) ∧ (decode cX8_moveInOrder 82 = .ok (.iload_n 1, 1)) ∧ (decode cX8_moveInOrder 83 = .ok (.iload_n 2, 1)) := by decide +kernel
theorem dX8_moveInOrder_68 : decode cX8_moveInOrder 68 = .ok (.iaload, 1) := bdX8_moveInOrder_68.1
theorem dX8_moveInOrder_69 : decode cX8_moveInOrder 69 = .ok (.iconst 1, 1) := bdX8_moveInOrder_68.2.1
theorem dX8_moveInOrder_70 : decode cX8_moveInOrder 70 = .ok (.iadd, 1) := bdX8_moveInOrder_68.2.2.1
theorem dX8_moveInOrder_71 : decode cX8_moveInOrder 71 = .ok (.iastore, 1) := bdX8_moveInOrder_68.2.2.2.1
theorem dX8_moveInOrder_72 : decode cX8_moveInOrder 72 = .ok (.iinc 4 1, 3) := bdX8_moveInOrder_68.2.2.2.2.1
theorem dX8_moveInOrder_75 : decode cX8_moveInOrder 75 = .ok (.goto (-54), 3) := bdX8_moveInOrder_68.2.2.2.2.2.1
theorem dX8_moveInOrder_78 : decode cX8_moveInOrder 78 = .ok (.aload_n 0, 1) := bdX8_moveInOrder_68.2.2.2.2.2.2.1
theorem dX8_moveInOrder_79 : decode cX8_moveInOrder 79 = .ok (.getfield 18, 3) := bdX8_moveInOrder_68.2.2.2.2.2.2.2.1
theorem dX8_moveInOrder_82 : decode cX8_moveInOrder 82 = .ok (.iload_n 1, 1) := bdX8_moveInOrder_68.2.2.2.2.2.2.2.2.1
theorem dX8_moveInOrder_83 : decode cX8_moveInOrder 83 = .ok (.iload_n 2, 1) := bdX8_moveInOrder_68.2.2.2.2.2.2.2.2.2
theorem bdX8_moveInOrder_84 : (decode cX8_moveInOrder 84 = .ok (.iastore, 1)) ∧ (decode cX8_moveInOrder 85 = .ok (.return_, 1)) := by decide +kernel
theorem dX8_moveInOrder_84 : decode cX8_moveInOrder 84 = .ok (.iastore, 1) := bdX8_moveInOrder_84.1
theorem dX8_moveInOrder_85 : decode cX8_moveInOrder 85 = .ok (.return_, 1) := bdX8_moveInOrder_84.2
theorem bdX8_houseAt_0 : (decode cX8_houseAt 0 = .ok (.iconst 0, 1)) ∧ (decode cX8_houseAt 1 = .ok (.istore_n 2, 1)) ∧ (decode cX8_houseAt 2 = .ok (.iload_n 2, 1)) ∧ (decode cX8_houseAt 3 = .ok (.bipush 8, 2)) ∧ (decode cX8_houseAt 5 = .ok (.if_icmp .ge 21, 3)) ∧ (decode cX8_houseAt 8 = .ok (.aload_n 0, 1)) ∧ (decode cX8_houseAt 9 = .ok (.getfield 18, 3)) ∧ (decode cX8_houseAt 12 = .ok (.iload_n 2, 1)) ∧ (decode cX8_houseAt 13 = .ok (.iaload, 1)) ∧ (decode cX8_houseAt 14 = .ok (.iload_n 1, 1)) := by decide +kernel
theorem dX8_houseAt_0 : decode cX8_houseAt 0 = .ok (.iconst 0, 1) := bdX8_houseAt_0.1
theorem dX8_houseAt_1 : decode cX8_houseAt 1 = .ok (.istore_n 2, 1) := bdX8_houseAt_0.2.1
theorem dX8_houseAt_2 : decode cX8_houseAt 2 = .ok (.iload_n 2, 1) := bdX8_houseAt_0.2.2.1
theorem dX8_houseAt_3 : decode cX8_houseAt 3 = .ok (.bipush 8, 2) := bdX8_houseAt_0.2.2.2.1
theorem dX8_houseAt_5 : decode cX8_houseAt 5 = .ok (.if_icmp .ge 21, 3) := bdX8_houseAt_0.2.2.2.2.1
theorem dX8_houseAt_8 : decode cX8_houseAt 8 = .ok (.aload_n 0, 1) := bdX8_houseAt_0.2.2.2.2.2.1
theorem dX8_houseAt_9 : decode cX8_houseAt 9 = .ok (.getfield 18, 3) := bdX8_houseAt_0.2.2.2.2.2.2.1
theorem dX8_houseAt_12 : decode cX8_houseAt 12 = .ok (.iload_n 2, 1) := bdX8_houseAt_0.2.2.2.2.2.2.2.1
theorem dX8_houseAt_13 : decode cX8_houseAt 13 = .ok (.iaload, 1) := bdX8_houseAt_0.2.2.2.2.2.2.2.2.1
theorem dX8_houseAt_14 : decode cX8_houseAt 14 = .ok (.iload_n 1, 1) := bdX8_houseAt_0.2.2.2.2.2.2.2.2.2
theorem bdX8_houseAt_15 : (decode cX8_houseAt 15 = .ok (.if_icmp .ne 5, 3)) ∧ (decode cX8_houseAt 18 = .ok (.iload_n 2, 1)) ∧ (decode cX8_houseAt 19 = .ok (.ireturn, 1)) ∧ (decode cX8_houseAt 20 = .ok (.iinc 2 1, 3)) ∧ (decode cX8_houseAt 23 = .ok (.goto (-21), 3)) ∧ (decode cX8_houseAt 26 = .ok (.iconst (-1), 1)) ∧ (decode cX8_houseAt 27 = .ok (.ireturn, 1)) := by decide +kernel
theorem dX8_houseAt_15 : decode cX8_houseAt 15 = .ok (.if_icmp .ne 5, 3) := bdX8_houseAt_15.1
theorem dX8_houseAt_18 : decode cX8_houseAt 18 = .ok (.iload_n 2, 1) := bdX8_houseAt_15.2.1
theorem dX8_houseAt_19 : decode cX8_houseAt 19 = .ok (.ireturn, 1) := bdX8_houseAt_15.2.2.1
theorem dX8_houseAt_20 : decode cX8_houseAt 20 = .ok (.iinc 2 1, 3) := bdX8_houseAt_15.2.2.2.1
theorem dX8_houseAt_23 : decode cX8_houseAt 23 = .ok (.goto (-21), 3) := bdX8_houseAt_15.2.2.2.2.1
theorem dX8_houseAt_26 : decode cX8_houseAt 26 = .ok (.iconst (-1), 1) := bdX8_houseAt_15.2.2.2.2.2.1
theorem dX8_houseAt_27 : decode cX8_houseAt 27 = .ok (.ireturn, 1) := bdX8_houseAt_15.2.2.2.2.2.2
theorem bdX8_allStores_0 : (decode cX8_allStores 0 = .ok (.iconst 0, 1)) ∧ (decode cX8_allStores 1 = .ok (.istore_n 1, 1)) ∧ (decode cX8_allStores 2 = .ok (.iconst 0, 1)) ∧ (decode cX8_allStores 3 = .ok (.istore_n 2, 1)) ∧ (decode cX8_allStores 4 = .ok (.iload_n 2, 1)) ∧ (decode cX8_allStores 5 = .ok (.bipush 8, 2)) ∧ (decode cX8_allStores 7 = .ok (.if_icmp .ge 18, 3)) ∧ (decode cX8_allStores 10 = .ok (.iload_n 1, 1)) ∧ (decode cX8_allStores 11 = .ok (.aload_n 0, 1)) ∧ (decode cX8_allStores 12 = .ok (.getfield 25, 3)) := by decide +kernel
theorem dX8_allStores_0 : decode cX8_allStores 0 = .ok (.iconst 0, 1) := bdX8_allStores_0.1
theorem dX8_allStores_1 : decode cX8_allStores 1 = .ok (.istore_n 1, 1) := bdX8_allStores_0.2.1
theorem dX8_allStores_2 : decode cX8_allStores 2 = .ok (.iconst 0, 1) := bdX8_allStores_0.2.2.1
theorem dX8_allStores_3 : decode cX8_allStores 3 = .ok (.istore_n 2, 1) := bdX8_allStores_0.2.2.2.1
theorem dX8_allStores_4 : decode cX8_allStores 4 = .ok (.iload_n 2, 1) := bdX8_allStores_0.2.2.2.2.1
theorem dX8_allStores_5 : decode cX8_allStores 5 = .ok (.bipush 8, 2) := bdX8_allStores_0.2.2.2.2.2.1
theorem dX8_allStores_7 : decode cX8_allStores 7 = .ok (.if_icmp .ge 18, 3) := bdX8_allStores_0.2.2.2.2.2.2.1
theorem dX8_allStores_10 : decode cX8_allStores 10 = .ok (.iload_n 1, 1) := bdX8_allStores_0.2.2.2.2.2.2.2.1
theorem dX8_allStores_11 : decode cX8_allStores 11 = .ok (.aload_n 0, 1) := bdX8_allStores_0.2.2.2.2.2.2.2.2.1
theorem dX8_allStores_12 : decode cX8_allStores 12 = .ok (.getfield 25, 3) := bdX8_allStores_0.2.2.2.2.2.2.2.2.2
theorem bdX8_allStores_15 : (decode cX8_allStores 15 = .ok (.iload_n 2, 1)) ∧ (decode cX8_allStores 16 = .ok (.iaload, 1)) ∧ (decode cX8_allStores 17 = .ok (.iadd, 1)) ∧ (decode cX8_allStores 18 = .ok (.istore_n 1, 1)) ∧ (decode cX8_allStores 19 = .ok (.iinc 2 1, 3)) ∧ (decode cX8_allStores 22 = .ok (.goto (-18), 3)) ∧ (decode cX8_allStores 25 = .ok (.iload_n 1, 1)) ∧ (decode cX8_allStores 26 = .ok (.ireturn, 1)) := by decide +kernel
theorem dX8_allStores_15 : decode cX8_allStores 15 = .ok (.iload_n 2, 1) := bdX8_allStores_15.1
theorem dX8_allStores_16 : decode cX8_allStores 16 = .ok (.iaload, 1) := bdX8_allStores_15.2.1
theorem dX8_allStores_17 : decode cX8_allStores 17 = .ok (.iadd, 1) := bdX8_allStores_15.2.2.1
theorem dX8_allStores_18 : decode cX8_allStores 18 = .ok (.istore_n 1, 1) := bdX8_allStores_15.2.2.2.1
theorem dX8_allStores_19 : decode cX8_allStores 19 = .ok (.iinc 2 1, 3) := bdX8_allStores_15.2.2.2.2.1
theorem dX8_allStores_22 : decode cX8_allStores 22 = .ok (.goto (-18), 3) := bdX8_allStores_15.2.2.2.2.2.1
theorem dX8_allStores_25 : decode cX8_allStores 25 = .ok (.iload_n 1, 1) := bdX8_allStores_15.2.2.2.2.2.2.1
theorem dX8_allStores_26 : decode cX8_allStores 26 = .ok (.ireturn, 1) := bdX8_allStores_15.2.2.2.2.2.2.2
theorem bdX8_mostStore_0 : (decode cX8_mostStore 0 = .ok (.iconst 0, 1)) ∧ (decode cX8_mostStore 1 = .ok (.istore_n 1, 1)) ∧ (decode cX8_mostStore 2 = .ok (.iconst 0, 1)) ∧ (decode cX8_mostStore 3 = .ok (.istore_n 2, 1)) ∧ (decode cX8_mostStore 4 = .ok (.iload_n 2, 1)) ∧ (decode cX8_mostStore 5 = .ok (.bipush 8, 2)) ∧ (decode cX8_mostStore 7 = .ok (.if_icmp .ge 20, 3)) ∧ (decode cX8_mostStore 10 = .ok (.iload_n 1, 1)) ∧ (decode cX8_mostStore 11 = .ok (.aload_n 0, 1)) ∧ (decode cX8_mostStore 12 = .ok (.getfield 25, 3)) := by decide +kernel
theorem dX8_mostStore_0 : decode cX8_mostStore 0 = .ok (.iconst 0, 1) := bdX8_mostStore_0.1
theorem dX8_mostStore_1 : decode cX8_mostStore 1 = .ok (.istore_n 1, 1) := bdX8_mostStore_0.2.1
theorem dX8_mostStore_2 : decode cX8_mostStore 2 = .ok (.iconst 0, 1) := bdX8_mostStore_0.2.2.1
theorem dX8_mostStore_3 : decode cX8_mostStore 3 = .ok (.istore_n 2, 1) := bdX8_mostStore_0.2.2.2.1
theorem dX8_mostStore_4 : decode cX8_mostStore 4 = .ok (.iload_n 2, 1) := bdX8_mostStore_0.2.2.2.2.1
theorem dX8_mostStore_5 : decode cX8_mostStore 5 = .ok (.bipush 8, 2) := bdX8_mostStore_0.2.2.2.2.2.1
theorem dX8_mostStore_7 : decode cX8_mostStore 7 = .ok (.if_icmp .ge 20, 3) := bdX8_mostStore_0.2.2.2.2.2.2.1
theorem dX8_mostStore_10 : decode cX8_mostStore 10 = .ok (.iload_n 1, 1) := bdX8_mostStore_0.2.2.2.2.2.2.2.1
theorem dX8_mostStore_11 : decode cX8_mostStore 11 = .ok (.aload_n 0, 1) := bdX8_mostStore_0.2.2.2.2.2.2.2.2.1
theorem dX8_mostStore_12 : decode cX8_mostStore 12 = .ok (.getfield 25, 3) := bdX8_mostStore_0.2.2.2.2.2.2.2.2.2
theorem bdX8_mostStore_15 : (decode cX8_mostStore 15 = .ok (.iload_n 2, 1)) ∧ (decode cX8_mostStore 16 = .ok (.iaload, 1)) ∧ (decode cX8_mostStore 17 = .ok (.invokestatic 56, 3)) ∧ (decode cX8_mostStore 20 = .ok (.istore_n 1, 1)) ∧ (decode cX8_mostStore 21 = .ok (.iinc 2 1, 3)) ∧ (decode cX8_mostStore 24 = .ok (.goto (-20), 3)) ∧ (decode cX8_mostStore 27 = .ok (.iload_n 1, 1)) ∧ (decode cX8_mostStore 28 = .ok (.ireturn, 1)) := by decide +kernel
theorem dX8_mostStore_15 : decode cX8_mostStore 15 = .ok (.iload_n 2, 1) := bdX8_mostStore_15.1
theorem dX8_mostStore_16 : decode cX8_mostStore 16 = .ok (.iaload, 1) := bdX8_mostStore_15.2.1
theorem dX8_mostStore_17 : decode cX8_mostStore 17 = .ok (.invokestatic 56, 3) := bdX8_mostStore_15.2.2.1
theorem dX8_mostStore_20 : decode cX8_mostStore 20 = .ok (.istore_n 1, 1) := bdX8_mostStore_15.2.2.2.1
theorem dX8_mostStore_21 : decode cX8_mostStore 21 = .ok (.iinc 2 1, 3) := bdX8_mostStore_15.2.2.2.2.1
theorem dX8_mostStore_24 : decode cX8_mostStore 24 = .ok (.goto (-20), 3) := bdX8_mostStore_15.2.2.2.2.2.1
theorem dX8_mostStore_27 : decode cX8_mostStore 27 = .ok (.iload_n 1, 1) := bdX8_mostStore_15.2.2.2.2.2.2.1
theorem dX8_mostStore_28 : decode cX8_mostStore 28 = .ok (.ireturn, 1) := bdX8_mostStore_15.2.2.2.2.2.2.2
theorem bdX8_copyFrom_0 : (decode cX8_copyFrom 0 = .ok (.aload_n 0, 1)) ∧ (decode cX8_copyFrom 1 = .ok (.aload_n 1, 1)) ∧ (decode cX8_copyFrom 2 = .ok (.getfield 28, 3)) ∧ (decode cX8_copyFrom 5 = .ok (.putfield 28, 3)) ∧ (decode cX8_copyFrom 8 = .ok (.aload_n 0, 1)) ∧ (decode cX8_copyFrom 9 = .ok (.aload_n 1, 1)) ∧ (decode cX8_copyFrom 10 = .ok (.getfield 47, 3)) ∧ (decode cX8_copyFrom 13 = .ok (.putfield 47, 3)) ∧ (decode cX8_copyFrom 16 = .ok (.aload_n 0, 1)) ∧ (decode cX8_copyFrom 17 = .ok (.aload_n 1, 1)) := by decide +kernel
theorem dX8_copyFrom_0 : decode cX8_copyFrom 0 = .ok (.aload_n 0, 1) := bdX8_copyFrom_0.1
theorem dX8_copyFrom_1 : decode cX8_copyFrom 1 = .ok (.aload_n 1, 1) := bdX8_copyFrom_0.2.1
theorem dX8_copyFrom_2 : decode cX8_copyFrom 2 = .ok (.getfield 28, 3) := bdX8_copyFrom_0.2.2.1
theorem dX8_copyFrom_5 : decode cX8_copyFrom 5 = .ok (.putfield 28, 3) := bdX8_copyFrom_0.2.2.2.1
theorem dX8_copyFrom_8 : decode cX8_copyFrom 8 = .ok (.aload_n 0, 1) := bdX8_copyFrom_0.2.2.2.2.1
theorem dX8_copyFrom_9 : decode cX8_copyFrom 9 = .ok (.aload_n 1, 1) := bdX8_copyFrom_0.2.2.2.2.2.1
theorem dX8_copyFrom_10 : decode cX8_copyFrom 10 = .ok (.getfield 47, 3) := bdX8_copyFrom_0.2.2.2.2.2.2.1
theorem dX8_copyFrom_13 : decode cX8_copyFrom 13 = .ok (.putfield 47, 3) := bdX8_copyFrom_0.2.2.2.2.2.2.2.1
theorem dX8_copyFrom_16 : decode cX8_copyFrom 16 = .ok (.aload_n 0, 1) := bdX8_copyFrom_0.2.2.2.2.2.2.2.2.1
theorem dX8_copyFrom_17 : decode cX8_copyFrom 17 = .ok (.aload_n 1, 1) := bdX8_copyFrom_0.2.2.2.2.2.2.2.2.2
theorem bdX8_copyFrom_18 : (decode cX8_copyFrom 18 = .ok (.getfield 9, 3)) ∧ (decode cX8_copyFrom 21 = .ok (.putfield 9, 3)) ∧ (decode cX8_copyFrom 24 = .ok (.aload_n 0, 1)) ∧ (decode cX8_copyFrom 25 = .ok (.aload_n 1, 1)) ∧ (decode cX8_copyFrom 26 = .ok (.getfield 15, 3)) ∧ (decode cX8_copyFrom 29 = .ok (.putfield 15, 3)) ∧ (decode cX8_copyFrom 32 = .ok (.aload_n 0, 1)) ∧ (decode cX8_copyFrom 33 = .ok (.aload_n 1, 1)) ∧ (decode cX8_copyFrom 34 = .ok (.getfield 44, 3)) ∧ (decode cX8_copyFrom 37 = .ok (.putfield 44, 3)) := by decide +kernel
theorem dX8_copyFrom_18 : decode cX8_copyFrom 18 = .ok (.getfield 9, 3) := bdX8_copyFrom_18.1
theorem dX8_copyFrom_21 : decode cX8_copyFrom 21 = .ok (.putfield 9, 3) := bdX8_copyFrom_18.2.1
theorem dX8_copyFrom_24 : decode cX8_copyFrom 24 = .ok (.aload_n 0, 1) := bdX8_copyFrom_18.2.2.1
theorem dX8_copyFrom_25 : decode cX8_copyFrom 25 = .ok (.aload_n 1, 1) := bdX8_copyFrom_18.2.2.2.1
theorem dX8_copyFrom_26 : decode cX8_copyFrom 26 = .ok (.getfield 15, 3) := bdX8_copyFrom_18.2.2.2.2.1
theorem dX8_copyFrom_29 : decode cX8_copyFrom 29 = .ok (.putfield 15, 3) := bdX8_copyFrom_18.2.2.2.2.2.1
theorem dX8_copyFrom_32 : decode cX8_copyFrom 32 = .ok (.aload_n 0, 1) := bdX8_copyFrom_18.2.2.2.2.2.2.1
theorem dX8_copyFrom_33 : decode cX8_copyFrom 33 = .ok (.aload_n 1, 1) := bdX8_copyFrom_18.2.2.2.2.2.2.2.1
theorem dX8_copyFrom_34 : decode cX8_copyFrom 34 = .ok (.getfield 44, 3) := bdX8_copyFrom_18.2.2.2.2.2.2.2.2.1
theorem dX8_copyFrom_37 : decode cX8_copyFrom 37 = .ok (.putfield 44, 3) := bdX8_copyFrom_18.2.2.2.2.2.2.2.2.2
theorem bdX8_copyFrom_40 : (decode cX8_copyFrom 40 = .ok (.aload_n 0, 1)) ∧ (decode cX8_copyFrom 41 = .ok (.aload_n 1, 1)) ∧ (decode cX8_copyFrom 42 = .ok (.getfield 35, 3)) ∧ (decode cX8_copyFrom 45 = .ok (.putfield 35, 3)) ∧ (decode cX8_copyFrom 48 = .ok (.aload_n 0, 1)) ∧ (decode cX8_copyFrom 49 = .ok (.aload_n 1, 1)) ∧ (decode cX8_copyFrom 50 = .ok (.getfield 38, 3)) ∧ (decode cX8_copyFrom 53 = .ok (.putfield 38, 3)) ∧ (decode cX8_copyFrom 56 = .ok (.iconst 0, 1)) ∧ (decode cX8_copyFrom 57 = .ok (.istore_n 2, 1)) := by decide +kernel
theorem dX8_copyFrom_40 : decode cX8_copyFrom 40 = .ok (.aload_n 0, 1) := bdX8_copyFrom_40.1
theorem dX8_copyFrom_41 : decode cX8_copyFrom 41 = .ok (.aload_n 1, 1) := bdX8_copyFrom_40.2.1
theorem dX8_copyFrom_42 : decode cX8_copyFrom 42 = .ok (.getfield 35, 3) := bdX8_copyFrom_40.2.2.1
theorem dX8_copyFrom_45 : decode cX8_copyFrom 45 = .ok (.putfield 35, 3) := bdX8_copyFrom_40.2.2.2.1
theorem dX8_copyFrom_48 : decode cX8_copyFrom 48 = .ok (.aload_n 0, 1) := bdX8_copyFrom_40.2.2.2.2.1
theorem dX8_copyFrom_49 : decode cX8_copyFrom 49 = .ok (.aload_n 1, 1) := bdX8_copyFrom_40.2.2.2.2.2.1
theorem dX8_copyFrom_50 : decode cX8_copyFrom 50 = .ok (.getfield 38, 3) := bdX8_copyFrom_40.2.2.2.2.2.2.1
theorem dX8_copyFrom_53 : decode cX8_copyFrom 53 = .ok (.putfield 38, 3) := bdX8_copyFrom_40.2.2.2.2.2.2.2.1
theorem dX8_copyFrom_56 : decode cX8_copyFrom 56 = .ok (.iconst 0, 1) := bdX8_copyFrom_40.2.2.2.2.2.2.2.2.1
theorem dX8_copyFrom_57 : decode cX8_copyFrom 57 = .ok (.istore_n 2, 1) := bdX8_copyFrom_40.2.2.2.2.2.2.2.2.2
theorem bdX8_copyFrom_58 : (decode cX8_copyFrom 58 = .ok (.iload_n 2, 1)) ∧ (decode cX8_copyFrom 59 = .ok (.bipush 8, 2)) ∧ (decode cX8_copyFrom 61 = .ok (.if_icmp .ge 45, 3)) ∧ (decode cX8_copyFrom 64 = .ok (.aload_n 0, 1)) ∧ (decode cX8_copyFrom 65 = .ok (.getfield 18, 3)) ∧ (decode cX8_copyFrom 68 = .ok (.iload_n 2, 1)) ∧ (decode cX8_copyFrom 69 = .ok (.aload_n 1, 1)) ∧ (decode cX8_copyFrom 70 = .ok (.getfield 18, 3)) ∧ (decode cX8_copyFrom 73 = .ok (.iload_n 2, 1)) ∧ (decode cX8_copyFrom 74 = .ok (.iaload, 1)) := by decide +kernel
theorem dX8_copyFrom_58 : decode cX8_copyFrom 58 = .ok (.iload_n 2, 1) := bdX8_copyFrom_58.1
theorem dX8_copyFrom_59 : decode cX8_copyFrom 59 = .ok (.bipush 8, 2) := bdX8_copyFrom_58.2.1
theorem dX8_copyFrom_61 : decode cX8_copyFrom 61 = .ok (.if_icmp .ge 45, 3) := bdX8_copyFrom_58.2.2.1
theorem dX8_copyFrom_64 : decode cX8_copyFrom 64 = .ok (.aload_n 0, 1) := bdX8_copyFrom_58.2.2.2.1
theorem dX8_copyFrom_65 : decode cX8_copyFrom 65 = .ok (.getfield 18, 3) := bdX8_copyFrom_58.2.2.2.2.1
theorem dX8_copyFrom_68 : decode cX8_copyFrom 68 = .ok (.iload_n 2, 1) := bdX8_copyFrom_58.2.2.2.2.2.1
theorem dX8_copyFrom_69 : decode cX8_copyFrom 69 = .ok (.aload_n 1, 1) := bdX8_copyFrom_58.2.2.2.2.2.2.1
theorem dX8_copyFrom_70 : decode cX8_copyFrom 70 = .ok (.getfield 18, 3) := bdX8_copyFrom_58.2.2.2.2.2.2.2.1
theorem dX8_copyFrom_73 : decode cX8_copyFrom 73 = .ok (.iload_n 2, 1) := bdX8_copyFrom_58.2.2.2.2.2.2.2.2.1
theorem dX8_copyFrom_74 : decode cX8_copyFrom 74 = .ok (.iaload, 1) := bdX8_copyFrom_58.2.2.2.2.2.2.2.2.2
theorem bdX8_copyFrom_75 : (decode cX8_copyFrom 75 = .ok (.iastore, 1)) ∧ (decode cX8_copyFrom 76 = .ok (.aload_n 0, 1)) ∧ (decode cX8_copyFrom 77 = .ok (.getfield 22, 3)) ∧ (decode cX8_copyFrom 80 = .ok (.iload_n 2, 1)) ∧ (decode cX8_copyFrom 81 = .ok (.aload_n 1, 1)) ∧ (decode cX8_copyFrom 82 = .ok (.getfield 22, 3)) ∧ (decode cX8_copyFrom 85 = .ok (.iload_n 2, 1)) ∧ (decode cX8_copyFrom 86 = .ok (.iaload, 1)) ∧ (decode cX8_copyFrom 87 = .ok (.iastore, 1)) ∧ (decode cX8_copyFrom 88 = .ok (.aload_n 0, 1)) := by decide +kernel
theorem dX8_copyFrom_75 : decode cX8_copyFrom 75 = .ok (.iastore, 1) := bdX8_copyFrom_75.1
theorem dX8_copyFrom_76 : decode cX8_copyFrom 76 = .ok (.aload_n 0, 1) := bdX8_copyFrom_75.2.1
theorem dX8_copyFrom_77 : decode cX8_copyFrom 77 = .ok (.getfield 22, 3) := bdX8_copyFrom_75.2.2.1
theorem dX8_copyFrom_80 : decode cX8_copyFrom 80 = .ok (.iload_n 2, 1) := bdX8_copyFrom_75.2.2.2.1
theorem dX8_copyFrom_81 : decode cX8_copyFrom 81 = .ok (.aload_n 1, 1) := bdX8_copyFrom_75.2.2.2.2.1
theorem dX8_copyFrom_82 : decode cX8_copyFrom 82 = .ok (.getfield 22, 3) := bdX8_copyFrom_75.2.2.2.2.2.1
theorem dX8_copyFrom_85 : decode cX8_copyFrom 85 = .ok (.iload_n 2, 1) := bdX8_copyFrom_75.2.2.2.2.2.2.1
theorem dX8_copyFrom_86 : decode cX8_copyFrom 86 = .ok (.iaload, 1) := bdX8_copyFrom_75.2.2.2.2.2.2.2.1
theorem dX8_copyFrom_87 : decode cX8_copyFrom 87 = .ok (.iastore, 1) := bdX8_copyFrom_75.2.2.2.2.2.2.2.2.1
theorem dX8_copyFrom_88 : decode cX8_copyFrom 88 = .ok (.aload_n 0, 1) := bdX8_copyFrom_75.2.2.2.2.2.2.2.2.2
theorem bdX8_copyFrom_89 : (decode cX8_copyFrom 89 = .ok (.getfield 25, 3)) ∧ (decode cX8_copyFrom 92 = .ok (.iload_n 2, 1)) ∧ (decode cX8_copyFrom 93 = .ok (.aload_n 1, 1)) ∧ (decode cX8_copyFrom 94 = .ok (.getfield 25, 3)) ∧ (decode cX8_copyFrom 97 = .ok (.iload_n 2, 1)) ∧ (decode cX8_copyFrom 98 = .ok (.iaload, 1)) ∧ (decode cX8_copyFrom 99 = .ok (.iastore, 1)) ∧ (decode cX8_copyFrom 100 = .ok (.iinc 2 1, 3)) ∧ (decode cX8_copyFrom 103 = .ok (.goto (-45), 3)) ∧ (decode cX8_copyFrom 106 = .ok (.return_, 1)) := by decide +kernel
theorem dX8_copyFrom_89 : decode cX8_copyFrom 89 = .ok (.getfield 25, 3) := bdX8_copyFrom_89.1
theorem dX8_copyFrom_92 : decode cX8_copyFrom 92 = .ok (.iload_n 2, 1) := bdX8_copyFrom_89.2.1
theorem dX8_copyFrom_93 : decode cX8_copyFrom 93 = .ok (.aload_n 1, 1) := bdX8_copyFrom_89.2.2.1
theorem dX8_copyFrom_94 : decode cX8_copyFrom 94 = .ok (.getfield 25, 3) := bdX8_copyFrom_89.2.2.2.1
theorem dX8_copyFrom_97 : decode cX8_copyFrom 97 = .ok (.iload_n 2, 1) := bdX8_copyFrom_89.2.2.2.2.1
theorem dX8_copyFrom_98 : decode cX8_copyFrom 98 = .ok (.iaload, 1) := bdX8_copyFrom_89.2.2.2.2.2.1
theorem dX8_copyFrom_99 : decode cX8_copyFrom 99 = .ok (.iastore, 1) := bdX8_copyFrom_89.2.2.2.2.2.2.1
theorem dX8_copyFrom_100 : decode cX8_copyFrom 100 = .ok (.iinc 2 1, 3) := bdX8_copyFrom_89.2.2.2.2.2.2.2.1
theorem dX8_copyFrom_103 : decode cX8_copyFrom 103 = .ok (.goto (-45), 3) := bdX8_copyFrom_89.2.2.2.2.2.2.2.2.1
theorem dX8_copyFrom_106 : decode cX8_copyFrom 106 = .ok (.return_, 1) := bdX8_copyFrom_89.2.2.2.2.2.2.2.2.2
theorem bdX8_writeTo_0 : (decode cX8_writeTo 0 = .ok (.iload_n 2, 1)) ∧ (decode cX8_writeTo 1 = .ok (.ifCond .lt 12, 3)) ∧ (decode cX8_writeTo 4 = .ok (.iload_n 2, 1)) ∧ (decode cX8_writeTo 5 = .ok (.aload_n 1, 1)) ∧ (decode cX8_writeTo 6 = .ok (.arraylength, 1)) ∧ (decode cX8_writeTo 7 = .ok (.bipush 31, 2)) ∧ (decode cX8_writeTo 9 = .ok (.isub, 1)) ∧ (decode cX8_writeTo 10 = .ok (.if_icmp .le 4, 3)) ∧ (decode cX8_writeTo 13 = .ok (.return_, 1)) ∧ (decode cX8_writeTo 14 = .ok (.aload_n 1, 1)) := by decide +kernel
theorem dX8_writeTo_0 : decode cX8_writeTo 0 = .ok (.iload_n 2, 1) := bdX8_writeTo_0.1
theorem dX8_writeTo_1 : decode cX8_writeTo 1 = .ok (.ifCond .lt 12, 3) := bdX8_writeTo_0.2.1
theorem dX8_writeTo_4 : decode cX8_writeTo 4 = .ok (.iload_n 2, 1) := bdX8_writeTo_0.2.2.1
theorem dX8_writeTo_5 : decode cX8_writeTo 5 = .ok (.aload_n 1, 1) := bdX8_writeTo_0.2.2.2.1
theorem dX8_writeTo_6 : decode cX8_writeTo 6 = .ok (.arraylength, 1) := bdX8_writeTo_0.2.2.2.2.1
theorem dX8_writeTo_7 : decode cX8_writeTo 7 = .ok (.bipush 31, 2) := bdX8_writeTo_0.2.2.2.2.2.1
theorem dX8_writeTo_9 : decode cX8_writeTo 9 = .ok (.isub, 1) := bdX8_writeTo_0.2.2.2.2.2.2.1
theorem dX8_writeTo_10 : decode cX8_writeTo 10 = .ok (.if_icmp .le 4, 3) := bdX8_writeTo_0.2.2.2.2.2.2.2.1
theorem dX8_writeTo_13 : decode cX8_writeTo 13 = .ok (.return_, 1) := bdX8_writeTo_0.2.2.2.2.2.2.2.2.1
theorem dX8_writeTo_14 : decode cX8_writeTo 14 = .ok (.aload_n 1, 1) := bdX8_writeTo_0.2.2.2.2.2.2.2.2.2
theorem bdX8_writeTo_15 : (decode cX8_writeTo 15 = .ok (.iload_n 2, 1)) ∧ (decode cX8_writeTo 16 = .ok (.aload_n 0, 1)) ∧ (decode cX8_writeTo 17 = .ok (.getfield 28, 3)) ∧ (decode cX8_writeTo 20 = .ok (.iastore, 1)) ∧ (decode cX8_writeTo 21 = .ok (.aload_n 1, 1)) ∧ (decode cX8_writeTo 22 = .ok (.iload_n 2, 1)) ∧ (decode cX8_writeTo 23 = .ok (.iconst 1, 1)) ∧ (decode cX8_writeTo 24 = .ok (.iadd, 1)) ∧ (decode cX8_writeTo 25 = .ok (.aload_n 0, 1)) ∧ (decode cX8_writeTo 26 = .ok (.getfield 47, 3)) := by decide +kernel
theorem dX8_writeTo_15 : decode cX8_writeTo 15 = .ok (.iload_n 2, 1) := bdX8_writeTo_15.1
theorem dX8_writeTo_16 : decode cX8_writeTo 16 = .ok (.aload_n 0, 1) := bdX8_writeTo_15.2.1
theorem dX8_writeTo_17 : decode cX8_writeTo 17 = .ok (.getfield 28, 3) := bdX8_writeTo_15.2.2.1
theorem dX8_writeTo_20 : decode cX8_writeTo 20 = .ok (.iastore, 1) := bdX8_writeTo_15.2.2.2.1
theorem dX8_writeTo_21 : decode cX8_writeTo 21 = .ok (.aload_n 1, 1) := bdX8_writeTo_15.2.2.2.2.1
theorem dX8_writeTo_22 : decode cX8_writeTo 22 = .ok (.iload_n 2, 1) := bdX8_writeTo_15.2.2.2.2.2.1
theorem dX8_writeTo_23 : decode cX8_writeTo 23 = .ok (.iconst 1, 1) := bdX8_writeTo_15.2.2.2.2.2.2.1
theorem dX8_writeTo_24 : decode cX8_writeTo 24 = .ok (.iadd, 1) := bdX8_writeTo_15.2.2.2.2.2.2.2.1
theorem dX8_writeTo_25 : decode cX8_writeTo 25 = .ok (.aload_n 0, 1) := bdX8_writeTo_15.2.2.2.2.2.2.2.2.1
theorem dX8_writeTo_26 : decode cX8_writeTo 26 = .ok (.getfield 47, 3) := bdX8_writeTo_15.2.2.2.2.2.2.2.2.2
theorem bdX8_writeTo_29 : (decode cX8_writeTo 29 = .ok (.iastore, 1)) ∧ (decode cX8_writeTo 30 = .ok (.aload_n 1, 1)) ∧ (decode cX8_writeTo 31 = .ok (.iload_n 2, 1)) ∧ (decode cX8_writeTo 32 = .ok (.iconst 2, 1)) ∧ (decode cX8_writeTo 33 = .ok (.iadd, 1)) ∧ (decode cX8_writeTo 34 = .ok (.aload_n 0, 1)) ∧ (decode cX8_writeTo 35 = .ok (.getfield 9, 3)) ∧ (decode cX8_writeTo 38 = .ok (.iastore, 1)) ∧ (decode cX8_writeTo 39 = .ok (.aload_n 1, 1)) ∧ (decode cX8_writeTo 40 = .ok (.iload_n 2, 1)) := by decide +kernel
theorem dX8_writeTo_29 : decode cX8_writeTo 29 = .ok (.iastore, 1) := bdX8_writeTo_29.1
theorem dX8_writeTo_30 : decode cX8_writeTo 30 = .ok (.aload_n 1, 1) := bdX8_writeTo_29.2.1
theorem dX8_writeTo_31 : decode cX8_writeTo 31 = .ok (.iload_n 2, 1) := bdX8_writeTo_29.2.2.1
theorem dX8_writeTo_32 : decode cX8_writeTo 32 = .ok (.iconst 2, 1) := bdX8_writeTo_29.2.2.2.1
theorem dX8_writeTo_33 : decode cX8_writeTo 33 = .ok (.iadd, 1) := bdX8_writeTo_29.2.2.2.2.1
theorem dX8_writeTo_34 : decode cX8_writeTo 34 = .ok (.aload_n 0, 1) := bdX8_writeTo_29.2.2.2.2.2.1
theorem dX8_writeTo_35 : decode cX8_writeTo 35 = .ok (.getfield 9, 3) := bdX8_writeTo_29.2.2.2.2.2.2.1
theorem dX8_writeTo_38 : decode cX8_writeTo 38 = .ok (.iastore, 1) := bdX8_writeTo_29.2.2.2.2.2.2.2.1
theorem dX8_writeTo_39 : decode cX8_writeTo 39 = .ok (.aload_n 1, 1) := bdX8_writeTo_29.2.2.2.2.2.2.2.2.1
theorem dX8_writeTo_40 : decode cX8_writeTo 40 = .ok (.iload_n 2, 1) := bdX8_writeTo_29.2.2.2.2.2.2.2.2.2
theorem bdX8_writeTo_41 : (decode cX8_writeTo 41 = .ok (.iconst 3, 1)) ∧ (decode cX8_writeTo 42 = .ok (.iadd, 1)) ∧ (decode cX8_writeTo 43 = .ok (.aload_n 0, 1)) ∧ (decode cX8_writeTo 44 = .ok (.getfield 15, 3)) ∧ (decode cX8_writeTo 47 = .ok (.iastore, 1)) ∧ (decode cX8_writeTo 48 = .ok (.aload_n 1, 1)) ∧ (decode cX8_writeTo 49 = .ok (.iload_n 2, 1)) ∧ (decode cX8_writeTo 50 = .ok (.iconst 4, 1)) ∧ (decode cX8_writeTo 51 = .ok (.iadd, 1)) ∧ (decode cX8_writeTo 52 = .ok (.aload_n 0, 1)) := by decide +kernel
theorem dX8_writeTo_41 : decode cX8_writeTo 41 = .ok (.iconst 3, 1) := bdX8_writeTo_41.1
theorem dX8_writeTo_42 : decode cX8_writeTo 42 = .ok (.iadd, 1) := bdX8_writeTo_41.2.1
theorem dX8_writeTo_43 : decode cX8_writeTo 43 = .ok (.aload_n 0, 1) := bdX8_writeTo_41.2.2.1
theorem dX8_writeTo_44 : decode cX8_writeTo 44 = .ok (.getfield 15, 3) := bdX8_writeTo_41.2.2.2.1
theorem dX8_writeTo_47 : decode cX8_writeTo 47 = .ok (.iastore, 1) := bdX8_writeTo_41.2.2.2.2.1
theorem dX8_writeTo_48 : decode cX8_writeTo 48 = .ok (.aload_n 1, 1) := bdX8_writeTo_41.2.2.2.2.2.1
theorem dX8_writeTo_49 : decode cX8_writeTo 49 = .ok (.iload_n 2, 1) := bdX8_writeTo_41.2.2.2.2.2.2.1
theorem dX8_writeTo_50 : decode cX8_writeTo 50 = .ok (.iconst 4, 1) := bdX8_writeTo_41.2.2.2.2.2.2.2.1
theorem dX8_writeTo_51 : decode cX8_writeTo 51 = .ok (.iadd, 1) := bdX8_writeTo_41.2.2.2.2.2.2.2.2.1
theorem dX8_writeTo_52 : decode cX8_writeTo 52 = .ok (.aload_n 0, 1) := bdX8_writeTo_41.2.2.2.2.2.2.2.2.2
theorem bdX8_writeTo_53 : (decode cX8_writeTo 53 = .ok (.getfield 44, 3)) ∧ (decode cX8_writeTo 56 = .ok (.iastore, 1)) ∧ (decode cX8_writeTo 57 = .ok (.aload_n 1, 1)) ∧ (decode cX8_writeTo 58 = .ok (.iload_n 2, 1)) ∧ (decode cX8_writeTo 59 = .ok (.iconst 5, 1)) ∧ (decode cX8_writeTo 60 = .ok (.iadd, 1)) ∧ (decode cX8_writeTo 61 = .ok (.aload_n 0, 1)) ∧ (decode cX8_writeTo 62 = .ok (.getfield 35, 3)) ∧ (decode cX8_writeTo 65 = .ok (.iastore, 1)) ∧ (decode cX8_writeTo 66 = .ok (.aload_n 1, 1)) := by decide +kernel
theorem dX8_writeTo_53 : decode cX8_writeTo 53 = .ok (.getfield 44, 3) := bdX8_writeTo_53.1
theorem dX8_writeTo_56 : decode cX8_writeTo 56 = .ok (.iastore, 1) := bdX8_writeTo_53.2.1
theorem dX8_writeTo_57 : decode cX8_writeTo 57 = .ok (.aload_n 1, 1) := bdX8_writeTo_53.2.2.1
theorem dX8_writeTo_58 : decode cX8_writeTo 58 = .ok (.iload_n 2, 1) := bdX8_writeTo_53.2.2.2.1
theorem dX8_writeTo_59 : decode cX8_writeTo 59 = .ok (.iconst 5, 1) := bdX8_writeTo_53.2.2.2.2.1
theorem dX8_writeTo_60 : decode cX8_writeTo 60 = .ok (.iadd, 1) := bdX8_writeTo_53.2.2.2.2.2.1
theorem dX8_writeTo_61 : decode cX8_writeTo 61 = .ok (.aload_n 0, 1) := bdX8_writeTo_53.2.2.2.2.2.2.1
theorem dX8_writeTo_62 : decode cX8_writeTo 62 = .ok (.getfield 35, 3) := bdX8_writeTo_53.2.2.2.2.2.2.2.1
theorem dX8_writeTo_65 : decode cX8_writeTo 65 = .ok (.iastore, 1) := bdX8_writeTo_53.2.2.2.2.2.2.2.2.1
theorem dX8_writeTo_66 : decode cX8_writeTo 66 = .ok (.aload_n 1, 1) := bdX8_writeTo_53.2.2.2.2.2.2.2.2.2
theorem bdX8_writeTo_67 : (decode cX8_writeTo 67 = .ok (.iload_n 2, 1)) ∧ (decode cX8_writeTo 68 = .ok (.bipush 6, 2)) ∧ (decode cX8_writeTo 70 = .ok (.iadd, 1)) ∧ (decode cX8_writeTo 71 = .ok (.aload_n 0, 1)) ∧ (decode cX8_writeTo 72 = .ok (.getfield 38, 3)) ∧ (decode cX8_writeTo 75 = .ok (.iastore, 1)) ∧ (decode cX8_writeTo 76 = .ok (.iconst 0, 1)) ∧ (decode cX8_writeTo 77 = .ok (.istore_n 3, 1)) ∧ (decode cX8_writeTo 78 = .ok (.iload_n 3, 1)) ∧ (decode cX8_writeTo 79 = .ok (.bipush 8, 2)) := by decide +kernel
theorem dX8_writeTo_67 : decode cX8_writeTo 67 = .ok (.iload_n 2, 1) := bdX8_writeTo_67.1
theorem dX8_writeTo_68 : decode cX8_writeTo 68 = .ok (.bipush 6, 2) := bdX8_writeTo_67.2.1
theorem dX8_writeTo_70 : decode cX8_writeTo 70 = .ok (.iadd, 1) := bdX8_writeTo_67.2.2.1
theorem dX8_writeTo_71 : decode cX8_writeTo 71 = .ok (.aload_n 0, 1) := bdX8_writeTo_67.2.2.2.1
theorem dX8_writeTo_72 : decode cX8_writeTo 72 = .ok (.getfield 38, 3) := bdX8_writeTo_67.2.2.2.2.1
theorem dX8_writeTo_75 : decode cX8_writeTo 75 = .ok (.iastore, 1) := bdX8_writeTo_67.2.2.2.2.2.1
theorem dX8_writeTo_76 : decode cX8_writeTo 76 = .ok (.iconst 0, 1) := bdX8_writeTo_67.2.2.2.2.2.2.1
theorem dX8_writeTo_77 : decode cX8_writeTo 77 = .ok (.istore_n 3, 1) := bdX8_writeTo_67.2.2.2.2.2.2.2.1
theorem dX8_writeTo_78 : decode cX8_writeTo 78 = .ok (.iload_n 3, 1) := bdX8_writeTo_67.2.2.2.2.2.2.2.2.1
theorem dX8_writeTo_79 : decode cX8_writeTo 79 = .ok (.bipush 8, 2) := bdX8_writeTo_67.2.2.2.2.2.2.2.2.2
theorem bdX8_writeTo_81 : (decode cX8_writeTo 81 = .ok (.if_icmp .ge 57, 3)) ∧ (decode cX8_writeTo 84 = .ok (.aload_n 1, 1)) ∧ (decode cX8_writeTo 85 = .ok (.iload_n 2, 1)) ∧ (decode cX8_writeTo 86 = .ok (.bipush 7, 2)) ∧ (decode cX8_writeTo 88 = .ok (.iadd, 1)) ∧ (decode cX8_writeTo 89 = .ok (.iload_n 3, 1)) ∧ (decode cX8_writeTo 90 = .ok (.iadd, 1)) ∧ (decode cX8_writeTo 91 = .ok (.aload_n 0, 1)) ∧ (decode cX8_writeTo 92 = .ok (.getfield 18, 3)) ∧ (decode cX8_writeTo 95 = .ok (.iload_n 3, 1)) := by decide +kernel
theorem dX8_writeTo_81 : decode cX8_writeTo 81 = .ok (.if_icmp .ge 57, 3) := bdX8_writeTo_81.1
theorem dX8_writeTo_84 : decode cX8_writeTo 84 = .ok (.aload_n 1, 1) := bdX8_writeTo_81.2.1
theorem dX8_writeTo_85 : decode cX8_writeTo 85 = .ok (.iload_n 2, 1) := bdX8_writeTo_81.2.2.1
theorem dX8_writeTo_86 : decode cX8_writeTo 86 = .ok (.bipush 7, 2) := bdX8_writeTo_81.2.2.2.1
theorem dX8_writeTo_88 : decode cX8_writeTo 88 = .ok (.iadd, 1) := bdX8_writeTo_81.2.2.2.2.1
theorem dX8_writeTo_89 : decode cX8_writeTo 89 = .ok (.iload_n 3, 1) := bdX8_writeTo_81.2.2.2.2.2.1
theorem dX8_writeTo_90 : decode cX8_writeTo 90 = .ok (.iadd, 1) := bdX8_writeTo_81.2.2.2.2.2.2.1
theorem dX8_writeTo_91 : decode cX8_writeTo 91 = .ok (.aload_n 0, 1) := bdX8_writeTo_81.2.2.2.2.2.2.2.1
theorem dX8_writeTo_92 : decode cX8_writeTo 92 = .ok (.getfield 18, 3) := bdX8_writeTo_81.2.2.2.2.2.2.2.2.1
theorem dX8_writeTo_95 : decode cX8_writeTo 95 = .ok (.iload_n 3, 1) := bdX8_writeTo_81.2.2.2.2.2.2.2.2.2
theorem bdX8_writeTo_96 : (decode cX8_writeTo 96 = .ok (.iaload, 1)) ∧ (decode cX8_writeTo 97 = .ok (.iastore, 1)) ∧ (decode cX8_writeTo 98 = .ok (.aload_n 1, 1)) ∧ (decode cX8_writeTo 99 = .ok (.iload_n 2, 1)) ∧ (decode cX8_writeTo 100 = .ok (.bipush 7, 2)) ∧ (decode cX8_writeTo 102 = .ok (.iadd, 1)) ∧ (decode cX8_writeTo 103 = .ok (.bipush 8, 2)) ∧ (decode cX8_writeTo 105 = .ok (.iadd, 1)) ∧ (decode cX8_writeTo 106 = .ok (.iload_n 3, 1)) ∧ (decode cX8_writeTo 107 = .ok (.iadd, 1)) := by decide +kernel
theorem dX8_writeTo_96 : decode cX8_writeTo 96 = .ok (.iaload, 1) := bdX8_writeTo_96.1
theorem dX8_writeTo_97 : decode cX8_writeTo 97 = .ok (.iastore, 1) := bdX8_writeTo_96.2.1
theorem dX8_writeTo_98 : decode cX8_writeTo 98 = .ok (.aload_n 1, 1) := bdX8_writeTo_96.2.2.1
theorem dX8_writeTo_99 : decode cX8_writeTo 99 = .ok (.iload_n 2, 1) := bdX8_writeTo_96.2.2.2.1
theorem dX8_writeTo_100 : decode cX8_writeTo 100 = .ok (.bipush 7, 2) := bdX8_writeTo_96.2.2.2.2.1
theorem dX8_writeTo_102 : decode cX8_writeTo 102 = .ok (.iadd, 1) := bdX8_writeTo_96.2.2.2.2.2.1
theorem dX8_writeTo_103 : decode cX8_writeTo 103 = .ok (.bipush 8, 2) := bdX8_writeTo_96.2.2.2.2.2.2.1
theorem dX8_writeTo_105 : decode cX8_writeTo 105 = .ok (.iadd, 1) := bdX8_writeTo_96.2.2.2.2.2.2.2.1
theorem dX8_writeTo_106 : decode cX8_writeTo 106 = .ok (.iload_n 3, 1) := bdX8_writeTo_96.2.2.2.2.2.2.2.2.1
theorem dX8_writeTo_107 : decode cX8_writeTo 107 = .ok (.iadd, 1) := bdX8_writeTo_96.2.2.2.2.2.2.2.2.2
theorem bdX8_writeTo_108 : (decode cX8_writeTo 108 = .ok (.aload_n 0, 1)) ∧ (decode cX8_writeTo 109 = .ok (.getfield 22, 3)) ∧ (decode cX8_writeTo 112 = .ok (.iload_n 3, 1)) ∧ (decode cX8_writeTo 113 = .ok (.iaload, 1)) ∧ (decode cX8_writeTo 114 = .ok (.iastore, 1)) ∧ (decode cX8_writeTo 115 = .ok (.aload_n 1, 1)) ∧ (decode cX8_writeTo 116 = .ok (.iload_n 2, 1)) ∧ (decode cX8_writeTo 117 = .ok (.bipush 7, 2)) ∧ (decode cX8_writeTo 119 = .ok (.iadd, 1)) ∧ (decode cX8_writeTo 120 = .ok (.bipush 16, 2)) := by decide +kernel
theorem dX8_writeTo_108 : decode cX8_writeTo 108 = .ok (.aload_n 0, 1) := bdX8_writeTo_108.1
theorem dX8_writeTo_109 : decode cX8_writeTo 109 = .ok (.getfield 22, 3) := bdX8_writeTo_108.2.1
theorem dX8_writeTo_112 : decode cX8_writeTo 112 = .ok (.iload_n 3, 1) := bdX8_writeTo_108.2.2.1
theorem dX8_writeTo_113 : decode cX8_writeTo 113 = .ok (.iaload, 1) := bdX8_writeTo_108.2.2.2.1
theorem dX8_writeTo_114 : decode cX8_writeTo 114 = .ok (.iastore, 1) := bdX8_writeTo_108.2.2.2.2.1
theorem dX8_writeTo_115 : decode cX8_writeTo 115 = .ok (.aload_n 1, 1) := bdX8_writeTo_108.2.2.2.2.2.1
theorem dX8_writeTo_116 : decode cX8_writeTo 116 = .ok (.iload_n 2, 1) := bdX8_writeTo_108.2.2.2.2.2.2.1
theorem dX8_writeTo_117 : decode cX8_writeTo 117 = .ok (.bipush 7, 2) := bdX8_writeTo_108.2.2.2.2.2.2.2.1
theorem dX8_writeTo_119 : decode cX8_writeTo 119 = .ok (.iadd, 1) := bdX8_writeTo_108.2.2.2.2.2.2.2.2.1
theorem dX8_writeTo_120 : decode cX8_writeTo 120 = .ok (.bipush 16, 2) := bdX8_writeTo_108.2.2.2.2.2.2.2.2.2
theorem bdX8_writeTo_122 : (decode cX8_writeTo 122 = .ok (.iadd, 1)) ∧ (decode cX8_writeTo 123 = .ok (.iload_n 3, 1)) ∧ (decode cX8_writeTo 124 = .ok (.iadd, 1)) ∧ (decode cX8_writeTo 125 = .ok (.aload_n 0, 1)) ∧ (decode cX8_writeTo 126 = .ok (.getfield 25, 3)) ∧ (decode cX8_writeTo 129 = .ok (.iload_n 3, 1)) ∧ (decode cX8_writeTo 130 = .ok (.iaload, 1)) ∧ (decode cX8_writeTo 131 = .ok (.iastore, 1)) ∧ (decode cX8_writeTo 132 = .ok (.iinc 3 1, 3)) ∧ (decode cX8_writeTo 135 = .ok (.goto (-57), 3)) := by decide +kernel
theorem dX8_writeTo_122 : decode cX8_writeTo 122 = .ok (.iadd, 1) := bdX8_writeTo_122.1
theorem dX8_writeTo_123 : decode cX8_writeTo 123 = .ok (.iload_n 3, 1) := bdX8_writeTo_122.2.1
theorem dX8_writeTo_124 : decode cX8_writeTo 124 = .ok (.iadd, 1) := bdX8_writeTo_122.2.2.1
theorem dX8_writeTo_125 : decode cX8_writeTo 125 = .ok (.aload_n 0, 1) := bdX8_writeTo_122.2.2.2.1
theorem dX8_writeTo_126 : decode cX8_writeTo 126 = .ok (.getfield 25, 3) := bdX8_writeTo_122.2.2.2.2.1
theorem dX8_writeTo_129 : decode cX8_writeTo 129 = .ok (.iload_n 3, 1) := bdX8_writeTo_122.2.2.2.2.2.1
theorem dX8_writeTo_130 : decode cX8_writeTo 130 = .ok (.iaload, 1) := bdX8_writeTo_122.2.2.2.2.2.2.1
theorem dX8_writeTo_131 : decode cX8_writeTo 131 = .ok (.iastore, 1) := bdX8_writeTo_122.2.2.2.2.2.2.2.1
theorem dX8_writeTo_132 : decode cX8_writeTo 132 = .ok (.iinc 3 1, 3) := bdX8_writeTo_122.2.2.2.2.2.2.2.2.1
theorem dX8_writeTo_135 : decode cX8_writeTo 135 = .ok (.goto (-57), 3) := bdX8_writeTo_122.2.2.2.2.2.2.2.2.2
theorem bdX8_writeTo_138 : (decode cX8_writeTo 138 = .ok (.return_, 1)) := by decide +kernel
theorem dX8_writeTo_138 : decode cX8_writeTo 138 = .ok (.return_, 1) := bdX8_writeTo_138
theorem bdX8_readFrom_0 : (decode cX8_readFrom 0 = .ok (.iload_n 2, 1)) ∧ (decode cX8_readFrom 1 = .ok (.ifCond .lt 12, 3)) ∧ (decode cX8_readFrom 4 = .ok (.iload_n 2, 1)) ∧ (decode cX8_readFrom 5 = .ok (.aload_n 1, 1)) ∧ (decode cX8_readFrom 6 = .ok (.arraylength, 1)) ∧ (decode cX8_readFrom 7 = .ok (.bipush 31, 2)) ∧ (decode cX8_readFrom 9 = .ok (.isub, 1)) ∧ (decode cX8_readFrom 10 = .ok (.if_icmp .le 4, 3)) ∧ (decode cX8_readFrom 13 = .ok (.return_, 1)) ∧ (decode cX8_readFrom 14 = .ok (.aload_n 0, 1)) := by decide +kernel
theorem dX8_readFrom_0 : decode cX8_readFrom 0 = .ok (.iload_n 2, 1) := bdX8_readFrom_0.1
theorem dX8_readFrom_1 : decode cX8_readFrom 1 = .ok (.ifCond .lt 12, 3) := bdX8_readFrom_0.2.1
theorem dX8_readFrom_4 : decode cX8_readFrom 4 = .ok (.iload_n 2, 1) := bdX8_readFrom_0.2.2.1
theorem dX8_readFrom_5 : decode cX8_readFrom 5 = .ok (.aload_n 1, 1) := bdX8_readFrom_0.2.2.2.1
theorem dX8_readFrom_6 : decode cX8_readFrom 6 = .ok (.arraylength, 1) := bdX8_readFrom_0.2.2.2.2.1
theorem dX8_readFrom_7 : decode cX8_readFrom 7 = .ok (.bipush 31, 2) := bdX8_readFrom_0.2.2.2.2.2.1
theorem dX8_readFrom_9 : decode cX8_readFrom 9 = .ok (.isub, 1) := bdX8_readFrom_0.2.2.2.2.2.2.1
theorem dX8_readFrom_10 : decode cX8_readFrom 10 = .ok (.if_icmp .le 4, 3) := bdX8_readFrom_0.2.2.2.2.2.2.2.1
theorem dX8_readFrom_13 : decode cX8_readFrom 13 = .ok (.return_, 1) := bdX8_readFrom_0.2.2.2.2.2.2.2.2.1
theorem dX8_readFrom_14 : decode cX8_readFrom 14 = .ok (.aload_n 0, 1) := bdX8_readFrom_0.2.2.2.2.2.2.2.2.2
theorem bdX8_readFrom_15 : (decode cX8_readFrom 15 = .ok (.aload_n 1, 1)) ∧ (decode cX8_readFrom 16 = .ok (.iload_n 2, 1)) ∧ (decode cX8_readFrom 17 = .ok (.iaload, 1)) ∧ (decode cX8_readFrom 18 = .ok (.putfield 28, 3)) ∧ (decode cX8_readFrom 21 = .ok (.aload_n 0, 1)) ∧ (decode cX8_readFrom 22 = .ok (.aload_n 1, 1)) ∧ (decode cX8_readFrom 23 = .ok (.iload_n 2, 1)) ∧ (decode cX8_readFrom 24 = .ok (.iconst 1, 1)) ∧ (decode cX8_readFrom 25 = .ok (.iadd, 1)) ∧ (decode cX8_readFrom 26 = .ok (.iaload, 1)) := by decide +kernel
theorem dX8_readFrom_15 : decode cX8_readFrom 15 = .ok (.aload_n 1, 1) := bdX8_readFrom_15.1
theorem dX8_readFrom_16 : decode cX8_readFrom 16 = .ok (.iload_n 2, 1) := bdX8_readFrom_15.2.1
theorem dX8_readFrom_17 : decode cX8_readFrom 17 = .ok (.iaload, 1) := bdX8_readFrom_15.2.2.1
theorem dX8_readFrom_18 : decode cX8_readFrom 18 = .ok (.putfield 28, 3) := bdX8_readFrom_15.2.2.2.1
theorem dX8_readFrom_21 : decode cX8_readFrom 21 = .ok (.aload_n 0, 1) := bdX8_readFrom_15.2.2.2.2.1
theorem dX8_readFrom_22 : decode cX8_readFrom 22 = .ok (.aload_n 1, 1) := bdX8_readFrom_15.2.2.2.2.2.1
theorem dX8_readFrom_23 : decode cX8_readFrom 23 = .ok (.iload_n 2, 1) := bdX8_readFrom_15.2.2.2.2.2.2.1
theorem dX8_readFrom_24 : decode cX8_readFrom 24 = .ok (.iconst 1, 1) := bdX8_readFrom_15.2.2.2.2.2.2.2.1
theorem dX8_readFrom_25 : decode cX8_readFrom 25 = .ok (.iadd, 1) := bdX8_readFrom_15.2.2.2.2.2.2.2.2.1
theorem dX8_readFrom_26 : decode cX8_readFrom 26 = .ok (.iaload, 1) := bdX8_readFrom_15.2.2.2.2.2.2.2.2.2
theorem bdX8_readFrom_27 : (decode cX8_readFrom 27 = .ok (.putfield 47, 3)) ∧ (decode cX8_readFrom 30 = .ok (.aload_n 0, 1)) ∧ (decode cX8_readFrom 31 = .ok (.aload_n 1, 1)) ∧ (decode cX8_readFrom 32 = .ok (.iload_n 2, 1)) ∧ (decode cX8_readFrom 33 = .ok (.iconst 2, 1)) ∧ (decode cX8_readFrom 34 = .ok (.iadd, 1)) ∧ (decode cX8_readFrom 35 = .ok (.iaload, 1)) ∧ (decode cX8_readFrom 36 = .ok (.putfield 9, 3)) ∧ (decode cX8_readFrom 39 = .ok (.aload_n 0, 1)) ∧ (decode cX8_readFrom 40 = .ok (.aload_n 1, 1)) := by decide +kernel
theorem dX8_readFrom_27 : decode cX8_readFrom 27 = .ok (.putfield 47, 3) := bdX8_readFrom_27.1
theorem dX8_readFrom_30 : decode cX8_readFrom 30 = .ok (.aload_n 0, 1) := bdX8_readFrom_27.2.1
theorem dX8_readFrom_31 : decode cX8_readFrom 31 = .ok (.aload_n 1, 1) := bdX8_readFrom_27.2.2.1
theorem dX8_readFrom_32 : decode cX8_readFrom 32 = .ok (.iload_n 2, 1) := bdX8_readFrom_27.2.2.2.1
theorem dX8_readFrom_33 : decode cX8_readFrom 33 = .ok (.iconst 2, 1) := bdX8_readFrom_27.2.2.2.2.1
theorem dX8_readFrom_34 : decode cX8_readFrom 34 = .ok (.iadd, 1) := bdX8_readFrom_27.2.2.2.2.2.1
theorem dX8_readFrom_35 : decode cX8_readFrom 35 = .ok (.iaload, 1) := bdX8_readFrom_27.2.2.2.2.2.2.1
theorem dX8_readFrom_36 : decode cX8_readFrom 36 = .ok (.putfield 9, 3) := bdX8_readFrom_27.2.2.2.2.2.2.2.1
theorem dX8_readFrom_39 : decode cX8_readFrom 39 = .ok (.aload_n 0, 1) := bdX8_readFrom_27.2.2.2.2.2.2.2.2.1
theorem dX8_readFrom_40 : decode cX8_readFrom 40 = .ok (.aload_n 1, 1) := bdX8_readFrom_27.2.2.2.2.2.2.2.2.2
theorem bdX8_readFrom_41 : (decode cX8_readFrom 41 = .ok (.iload_n 2, 1)) ∧ (decode cX8_readFrom 42 = .ok (.iconst 3, 1)) ∧ (decode cX8_readFrom 43 = .ok (.iadd, 1)) ∧ (decode cX8_readFrom 44 = .ok (.iaload, 1)) ∧ (decode cX8_readFrom 45 = .ok (.putfield 15, 3)) ∧ (decode cX8_readFrom 48 = .ok (.aload_n 0, 1)) ∧ (decode cX8_readFrom 49 = .ok (.aload_n 1, 1)) ∧ (decode cX8_readFrom 50 = .ok (.iload_n 2, 1)) ∧ (decode cX8_readFrom 51 = .ok (.iconst 4, 1)) ∧ (decode cX8_readFrom 52 = .ok (.iadd, 1)) := by decide +kernel
theorem dX8_readFrom_41 : decode cX8_readFrom 41 = .ok (.iload_n 2, 1) := bdX8_readFrom_41.1
theorem dX8_readFrom_42 : decode cX8_readFrom 42 = .ok (.iconst 3, 1) := bdX8_readFrom_41.2.1
theorem dX8_readFrom_43 : decode cX8_readFrom 43 = .ok (.iadd, 1) := bdX8_readFrom_41.2.2.1
theorem dX8_readFrom_44 : decode cX8_readFrom 44 = .ok (.iaload, 1) := bdX8_readFrom_41.2.2.2.1
theorem dX8_readFrom_45 : decode cX8_readFrom 45 = .ok (.putfield 15, 3) := bdX8_readFrom_41.2.2.2.2.1
theorem dX8_readFrom_48 : decode cX8_readFrom 48 = .ok (.aload_n 0, 1) := bdX8_readFrom_41.2.2.2.2.2.1
theorem dX8_readFrom_49 : decode cX8_readFrom 49 = .ok (.aload_n 1, 1) := bdX8_readFrom_41.2.2.2.2.2.2.1
theorem dX8_readFrom_50 : decode cX8_readFrom 50 = .ok (.iload_n 2, 1) := bdX8_readFrom_41.2.2.2.2.2.2.2.1
theorem dX8_readFrom_51 : decode cX8_readFrom 51 = .ok (.iconst 4, 1) := bdX8_readFrom_41.2.2.2.2.2.2.2.2.1
theorem dX8_readFrom_52 : decode cX8_readFrom 52 = .ok (.iadd, 1) := bdX8_readFrom_41.2.2.2.2.2.2.2.2.2
theorem bdX8_readFrom_53 : (decode cX8_readFrom 53 = .ok (.iaload, 1)) ∧ (decode cX8_readFrom 54 = .ok (.putfield 44, 3)) ∧ (decode cX8_readFrom 57 = .ok (.aload_n 0, 1)) ∧ (decode cX8_readFrom 58 = .ok (.aload_n 1, 1)) ∧ (decode cX8_readFrom 59 = .ok (.iload_n 2, 1)) ∧ (decode cX8_readFrom 60 = .ok (.iconst 5, 1)) ∧ (decode cX8_readFrom 61 = .ok (.iadd, 1)) ∧ (decode cX8_readFrom 62 = .ok (.iaload, 1)) ∧ (decode cX8_readFrom 63 = .ok (.putfield 35, 3)) ∧ (decode cX8_readFrom 66 = .ok (.aload_n 0, 1)) := by decide +kernel
theorem dX8_readFrom_53 : decode cX8_readFrom 53 = .ok (.iaload, 1) := bdX8_readFrom_53.1
theorem dX8_readFrom_54 : decode cX8_readFrom 54 = .ok (.putfield 44, 3) := bdX8_readFrom_53.2.1
theorem dX8_readFrom_57 : decode cX8_readFrom 57 = .ok (.aload_n 0, 1) := bdX8_readFrom_53.2.2.1
theorem dX8_readFrom_58 : decode cX8_readFrom 58 = .ok (.aload_n 1, 1) := bdX8_readFrom_53.2.2.2.1
theorem dX8_readFrom_59 : decode cX8_readFrom 59 = .ok (.iload_n 2, 1) := bdX8_readFrom_53.2.2.2.2.1
theorem dX8_readFrom_60 : decode cX8_readFrom 60 = .ok (.iconst 5, 1) := bdX8_readFrom_53.2.2.2.2.2.1
theorem dX8_readFrom_61 : decode cX8_readFrom 61 = .ok (.iadd, 1) := bdX8_readFrom_53.2.2.2.2.2.2.1
theorem dX8_readFrom_62 : decode cX8_readFrom 62 = .ok (.iaload, 1) := bdX8_readFrom_53.2.2.2.2.2.2.2.1
theorem dX8_readFrom_63 : decode cX8_readFrom 63 = .ok (.putfield 35, 3) := bdX8_readFrom_53.2.2.2.2.2.2.2.2.1
theorem dX8_readFrom_66 : decode cX8_readFrom 66 = .ok (.aload_n 0, 1) := bdX8_readFrom_53.2.2.2.2.2.2.2.2.2
theorem bdX8_readFrom_67 : (decode cX8_readFrom 67 = .ok (.aload_n 1, 1)) ∧ (decode cX8_readFrom 68 = .ok (.iload_n 2, 1)) ∧ (decode cX8_readFrom 69 = .ok (.bipush 6, 2)) ∧ (decode cX8_readFrom 71 = .ok (.iadd, 1)) ∧ (decode cX8_readFrom 72 = .ok (.iaload, 1)) ∧ (decode cX8_readFrom 73 = .ok (.putfield 38, 3)) ∧ (decode cX8_readFrom 76 = .ok (.iconst 0, 1)) ∧ (decode cX8_readFrom 77 = .ok (.istore_n 3, 1)) ∧ (decode cX8_readFrom 78 = .ok (.iload_n 3, 1)) ∧ (decode cX8_readFrom 79 = .ok (.bipush 8, 2)) := by decide +kernel
theorem dX8_readFrom_67 : decode cX8_readFrom 67 = .ok (.aload_n 1, 1) := bdX8_readFrom_67.1
theorem dX8_readFrom_68 : decode cX8_readFrom 68 = .ok (.iload_n 2, 1) := bdX8_readFrom_67.2.1
theorem dX8_readFrom_69 : decode cX8_readFrom 69 = .ok (.bipush 6, 2) := bdX8_readFrom_67.2.2.1
theorem dX8_readFrom_71 : decode cX8_readFrom 71 = .ok (.iadd, 1) := bdX8_readFrom_67.2.2.2.1
theorem dX8_readFrom_72 : decode cX8_readFrom 72 = .ok (.iaload, 1) := bdX8_readFrom_67.2.2.2.2.1
theorem dX8_readFrom_73 : decode cX8_readFrom 73 = .ok (.putfield 38, 3) := bdX8_readFrom_67.2.2.2.2.2.1
theorem dX8_readFrom_76 : decode cX8_readFrom 76 = .ok (.iconst 0, 1) := bdX8_readFrom_67.2.2.2.2.2.2.1
theorem dX8_readFrom_77 : decode cX8_readFrom 77 = .ok (.istore_n 3, 1) := bdX8_readFrom_67.2.2.2.2.2.2.2.1
theorem dX8_readFrom_78 : decode cX8_readFrom 78 = .ok (.iload_n 3, 1) := bdX8_readFrom_67.2.2.2.2.2.2.2.2.1
theorem dX8_readFrom_79 : decode cX8_readFrom 79 = .ok (.bipush 8, 2) := bdX8_readFrom_67.2.2.2.2.2.2.2.2.2
theorem bdX8_readFrom_81 : (decode cX8_readFrom 81 = .ok (.if_icmp .ge 57, 3)) ∧ (decode cX8_readFrom 84 = .ok (.aload_n 0, 1)) ∧ (decode cX8_readFrom 85 = .ok (.getfield 18, 3)) ∧ (decode cX8_readFrom 88 = .ok (.iload_n 3, 1)) ∧ (decode cX8_readFrom 89 = .ok (.aload_n 1, 1)) ∧ (decode cX8_readFrom 90 = .ok (.iload_n 2, 1)) ∧ (decode cX8_readFrom 91 = .ok (.bipush 7, 2)) ∧ (decode cX8_readFrom 93 = .ok (.iadd, 1)) ∧ (decode cX8_readFrom 94 = .ok (.iload_n 3, 1)) ∧ (decode cX8_readFrom 95 = .ok (.iadd, 1)) := by decide +kernel
theorem dX8_readFrom_81 : decode cX8_readFrom 81 = .ok (.if_icmp .ge 57, 3) := bdX8_readFrom_81.1
theorem dX8_readFrom_84 : decode cX8_readFrom 84 = .ok (.aload_n 0, 1) := bdX8_readFrom_81.2.1
theorem dX8_readFrom_85 : decode cX8_readFrom 85 = .ok (.getfield 18, 3) := bdX8_readFrom_81.2.2.1
theorem dX8_readFrom_88 : decode cX8_readFrom 88 = .ok (.iload_n 3, 1) := bdX8_readFrom_81.2.2.2.1
theorem dX8_readFrom_89 : decode cX8_readFrom 89 = .ok (.aload_n 1, 1) := bdX8_readFrom_81.2.2.2.2.1
theorem dX8_readFrom_90 : decode cX8_readFrom 90 = .ok (.iload_n 2, 1) := bdX8_readFrom_81.2.2.2.2.2.1
theorem dX8_readFrom_91 : decode cX8_readFrom 91 = .ok (.bipush 7, 2) := bdX8_readFrom_81.2.2.2.2.2.2.1
theorem dX8_readFrom_93 : decode cX8_readFrom 93 = .ok (.iadd, 1) := bdX8_readFrom_81.2.2.2.2.2.2.2.1
theorem dX8_readFrom_94 : decode cX8_readFrom 94 = .ok (.iload_n 3, 1) := bdX8_readFrom_81.2.2.2.2.2.2.2.2.1
theorem dX8_readFrom_95 : decode cX8_readFrom 95 = .ok (.iadd, 1) := bdX8_readFrom_81.2.2.2.2.2.2.2.2.2
theorem bdX8_readFrom_96 : (decode cX8_readFrom 96 = .ok (.iaload, 1)) ∧ (decode cX8_readFrom 97 = .ok (.iastore, 1)) ∧ (decode cX8_readFrom 98 = .ok (.aload_n 0, 1)) ∧ (decode cX8_readFrom 99 = .ok (.getfield 22, 3)) ∧ (decode cX8_readFrom 102 = .ok (.iload_n 3, 1)) ∧ (decode cX8_readFrom 103 = .ok (.aload_n 1, 1)) ∧ (decode cX8_readFrom 104 = .ok (.iload_n 2, 1)) ∧ (decode cX8_readFrom 105 = .ok (.bipush 7, 2)) ∧ (decode cX8_readFrom 107 = .ok (.iadd, 1)) ∧ (decode cX8_readFrom 108 = .ok (.bipush 8, 2)) := by decide +kernel
theorem dX8_readFrom_96 : decode cX8_readFrom 96 = .ok (.iaload, 1) := bdX8_readFrom_96.1
theorem dX8_readFrom_97 : decode cX8_readFrom 97 = .ok (.iastore, 1) := bdX8_readFrom_96.2.1
theorem dX8_readFrom_98 : decode cX8_readFrom 98 = .ok (.aload_n 0, 1) := bdX8_readFrom_96.2.2.1
theorem dX8_readFrom_99 : decode cX8_readFrom 99 = .ok (.getfield 22, 3) := bdX8_readFrom_96.2.2.2.1
theorem dX8_readFrom_102 : decode cX8_readFrom 102 = .ok (.iload_n 3, 1) := bdX8_readFrom_96.2.2.2.2.1
theorem dX8_readFrom_103 : decode cX8_readFrom 103 = .ok (.aload_n 1, 1) := bdX8_readFrom_96.2.2.2.2.2.1
theorem dX8_readFrom_104 : decode cX8_readFrom 104 = .ok (.iload_n 2, 1) := bdX8_readFrom_96.2.2.2.2.2.2.1
theorem dX8_readFrom_105 : decode cX8_readFrom 105 = .ok (.bipush 7, 2) := bdX8_readFrom_96.2.2.2.2.2.2.2.1
theorem dX8_readFrom_107 : decode cX8_readFrom 107 = .ok (.iadd, 1) := bdX8_readFrom_96.2.2.2.2.2.2.2.2.1
theorem dX8_readFrom_108 : decode cX8_readFrom 108 = .ok (.bipush 8, 2) := bdX8_readFrom_96.2.2.2.2.2.2.2.2.2
theorem bdX8_readFrom_110 : (decode cX8_readFrom 110 = .ok (.iadd, 1)) ∧ (decode cX8_readFrom 111 = .ok (.iload_n 3, 1)) ∧ (decode cX8_readFrom 112 = .ok (.iadd, 1)) ∧ (decode cX8_readFrom 113 = .ok (.iaload, 1)) ∧ (decode cX8_readFrom 114 = .ok (.iastore, 1)) ∧ (decode cX8_readFrom 115 = .ok (.aload_n 0, 1)) ∧ (decode cX8_readFrom 116 = .ok (.getfield 25, 3)) ∧ (decode cX8_readFrom 119 = .ok (.iload_n 3, 1)) ∧ (decode cX8_readFrom 120 = .ok (.aload_n 1, 1)) ∧ (decode cX8_readFrom 121 = .ok (.iload_n 2, 1)) := by decide +kernel
theorem dX8_readFrom_110 : decode cX8_readFrom 110 = .ok (.iadd, 1) := bdX8_readFrom_110.1
theorem dX8_readFrom_111 : decode cX8_readFrom 111 = .ok (.iload_n 3, 1) := bdX8_readFrom_110.2.1
theorem dX8_readFrom_112 : decode cX8_readFrom 112 = .ok (.iadd, 1) := bdX8_readFrom_110.2.2.1
theorem dX8_readFrom_113 : decode cX8_readFrom 113 = .ok (.iaload, 1) := bdX8_readFrom_110.2.2.2.1
theorem dX8_readFrom_114 : decode cX8_readFrom 114 = .ok (.iastore, 1) := bdX8_readFrom_110.2.2.2.2.1
theorem dX8_readFrom_115 : decode cX8_readFrom 115 = .ok (.aload_n 0, 1) := bdX8_readFrom_110.2.2.2.2.2.1
theorem dX8_readFrom_116 : decode cX8_readFrom 116 = .ok (.getfield 25, 3) := bdX8_readFrom_110.2.2.2.2.2.2.1
theorem dX8_readFrom_119 : decode cX8_readFrom 119 = .ok (.iload_n 3, 1) := bdX8_readFrom_110.2.2.2.2.2.2.2.1
theorem dX8_readFrom_120 : decode cX8_readFrom 120 = .ok (.aload_n 1, 1) := bdX8_readFrom_110.2.2.2.2.2.2.2.2.1
theorem dX8_readFrom_121 : decode cX8_readFrom 121 = .ok (.iload_n 2, 1) := bdX8_readFrom_110.2.2.2.2.2.2.2.2.2
theorem bdX8_readFrom_122 : (decode cX8_readFrom 122 = .ok (.bipush 7, 2)) ∧ (decode cX8_readFrom 124 = .ok (.iadd, 1)) ∧ (decode cX8_readFrom 125 = .ok (.bipush 16, 2)) ∧ (decode cX8_readFrom 127 = .ok (.iadd, 1)) ∧ (decode cX8_readFrom 128 = .ok (.iload_n 3, 1)) ∧ (decode cX8_readFrom 129 = .ok (.iadd, 1)) ∧ (decode cX8_readFrom 130 = .ok (.iaload, 1)) ∧ (decode cX8_readFrom 131 = .ok (.iastore, 1)) ∧ (decode cX8_readFrom 132 = .ok (.iinc 3 1, 3)) ∧ (decode cX8_readFrom 135 = .ok (.goto (-57), 3)) := by decide +kernel
theorem dX8_readFrom_122 : decode cX8_readFrom 122 = .ok (.bipush 7, 2) := bdX8_readFrom_122.1
theorem dX8_readFrom_124 : decode cX8_readFrom 124 = .ok (.iadd, 1) := bdX8_readFrom_122.2.1
theorem dX8_readFrom_125 : decode cX8_readFrom 125 = .ok (.bipush 16, 2) := bdX8_readFrom_122.2.2.1
theorem dX8_readFrom_127 : decode cX8_readFrom 127 = .ok (.iadd, 1) := bdX8_readFrom_122.2.2.2.1
theorem dX8_readFrom_128 : decode cX8_readFrom 128 = .ok (.iload_n 3, 1) := bdX8_readFrom_122.2.2.2.2.1
theorem dX8_readFrom_129 : decode cX8_readFrom 129 = .ok (.iadd, 1) := bdX8_readFrom_122.2.2.2.2.2.1
theorem dX8_readFrom_130 : decode cX8_readFrom 130 = .ok (.iaload, 1) := bdX8_readFrom_122.2.2.2.2.2.2.1
theorem dX8_readFrom_131 : decode cX8_readFrom 131 = .ok (.iastore, 1) := bdX8_readFrom_122.2.2.2.2.2.2.2.1
theorem dX8_readFrom_132 : decode cX8_readFrom 132 = .ok (.iinc 3 1, 3) := bdX8_readFrom_122.2.2.2.2.2.2.2.2.1
theorem dX8_readFrom_135 : decode cX8_readFrom 135 = .ok (.goto (-57), 3) := bdX8_readFrom_122.2.2.2.2.2.2.2.2.2
theorem bdX8_readFrom_138 : (decode cX8_readFrom 138 = .ok (.return_, 1)) := by decide +kernel
theorem dX8_readFrom_138 : decode cX8_readFrom 138 = .ok (.return_, 1) := bdX8_readFrom_138
theorem bdX9_init_0 : (decode cX9_init 0 = .ok (.aload_n 0, 1)) ∧ (decode cX9_init 1 = .ok (.invokespecial 3, 3)) ∧ (decode cX9_init 4 = .ok (.aload_n 0, 1)) ∧ (decode cX9_init 5 = .ok (.sipush 700, 3)) ∧ (decode cX9_init 8 = .ok (.newarray .byte, 2)) ∧ (decode cX9_init 10 = .ok (.putfield 9, 3)) ∧ (decode cX9_init 13 = .ok (.aload_n 0, 1)) ∧ (decode cX9_init 14 = .ok (.iconst 0, 1)) ∧ (decode cX9_init 15 = .ok (.putfield 15, 3)) ∧ (decode cX9_init 18 = .ok (.return_, 1)) := by decide +kernel
theorem dX9_init_0 : decode cX9_init 0 = .ok (.aload_n 0, 1) := bdX9_init_0.1
theorem dX9_init_1 : decode cX9_init 1 = .ok (.invokespecial 3, 3) := bdX9_init_0.2.1
theorem dX9_init_4 : decode cX9_init 4 = .ok (.aload_n 0, 1) := bdX9_init_0.2.2.1
theorem dX9_init_5 : decode cX9_init 5 = .ok (.sipush 700, 3) := bdX9_init_0.2.2.2.1
theorem dX9_init_8 : decode cX9_init 8 = .ok (.newarray .byte, 2) := bdX9_init_0.2.2.2.2.1
theorem dX9_init_10 : decode cX9_init 10 = .ok (.putfield 9, 3) := bdX9_init_0.2.2.2.2.2.1
theorem dX9_init_13 : decode cX9_init 13 = .ok (.aload_n 0, 1) := bdX9_init_0.2.2.2.2.2.2.1
theorem dX9_init_14 : decode cX9_init 14 = .ok (.iconst 0, 1) := bdX9_init_0.2.2.2.2.2.2.2.1
theorem dX9_init_15 : decode cX9_init 15 = .ok (.putfield 15, 3) := bdX9_init_0.2.2.2.2.2.2.2.2.1
theorem dX9_init_18 : decode cX9_init 18 = .ok (.return_, 1) := bdX9_init_0.2.2.2.2.2.2.2.2.2
theorem bdX9_append_0 : (decode cX9_append 0 = .ok (.bipush 24, 2)) ∧ (decode cX9_append 2 = .ok (.istore_n 2, 1)) ∧ (decode cX9_append 3 = .ok (.iload_n 2, 1)) ∧ (decode cX9_append 4 = .ok (.ifCond .lt 44, 3)) ∧ (decode cX9_append 7 = .ok (.aload_n 0, 1)) ∧ (decode cX9_append 8 = .ok (.getfield 15, 3)) ∧ (decode cX9_append 11 = .ok (.aload_n 0, 1)) ∧ (decode cX9_append 12 = .ok (.getfield 9, 3)) ∧ (decode cX9_append 15 = .ok (.arraylength, 1)) ∧ (decode cX9_append 16 = .ok (.if_icmp .ge 32, 3)) := by decide +kernel
theorem dX9_append_0 : decode cX9_append 0 = .ok (.bipush 24, 2) := bdX9_append_0.1
theorem dX9_append_2 : decode cX9_append 2 = .ok (.istore_n 2, 1) := bdX9_append_0.2.1
theorem dX9_append_3 : decode cX9_append 3 = .ok (.iload_n 2, 1) := bdX9_append_0.2.2.1
theorem dX9_append_4 : decode cX9_append 4 = .ok (.ifCond .lt 44, 3) := bdX9_append_0.2.2.2.1
theorem dX9_append_7 : decode cX9_append 7 = .ok (.aload_n 0, 1) := bdX9_append_0.2.2.2.2.1
theorem dX9_append_8 : decode cX9_append 8 = .ok (.getfield 15, 3) := bdX9_append_0.2.2.2.2.2.1
theorem dX9_append_11 : decode cX9_append 11 = .ok (.aload_n 0, 1) := bdX9_append_0.2.2.2.2.2.2.1
theorem dX9_append_12 : decode cX9_append 12 = .ok (.getfield 9, 3) := bdX9_append_0.2.2.2.2.2.2.2.1
theorem dX9_append_15 : decode cX9_append 15 = .ok (.arraylength, 1) := bdX9_append_0.2.2.2.2.2.2.2.2.1
theorem dX9_append_16 : decode cX9_append 16 = .ok (.if_icmp .ge 32, 3) := bdX9_append_0.2.2.2.2.2.2.2.2.2
theorem bdX9_append_19 : (decode cX9_append 19 = .ok (.aload_n 0, 1)) ∧ (decode cX9_append 20 = .ok (.getfield 9, 3)) ∧ (decode cX9_append 23 = .ok (.aload_n 0, 1)) ∧ (decode cX9_append 24 = .ok (.getfield 15, 3)) ∧ (decode cX9_append 27 = .ok (.iload_n 1, 1)) ∧ (decode cX9_append 28 = .ok (.iload_n 2, 1)) ∧ (decode cX9_append 29 = .ok (.ishr, 1)) ∧ (decode cX9_append 30 = .ok (.i2b, 1)) ∧ (decode cX9_append 31 = .ok (.bastore, 1)) ∧ (decode cX9_append 32 = .ok (.aload_n 0, 1)) := by decide +kernel
theorem dX9_append_19 : decode cX9_append 19 = .ok (.aload_n 0, 1) := bdX9_append_19.1
theorem dX9_append_20 : decode cX9_append 20 = .ok (.getfield 9, 3) := bdX9_append_19.2.1
theorem dX9_append_23 : decode cX9_append 23 = .ok (.aload_n 0, 1) := bdX9_append_19.2.2.1
theorem dX9_append_24 : decode cX9_append 24 = .ok (.getfield 15, 3) := bdX9_append_19.2.2.2.1
theorem dX9_append_27 : decode cX9_append 27 = .ok (.iload_n 1, 1) := bdX9_append_19.2.2.2.2.1
theorem dX9_append_28 : decode cX9_append 28 = .ok (.iload_n 2, 1) := bdX9_append_19.2.2.2.2.2.1
theorem dX9_append_29 : decode cX9_append 29 = .ok (.ishr, 1) := bdX9_append_19.2.2.2.2.2.2.1
theorem dX9_append_30 : decode cX9_append 30 = .ok (.i2b, 1) := bdX9_append_19.2.2.2.2.2.2.2.1
theorem dX9_append_31 : decode cX9_append 31 = .ok (.bastore, 1) := bdX9_append_19.2.2.2.2.2.2.2.2.1
theorem dX9_append_32 : decode cX9_append 32 = .ok (.aload_n 0, 1) := bdX9_append_19.2.2.2.2.2.2.2.2.2
theorem bdX9_append_33 : (decode cX9_append 33 = .ok (.dup, 1)) ∧ (decode cX9_append 34 = .ok (.getfield 15, 3)) ∧ (decode cX9_append 37 = .ok (.iconst 1, 1)) ∧ (decode cX9_append 38 = .ok (.iadd, 1)) ∧ (decode cX9_append 39 = .ok (.putfield 15, 3)) ∧ (decode cX9_append 42 = .ok (.iinc 2 (-8), 3)) ∧ (decode cX9_append 45 = .ok (.goto (-42), 3)) ∧ (decode cX9_append 48 = .ok (.return_, 1)) := by decide +kernel
theorem dX9_append_33 : decode cX9_append 33 = .ok (.dup, 1) := bdX9_append_33.1
theorem dX9_append_34 : decode cX9_append 34 = .ok (.getfield 15, 3) := bdX9_append_33.2.1
theorem dX9_append_37 : decode cX9_append 37 = .ok (.iconst 1, 1) := bdX9_append_33.2.2.1
theorem dX9_append_38 : decode cX9_append 38 = .ok (.iadd, 1) := bdX9_append_33.2.2.2.1
theorem dX9_append_39 : decode cX9_append 39 = .ok (.putfield 15, 3) := bdX9_append_33.2.2.2.2.1
theorem dX9_append_42 : decode cX9_append 42 = .ok (.iinc 2 (-8), 3) := bdX9_append_33.2.2.2.2.2.1
theorem dX9_append_45 : decode cX9_append 45 = .ok (.goto (-42), 3) := bdX9_append_33.2.2.2.2.2.2.1
theorem dX9_append_48 : decode cX9_append 48 = .ok (.return_, 1) := bdX9_append_33.2.2.2.2.2.2.2
theorem bdX10_init_0 : (decode cX10_init 0 = .ok (.aload_n 0, 1)) ∧ (decode cX10_init 1 = .ok (.invokespecial 7, 3)) ∧ (decode cX10_init 4 = .ok (.aload_n 0, 1)) ∧ (decode cX10_init 5 = .ok (.sipush 700, 3)) ∧ (decode cX10_init 8 = .ok (.newarray .int, 2)) ∧ (decode cX10_init 10 = .ok (.putfield 13, 3)) ∧ (decode cX10_init 13 = .ok (.aload_n 0, 1)) ∧ (decode cX10_init 14 = .ok (.sipush 700, 3)) ∧ (decode cX10_init 17 = .ok (.newarray .int, 2)) ∧ (decode cX10_init 19 = .ok (.putfield 17, 3)) := by decide +kernel
theorem dX10_init_0 : decode cX10_init 0 = .ok (.aload_n 0, 1) := bdX10_init_0.1
theorem dX10_init_1 : decode cX10_init 1 = .ok (.invokespecial 7, 3) := bdX10_init_0.2.1
theorem dX10_init_4 : decode cX10_init 4 = .ok (.aload_n 0, 1) := bdX10_init_0.2.2.1
theorem dX10_init_5 : decode cX10_init 5 = .ok (.sipush 700, 3) := bdX10_init_0.2.2.2.1
theorem dX10_init_8 : decode cX10_init 8 = .ok (.newarray .int, 2) := bdX10_init_0.2.2.2.2.1
theorem dX10_init_10 : decode cX10_init 10 = .ok (.putfield 13, 3) := bdX10_init_0.2.2.2.2.2.1
theorem dX10_init_13 : decode cX10_init 13 = .ok (.aload_n 0, 1) := bdX10_init_0.2.2.2.2.2.2.1
theorem dX10_init_14 : decode cX10_init 14 = .ok (.sipush 700, 3) := bdX10_init_0.2.2.2.2.2.2.2.1
theorem dX10_init_17 : decode cX10_init 17 = .ok (.newarray .int, 2) := bdX10_init_0.2.2.2.2.2.2.2.2.1
theorem dX10_init_19 : decode cX10_init 19 = .ok (.putfield 17, 3) := bdX10_init_0.2.2.2.2.2.2.2.2.2
theorem bdX10_init_22 : (decode cX10_init 22 = .ok (.aload_n 0, 1)) ∧ (decode cX10_init 23 = .ok (.sipush 700, 3)) ∧ (decode cX10_init 26 = .ok (.newarray .int, 2)) ∧ (decode cX10_init 28 = .ok (.putfield 20, 3)) ∧ (decode cX10_init 31 = .ok (.aload_n 0, 1)) ∧ (decode cX10_init 32 = .ok (.aload_n 1, 1)) ∧ (decode cX10_init 33 = .ok (.getfield 23, 3)) ∧ (decode cX10_init 36 = .ok (.putfield 29, 3)) ∧ (decode cX10_init 39 = .ok (.return_, 1)) := by decide +kernel
theorem dX10_init_22 : decode cX10_init 22 = .ok (.aload_n 0, 1) := bdX10_init_22.1
theorem dX10_init_23 : decode cX10_init 23 = .ok (.sipush 700, 3) := bdX10_init_22.2.1
theorem dX10_init_26 : decode cX10_init 26 = .ok (.newarray .int, 2) := bdX10_init_22.2.2.1
theorem dX10_init_28 : decode cX10_init 28 = .ok (.putfield 20, 3) := bdX10_init_22.2.2.2.1
theorem dX10_init_31 : decode cX10_init 31 = .ok (.aload_n 0, 1) := bdX10_init_22.2.2.2.2.1
theorem dX10_init_32 : decode cX10_init 32 = .ok (.aload_n 1, 1) := bdX10_init_22.2.2.2.2.2.1
theorem dX10_init_33 : decode cX10_init 33 = .ok (.getfield 23, 3) := bdX10_init_22.2.2.2.2.2.2.1
theorem dX10_init_36 : decode cX10_init 36 = .ok (.putfield 29, 3) := bdX10_init_22.2.2.2.2.2.2.2.1
theorem dX10_init_39 : decode cX10_init 39 = .ok (.return_, 1) := bdX10_init_22.2.2.2.2.2.2.2.2
theorem bdX10_cut_0 : (decode cX10_cut 0 = .ok (.aload_n 0, 1)) ∧ (decode cX10_cut 1 = .ok (.iload_n 1, 1)) ∧ (decode cX10_cut 2 = .ok (.aload_n 0, 1)) ∧ (decode cX10_cut 3 = .ok (.getfield 29, 3)) ∧ (decode cX10_cut 6 = .ok (.arraylength, 1)) ∧ (decode cX10_cut 7 = .ok (.invokestatic 30, 3)) ∧ (decode cX10_cut 10 = .ok (.putfield 36, 3)) ∧ (decode cX10_cut 13 = .ok (.aload_n 0, 1)) ∧ (decode cX10_cut 14 = .ok (.iconst 0, 1)) ∧ (decode cX10_cut 15 = .ok (.putfield 40, 3)) := by decide +kernel
theorem dX10_cut_0 : decode cX10_cut 0 = .ok (.aload_n 0, 1) := bdX10_cut_0.1
theorem dX10_cut_1 : decode cX10_cut 1 = .ok (.iload_n 1, 1) := bdX10_cut_0.2.1
theorem dX10_cut_2 : decode cX10_cut 2 = .ok (.aload_n 0, 1) := bdX10_cut_0.2.2.1
theorem dX10_cut_3 : decode cX10_cut 3 = .ok (.getfield 29, 3) := bdX10_cut_0.2.2.2.1
theorem dX10_cut_6 : decode cX10_cut 6 = .ok (.arraylength, 1) := bdX10_cut_0.2.2.2.2.1
theorem dX10_cut_7 : decode cX10_cut 7 = .ok (.invokestatic 30, 3) := bdX10_cut_0.2.2.2.2.2.1
theorem dX10_cut_10 : decode cX10_cut 10 = .ok (.putfield 36, 3) := bdX10_cut_0.2.2.2.2.2.2.1
theorem dX10_cut_13 : decode cX10_cut 13 = .ok (.aload_n 0, 1) := bdX10_cut_0.2.2.2.2.2.2.2.1
theorem dX10_cut_14 : decode cX10_cut 14 = .ok (.iconst 0, 1) := bdX10_cut_0.2.2.2.2.2.2.2.2.1
theorem dX10_cut_15 : decode cX10_cut 15 = .ok (.putfield 40, 3) := bdX10_cut_0.2.2.2.2.2.2.2.2.2
theorem bdX10_cut_18 : (decode cX10_cut 18 = .ok (.aload_n 0, 1)) ∧ (decode cX10_cut 19 = .ok (.iconst 0, 1)) ∧ (decode cX10_cut 20 = .ok (.putfield 43, 3)) ∧ (decode cX10_cut 23 = .ok (.aload_n 0, 1)) ∧ (decode cX10_cut 24 = .ok (.invokevirtual 46, 3)) ∧ (decode cX10_cut 27 = .ok (.aload_n 0, 1)) ∧ (decode cX10_cut 28 = .ok (.getfield 40, 3)) ∧ (decode cX10_cut 31 = .ok (.aload_n 0, 1)) ∧ (decode cX10_cut 32 = .ok (.getfield 36, 3)) ∧ (decode cX10_cut 35 = .ok (.if_icmp .ge 34, 3)) := by decide +kernel
theorem dX10_cut_18 : decode cX10_cut 18 = .ok (.aload_n 0, 1) := bdX10_cut_18.1
theorem dX10_cut_19 : decode cX10_cut 19 = .ok (.iconst 0, 1) := bdX10_cut_18.2.1
theorem dX10_cut_20 : decode cX10_cut 20 = .ok (.putfield 43, 3) := bdX10_cut_18.2.2.1
theorem dX10_cut_23 : decode cX10_cut 23 = .ok (.aload_n 0, 1) := bdX10_cut_18.2.2.2.1
theorem dX10_cut_24 : decode cX10_cut 24 = .ok (.invokevirtual 46, 3) := bdX10_cut_18.2.2.2.2.1
theorem dX10_cut_27 : decode cX10_cut 27 = .ok (.aload_n 0, 1) := bdX10_cut_18.2.2.2.2.2.1
theorem dX10_cut_28 : decode cX10_cut 28 = .ok (.getfield 40, 3) := bdX10_cut_18.2.2.2.2.2.2.1
theorem dX10_cut_31 : decode cX10_cut 31 = .ok (.aload_n 0, 1) := bdX10_cut_18.2.2.2.2.2.2.2.1
theorem dX10_cut_32 : decode cX10_cut 32 = .ok (.getfield 36, 3) := bdX10_cut_18.2.2.2.2.2.2.2.2.1
theorem dX10_cut_35 : decode cX10_cut 35 = .ok (.if_icmp .ge 34, 3) := bdX10_cut_18.2.2.2.2.2.2.2.2.2
theorem bdX10_cut_38 : (decode cX10_cut 38 = .ok (.aload_n 0, 1)) ∧ (decode cX10_cut 39 = .ok (.getfield 43, 3)) ∧ (decode cX10_cut 42 = .ok (.sipush 700, 3)) ∧ (decode cX10_cut 45 = .ok (.if_icmp .ge 24, 3)) ∧ (decode cX10_cut 48 = .ok (.aload_n 0, 1)) ∧ (decode cX10_cut 49 = .ok (.invokevirtual 49, 3)) ∧ (decode cX10_cut 52 = .ok (.aload_n 0, 1)) ∧ (decode cX10_cut 53 = .ok (.dup, 1)) ∧ (decode cX10_cut 54 = .ok (.getfield 43, 3)) ∧ (decode cX10_cut 57 = .ok (.iconst 1, 1)) := by decide +kernel
theorem dX10_cut_38 : decode cX10_cut 38 = .ok (.aload_n 0, 1) := bdX10_cut_38.1
theorem dX10_cut_39 : decode cX10_cut 39 = .ok (.getfield 43, 3) := bdX10_cut_38.2.1
theorem dX10_cut_42 : decode cX10_cut 42 = .ok (.sipush 700, 3) := bdX10_cut_38.2.2.1
theorem dX10_cut_45 : decode cX10_cut 45 = .ok (.if_icmp .ge 24, 3) := bdX10_cut_38.2.2.2.1
theorem dX10_cut_48 : decode cX10_cut 48 = .ok (.aload_n 0, 1) := bdX10_cut_38.2.2.2.2.1
theorem dX10_cut_49 : decode cX10_cut 49 = .ok (.invokevirtual 49, 3) := bdX10_cut_38.2.2.2.2.2.1
theorem dX10_cut_52 : decode cX10_cut 52 = .ok (.aload_n 0, 1) := bdX10_cut_38.2.2.2.2.2.2.1
theorem dX10_cut_53 : decode cX10_cut 53 = .ok (.dup, 1) := bdX10_cut_38.2.2.2.2.2.2.2.1
theorem dX10_cut_54 : decode cX10_cut 54 = .ok (.getfield 43, 3) := bdX10_cut_38.2.2.2.2.2.2.2.2.1
theorem dX10_cut_57 : decode cX10_cut 57 = .ok (.iconst 1, 1) := bdX10_cut_38.2.2.2.2.2.2.2.2.2
theorem bdX10_cut_58 : (decode cX10_cut 58 = .ok (.iadd, 1)) ∧ (decode cX10_cut 59 = .ok (.putfield 43, 3)) ∧ (decode cX10_cut 62 = .ok (.aload_n 0, 1)) ∧ (decode cX10_cut 63 = .ok (.invokevirtual 46, 3)) ∧ (decode cX10_cut 66 = .ok (.goto (-39), 3)) ∧ (decode cX10_cut 69 = .ok (.return_, 1)) := by decide +kernel
theorem dX10_cut_58 : decode cX10_cut 58 = .ok (.iadd, 1) := bdX10_cut_58.1
theorem dX10_cut_59 : decode cX10_cut 59 = .ok (.putfield 43, 3) := bdX10_cut_58.2.1
theorem dX10_cut_62 : decode cX10_cut 62 = .ok (.aload_n 0, 1) := bdX10_cut_58.2.2.1
theorem dX10_cut_63 : decode cX10_cut 63 = .ok (.invokevirtual 46, 3) := bdX10_cut_58.2.2.2.1
theorem dX10_cut_66 : decode cX10_cut 66 = .ok (.goto (-39), 3) := bdX10_cut_58.2.2.2.2.1
theorem dX10_cut_69 : decode cX10_cut 69 = .ok (.return_, 1) := bdX10_cut_58.2.2.2.2.2
theorem bdX10_symbolAt_0 : (decode cX10_symbolAt 0 = .ok (.iload_n 1, 1)) ∧ (decode cX10_symbolAt 1 = .ok (.ifCond .lt 20, 3)) ∧ (decode cX10_symbolAt 4 = .ok (.iload_n 1, 1)) ∧ (decode cX10_symbolAt 5 = .ok (.aload_n 0, 1)) ∧ (decode cX10_symbolAt 6 = .ok (.getfield 43, 3)) ∧ (decode cX10_symbolAt 9 = .ok (.if_icmp .ge 12, 3)) ∧ (decode cX10_symbolAt 12 = .ok (.aload_n 0, 1)) ∧ (decode cX10_symbolAt 13 = .ok (.getfield 13, 3)) ∧ (decode cX10_symbolAt 16 = .ok (.iload_n 1, 1)) ∧ (decode cX10_symbolAt 17 = .ok (.iaload, 1)) := by decide +kernel
theorem dX10_symbolAt_0 : decode cX10_symbolAt 0 = .ok (.iload_n 1, 1) := bdX10_symbolAt_0.1
theorem dX10_symbolAt_1 : decode cX10_symbolAt 1 = .ok (.ifCond .lt 20, 3) := bdX10_symbolAt_0.2.1
theorem dX10_symbolAt_4 : decode cX10_symbolAt 4 = .ok (.iload_n 1, 1) := bdX10_symbolAt_0.2.2.1
theorem dX10_symbolAt_5 : decode cX10_symbolAt 5 = .ok (.aload_n 0, 1) := bdX10_symbolAt_0.2.2.2.1
theorem dX10_symbolAt_6 : decode cX10_symbolAt 6 = .ok (.getfield 43, 3) := bdX10_symbolAt_0.2.2.2.2.1
theorem dX10_symbolAt_9 : decode cX10_symbolAt 9 = .ok (.if_icmp .ge 12, 3) := bdX10_symbolAt_0.2.2.2.2.2.1
theorem dX10_symbolAt_12 : decode cX10_symbolAt 12 = .ok (.aload_n 0, 1) := bdX10_symbolAt_0.2.2.2.2.2.2.1
theorem dX10_symbolAt_13 : decode cX10_symbolAt 13 = .ok (.getfield 13, 3) := bdX10_symbolAt_0.2.2.2.2.2.2.2.1
theorem dX10_symbolAt_16 : decode cX10_symbolAt 16 = .ok (.iload_n 1, 1) := bdX10_symbolAt_0.2.2.2.2.2.2.2.2.1
theorem dX10_symbolAt_17 : decode cX10_symbolAt 17 = .ok (.iaload, 1) := bdX10_symbolAt_0.2.2.2.2.2.2.2.2.2
theorem bdX10_symbolAt_18 : (decode cX10_symbolAt 18 = .ok (.goto 4, 3)) ∧ (decode cX10_symbolAt 21 = .ok (.iconst 0, 1)) ∧ (decode cX10_symbolAt 22 = .ok (.ireturn, 1)) := by decide +kernel
theorem dX10_symbolAt_18 : decode cX10_symbolAt 18 = .ok (.goto 4, 3) := bdX10_symbolAt_18.1
theorem dX10_symbolAt_21 : decode cX10_symbolAt 21 = .ok (.iconst 0, 1) := bdX10_symbolAt_18.2.1
theorem dX10_symbolAt_22 : decode cX10_symbolAt 22 = .ok (.ireturn, 1) := bdX10_symbolAt_18.2.2
theorem bdX10_startAt_0 : (decode cX10_startAt 0 = .ok (.iload_n 1, 1)) ∧ (decode cX10_startAt 1 = .ok (.ifCond .lt 20, 3)) ∧ (decode cX10_startAt 4 = .ok (.iload_n 1, 1)) ∧ (decode cX10_startAt 5 = .ok (.aload_n 0, 1)) ∧ (decode cX10_startAt 6 = .ok (.getfield 43, 3)) ∧ (decode cX10_startAt 9 = .ok (.if_icmp .ge 12, 3)) ∧ (decode cX10_startAt 12 = .ok (.aload_n 0, 1)) ∧ (decode cX10_startAt 13 = .ok (.getfield 17, 3)) ∧ (decode cX10_startAt 16 = .ok (.iload_n 1, 1)) ∧ (decode cX10_startAt 17 = .ok (.iaload, 1)) := by decide +kernel
theorem dX10_startAt_0 : decode cX10_startAt 0 = .ok (.iload_n 1, 1) := bdX10_startAt_0.1
theorem dX10_startAt_1 : decode cX10_startAt 1 = .ok (.ifCond .lt 20, 3) := bdX10_startAt_0.2.1
theorem dX10_startAt_4 : decode cX10_startAt 4 = .ok (.iload_n 1, 1) := bdX10_startAt_0.2.2.1
theorem dX10_startAt_5 : decode cX10_startAt 5 = .ok (.aload_n 0, 1) := bdX10_startAt_0.2.2.2.1
theorem dX10_startAt_6 : decode cX10_startAt 6 = .ok (.getfield 43, 3) := bdX10_startAt_0.2.2.2.2.1
theorem dX10_startAt_9 : decode cX10_startAt 9 = .ok (.if_icmp .ge 12, 3) := bdX10_startAt_0.2.2.2.2.2.1
theorem dX10_startAt_12 : decode cX10_startAt 12 = .ok (.aload_n 0, 1) := bdX10_startAt_0.2.2.2.2.2.2.1
theorem dX10_startAt_13 : decode cX10_startAt 13 = .ok (.getfield 17, 3) := bdX10_startAt_0.2.2.2.2.2.2.2.1
theorem dX10_startAt_16 : decode cX10_startAt 16 = .ok (.iload_n 1, 1) := bdX10_startAt_0.2.2.2.2.2.2.2.2.1
theorem dX10_startAt_17 : decode cX10_startAt 17 = .ok (.iaload, 1) := bdX10_startAt_0.2.2.2.2.2.2.2.2.2
theorem bdX10_startAt_18 : (decode cX10_startAt 18 = .ok (.goto 7, 3)) ∧ (decode cX10_startAt 21 = .ok (.aload_n 0, 1)) ∧ (decode cX10_startAt 22 = .ok (.getfield 36, 3)) ∧ (decode cX10_startAt 25 = .ok (.ireturn, 1)) := by decide +kernel
theorem dX10_startAt_18 : decode cX10_startAt 18 = .ok (.goto 7, 3) := bdX10_startAt_18.1
theorem dX10_startAt_21 : decode cX10_startAt 21 = .ok (.aload_n 0, 1) := bdX10_startAt_18.2.1
theorem dX10_startAt_22 : decode cX10_startAt 22 = .ok (.getfield 36, 3) := bdX10_startAt_18.2.2.1
theorem dX10_startAt_25 : decode cX10_startAt 25 = .ok (.ireturn, 1) := bdX10_startAt_18.2.2.2
theorem bdX10_numberAt_0 : (decode cX10_numberAt 0 = .ok (.iload_n 1, 1)) ∧ (decode cX10_numberAt 1 = .ok (.ifCond .lt 20, 3)) ∧ (decode cX10_numberAt 4 = .ok (.iload_n 1, 1)) ∧ (decode cX10_numberAt 5 = .ok (.aload_n 0, 1)) ∧ (decode cX10_numberAt 6 = .ok (.getfield 43, 3)) ∧ (decode cX10_numberAt 9 = .ok (.if_icmp .ge 12, 3)) ∧ (decode cX10_numberAt 12 = .ok (.aload_n 0, 1)) ∧ (decode cX10_numberAt 13 = .ok (.getfield 20, 3)) ∧ (decode cX10_numberAt 16 = .ok (.iload_n 1, 1)) ∧ (decode cX10_numberAt 17 = .ok (.iaload, 1)) := by decide +kernel
theorem dX10_numberAt_0 : decode cX10_numberAt 0 = .ok (.iload_n 1, 1) := bdX10_numberAt_0.1
theorem dX10_numberAt_1 : decode cX10_numberAt 1 = .ok (.ifCond .lt 20, 3) := bdX10_numberAt_0.2.1
theorem dX10_numberAt_4 : decode cX10_numberAt 4 = .ok (.iload_n 1, 1) := bdX10_numberAt_0.2.2.1
theorem dX10_numberAt_5 : decode cX10_numberAt 5 = .ok (.aload_n 0, 1) := bdX10_numberAt_0.2.2.2.1
theorem dX10_numberAt_6 : decode cX10_numberAt 6 = .ok (.getfield 43, 3) := bdX10_numberAt_0.2.2.2.2.1
theorem dX10_numberAt_9 : decode cX10_numberAt 9 = .ok (.if_icmp .ge 12, 3) := bdX10_numberAt_0.2.2.2.2.2.1
theorem dX10_numberAt_12 : decode cX10_numberAt 12 = .ok (.aload_n 0, 1) := bdX10_numberAt_0.2.2.2.2.2.2.1
theorem dX10_numberAt_13 : decode cX10_numberAt 13 = .ok (.getfield 20, 3) := bdX10_numberAt_0.2.2.2.2.2.2.2.1
theorem dX10_numberAt_16 : decode cX10_numberAt 16 = .ok (.iload_n 1, 1) := bdX10_numberAt_0.2.2.2.2.2.2.2.2.1
theorem dX10_numberAt_17 : decode cX10_numberAt 17 = .ok (.iaload, 1) := bdX10_numberAt_0.2.2.2.2.2.2.2.2.2
theorem bdX10_numberAt_18 : (decode cX10_numberAt 18 = .ok (.goto 4, 3)) ∧ (decode cX10_numberAt 21 = .ok (.iconst 0, 1)) ∧ (decode cX10_numberAt 22 = .ok (.ireturn, 1)) := by decide +kernel
theorem dX10_numberAt_18 : decode cX10_numberAt 18 = .ok (.goto 4, 3) := bdX10_numberAt_18.1
theorem dX10_numberAt_21 : decode cX10_numberAt 21 = .ok (.iconst 0, 1) := bdX10_numberAt_18.2.1
theorem dX10_numberAt_22 : decode cX10_numberAt 22 = .ok (.ireturn, 1) := bdX10_numberAt_18.2.2
theorem bdX10_skipBlanks_0 : (decode cX10_skipBlanks 0 = .ok (.aload_n 0, 1)) ∧ (decode cX10_skipBlanks 1 = .ok (.getfield 40, 3)) ∧ (decode cX10_skipBlanks 4 = .ok (.aload_n 0, 1)) ∧ (decode cX10_skipBlanks 5 = .ok (.getfield 36, 3)) ∧ (decode cX10_skipBlanks 8 = .ok (.if_icmp .ge 44, 3)) ∧ (decode cX10_skipBlanks 11 = .ok (.aload_n 0, 1)) ∧ (decode cX10_skipBlanks 12 = .ok (.getfield 29, 3)) ∧ (decode cX10_skipBlanks 15 = .ok (.aload_n 0, 1)) ∧ (decode cX10_skipBlanks 16 = .ok (.getfield 40, 3)) ∧ (decode cX10_skipBlanks 19 = .ok (.baload, 1)) := by decide +kernel
theorem dX10_skipBlanks_0 : decode cX10_skipBlanks 0 = .ok (.aload_n 0, 1) := bdX10_skipBlanks_0.1
theorem dX10_skipBlanks_1 : decode cX10_skipBlanks 1 = .ok (.getfield 40, 3) := bdX10_skipBlanks_0.2.1
theorem dX10_skipBlanks_4 : decode cX10_skipBlanks 4 = .ok (.aload_n 0, 1) := bdX10_skipBlanks_0.2.2.1
theorem dX10_skipBlanks_5 : decode cX10_skipBlanks 5 = .ok (.getfield 36, 3) := bdX10_skipBlanks_0.2.2.2.1
theorem dX10_skipBlanks_8 : decode cX10_skipBlanks 8 = .ok (.if_icmp .ge 44, 3) := bdX10_skipBlanks_0.2.2.2.2.1
theorem dX10_skipBlanks_11 : decode cX10_skipBlanks 11 = .ok (.aload_n 0, 1) := bdX10_skipBlanks_0.2.2.2.2.2.1
theorem dX10_skipBlanks_12 : decode cX10_skipBlanks 12 = .ok (.getfield 29, 3) := bdX10_skipBlanks_0.2.2.2.2.2.2.1
theorem dX10_skipBlanks_15 : decode cX10_skipBlanks 15 = .ok (.aload_n 0, 1) := bdX10_skipBlanks_0.2.2.2.2.2.2.2.1
theorem dX10_skipBlanks_16 : decode cX10_skipBlanks 16 = .ok (.getfield 40, 3) := bdX10_skipBlanks_0.2.2.2.2.2.2.2.2.1
theorem dX10_skipBlanks_19 : decode cX10_skipBlanks 19 = .ok (.baload, 1) := bdX10_skipBlanks_0.2.2.2.2.2.2.2.2.2
theorem bdX10_skipBlanks_20 : (decode cX10_skipBlanks 20 = .ok (.bipush 32, 2)) ∧ (decode cX10_skipBlanks 22 = .ok (.if_icmp .eq 17, 3)) ∧ (decode cX10_skipBlanks 25 = .ok (.aload_n 0, 1)) ∧ (decode cX10_skipBlanks 26 = .ok (.getfield 29, 3)) ∧ (decode cX10_skipBlanks 29 = .ok (.aload_n 0, 1)) ∧ (decode cX10_skipBlanks 30 = .ok (.getfield 40, 3)) ∧ (decode cX10_skipBlanks 33 = .ok (.baload, 1)) ∧ (decode cX10_skipBlanks 34 = .ok (.bipush 10, 2)) ∧ (decode cX10_skipBlanks 36 = .ok (.if_icmp .ne 16, 3)) ∧ (decode cX10_skipBlanks 39 = .ok (.aload_n 0, 1)) := by decide +kernel
theorem dX10_skipBlanks_20 : decode cX10_skipBlanks 20 = .ok (.bipush 32, 2) := bdX10_skipBlanks_20.1
theorem dX10_skipBlanks_22 : decode cX10_skipBlanks 22 = .ok (.if_icmp .eq 17, 3) := bdX10_skipBlanks_20.2.1
theorem dX10_skipBlanks_25 : decode cX10_skipBlanks 25 = .ok (.aload_n 0, 1) := bdX10_skipBlanks_20.2.2.1
theorem dX10_skipBlanks_26 : decode cX10_skipBlanks 26 = .ok (.getfield 29, 3) := bdX10_skipBlanks_20.2.2.2.1
theorem dX10_skipBlanks_29 : decode cX10_skipBlanks 29 = .ok (.aload_n 0, 1) := bdX10_skipBlanks_20.2.2.2.2.1
theorem dX10_skipBlanks_30 : decode cX10_skipBlanks 30 = .ok (.getfield 40, 3) := bdX10_skipBlanks_20.2.2.2.2.2.1
theorem dX10_skipBlanks_33 : decode cX10_skipBlanks 33 = .ok (.baload, 1) := bdX10_skipBlanks_20.2.2.2.2.2.2.1
theorem dX10_skipBlanks_34 : decode cX10_skipBlanks 34 = .ok (.bipush 10, 2) := bdX10_skipBlanks_20.2.2.2.2.2.2.2.1
theorem dX10_skipBlanks_36 : decode cX10_skipBlanks 36 = .ok (.if_icmp .ne 16, 3) := bdX10_skipBlanks_20.2.2.2.2.2.2.2.2.1
theorem dX10_skipBlanks_39 : decode cX10_skipBlanks 39 = .ok (.aload_n 0, 1) := bdX10_skipBlanks_20.2.2.2.2.2.2.2.2.2
theorem bdX10_skipBlanks_40 : (decode cX10_skipBlanks 40 = .ok (.dup, 1)) ∧ (decode cX10_skipBlanks 41 = .ok (.getfield 40, 3)) ∧ (decode cX10_skipBlanks 44 = .ok (.iconst 1, 1)) ∧ (decode cX10_skipBlanks 45 = .ok (.iadd, 1)) ∧ (decode cX10_skipBlanks 46 = .ok (.putfield 40, 3)) ∧ (decode cX10_skipBlanks 49 = .ok (.goto (-49), 3)) ∧ (decode cX10_skipBlanks 52 = .ok (.return_, 1)) := by decide +kernel
theorem dX10_skipBlanks_40 : decode cX10_skipBlanks 40 = .ok (.dup, 1) := bdX10_skipBlanks_40.1
theorem dX10_skipBlanks_41 : decode cX10_skipBlanks 41 = .ok (.getfield 40, 3) := bdX10_skipBlanks_40.2.1
theorem dX10_skipBlanks_44 : decode cX10_skipBlanks 44 = .ok (.iconst 1, 1) := bdX10_skipBlanks_40.2.2.1
theorem dX10_skipBlanks_45 : decode cX10_skipBlanks 45 = .ok (.iadd, 1) := bdX10_skipBlanks_40.2.2.2.1
theorem dX10_skipBlanks_46 : decode cX10_skipBlanks 46 = .ok (.putfield 40, 3) := bdX10_skipBlanks_40.2.2.2.2.1
theorem dX10_skipBlanks_49 : decode cX10_skipBlanks 49 = .ok (.goto (-49), 3) := bdX10_skipBlanks_40.2.2.2.2.2.1
theorem dX10_skipBlanks_52 : decode cX10_skipBlanks 52 = .ok (.return_, 1) := bdX10_skipBlanks_40.2.2.2.2.2.2
theorem bdX10_cutOne_0 : (decode cX10_cutOne 0 = .ok (.aload_n 0, 1)) ∧ (decode cX10_cutOne 1 = .ok (.getfield 17, 3)) ∧ (decode cX10_cutOne 4 = .ok (.aload_n 0, 1)) ∧ (decode cX10_cutOne 5 = .ok (.getfield 43, 3)) ∧ (decode cX10_cutOne 8 = .ok (.aload_n 0, 1)) ∧ (decode cX10_cutOne 9 = .ok (.getfield 40, 3)) ∧ (decode cX10_cutOne 12 = .ok (.iastore, 1)) ∧ (decode cX10_cutOne 13 = .ok (.aload_n 0, 1)) ∧ (decode cX10_cutOne 14 = .ok (.getfield 20, 3)) ∧ (decode cX10_cutOne 17 = .ok (.aload_n 0, 1)) := by decide +kernel
theorem dX10_cutOne_0 : decode cX10_cutOne 0 = .ok (.aload_n 0, 1) := bdX10_cutOne_0.1
theorem dX10_cutOne_1 : decode cX10_cutOne 1 = .ok (.getfield 17, 3) := bdX10_cutOne_0.2.1
theorem dX10_cutOne_4 : decode cX10_cutOne 4 = .ok (.aload_n 0, 1) := bdX10_cutOne_0.2.2.1
theorem dX10_cutOne_5 : decode cX10_cutOne 5 = .ok (.getfield 43, 3) := bdX10_cutOne_0.2.2.2.1
theorem dX10_cutOne_8 : decode cX10_cutOne 8 = .ok (.aload_n 0, 1) := bdX10_cutOne_0.2.2.2.2.1
theorem dX10_cutOne_9 : decode cX10_cutOne 9 = .ok (.getfield 40, 3) := bdX10_cutOne_0.2.2.2.2.2.1
theorem dX10_cutOne_12 : decode cX10_cutOne 12 = .ok (.iastore, 1) := bdX10_cutOne_0.2.2.2.2.2.2.1
theorem dX10_cutOne_13 : decode cX10_cutOne 13 = .ok (.aload_n 0, 1) := bdX10_cutOne_0.2.2.2.2.2.2.2.1
theorem dX10_cutOne_14 : decode cX10_cutOne 14 = .ok (.getfield 20, 3) := bdX10_cutOne_0.2.2.2.2.2.2.2.2.1
theorem dX10_cutOne_17 : decode cX10_cutOne 17 = .ok (.aload_n 0, 1) := bdX10_cutOne_0.2.2.2.2.2.2.2.2.2
theorem bdX10_cutOne_18 : (decode cX10_cutOne 18 = .ok (.getfield 43, 3)) ∧ (decode cX10_cutOne 21 = .ok (.iconst 0, 1)) ∧ (decode cX10_cutOne 22 = .ok (.iastore, 1)) ∧ (decode cX10_cutOne 23 = .ok (.aload_n 0, 1)) ∧ (decode cX10_cutOne 24 = .ok (.aload_n 0, 1)) ∧ (decode cX10_cutOne 25 = .ok (.getfield 40, 3)) ∧ (decode cX10_cutOne 28 = .ok (.invokevirtual 52, 3)) ∧ (decode cX10_cutOne 31 = .ok (.ifCond .eq 10, 3)) ∧ (decode cX10_cutOne 34 = .ok (.aload_n 0, 1)) ∧ (decode cX10_cutOne 35 = .ok (.invokevirtual 56, 3)) := by decide +kernel
theorem dX10_cutOne_18 : decode cX10_cutOne 18 = .ok (.getfield 43, 3) := bdX10_cutOne_18.1
theorem dX10_cutOne_21 : decode cX10_cutOne 21 = .ok (.iconst 0, 1) := bdX10_cutOne_18.2.1
theorem dX10_cutOne_22 : decode cX10_cutOne 22 = .ok (.iastore, 1) := bdX10_cutOne_18.2.2.1
theorem dX10_cutOne_23 : decode cX10_cutOne 23 = .ok (.aload_n 0, 1) := bdX10_cutOne_18.2.2.2.1
theorem dX10_cutOne_24 : decode cX10_cutOne 24 = .ok (.aload_n 0, 1) := bdX10_cutOne_18.2.2.2.2.1
theorem dX10_cutOne_25 : decode cX10_cutOne 25 = .ok (.getfield 40, 3) := bdX10_cutOne_18.2.2.2.2.2.1
theorem dX10_cutOne_28 : decode cX10_cutOne 28 = .ok (.invokevirtual 52, 3) := bdX10_cutOne_18.2.2.2.2.2.2.1
theorem dX10_cutOne_31 : decode cX10_cutOne 31 = .ok (.ifCond .eq 10, 3) := bdX10_cutOne_18.2.2.2.2.2.2.2.1
theorem dX10_cutOne_34 : decode cX10_cutOne 34 = .ok (.aload_n 0, 1) := bdX10_cutOne_18.2.2.2.2.2.2.2.2.1
theorem dX10_cutOne_35 : decode cX10_cutOne 35 = .ok (.invokevirtual 56, 3) := bdX10_cutOne_18.2.2.2.2.2.2.2.2.2
theorem bdX10_cutOne_38 : (decode cX10_cutOne 38 = .ok (.goto 52, 3)) ∧ (decode cX10_cutOne 41 = .ok (.aload_n 0, 1)) ∧ (decode cX10_cutOne 42 = .ok (.aload_n 0, 1)) ∧ (decode cX10_cutOne 43 = .ok (.getfield 40, 3)) ∧ (decode cX10_cutOne 46 = .ok (.invokevirtual 59, 3)) ∧ (decode cX10_cutOne 49 = .ok (.ifCond .eq 10, 3)) ∧ (decode cX10_cutOne 52 = .ok (.aload_n 0, 1)) ∧ (decode cX10_cutOne 53 = .ok (.invokevirtual 62, 3)) ∧ (decode cX10_cutOne 56 = .ok (.goto 34, 3)) ∧ (decode cX10_cutOne 59 = .ok (.aload_n 0, 1)) := by decide +kernel
theorem dX10_cutOne_38 : decode cX10_cutOne 38 = .ok (.goto 52, 3) := bdX10_cutOne_38.1
theorem dX10_cutOne_41 : decode cX10_cutOne 41 = .ok (.aload_n 0, 1) := bdX10_cutOne_38.2.1
theorem dX10_cutOne_42 : decode cX10_cutOne 42 = .ok (.aload_n 0, 1) := bdX10_cutOne_38.2.2.1
theorem dX10_cutOne_43 : decode cX10_cutOne 43 = .ok (.getfield 40, 3) := bdX10_cutOne_38.2.2.2.1
theorem dX10_cutOne_46 : decode cX10_cutOne 46 = .ok (.invokevirtual 59, 3) := bdX10_cutOne_38.2.2.2.2.1
theorem dX10_cutOne_49 : decode cX10_cutOne 49 = .ok (.ifCond .eq 10, 3) := bdX10_cutOne_38.2.2.2.2.2.1
theorem dX10_cutOne_52 : decode cX10_cutOne 52 = .ok (.aload_n 0, 1) := bdX10_cutOne_38.2.2.2.2.2.2.1
theorem dX10_cutOne_53 : decode cX10_cutOne 53 = .ok (.invokevirtual 62, 3) := bdX10_cutOne_38.2.2.2.2.2.2.2.1
theorem dX10_cutOne_56 : decode cX10_cutOne 56 = .ok (.goto 34, 3) := bdX10_cutOne_38.2.2.2.2.2.2.2.2.1
theorem dX10_cutOne_59 : decode cX10_cutOne 59 = .ok (.aload_n 0, 1) := bdX10_cutOne_38.2.2.2.2.2.2.2.2.2
theorem bdX10_cutOne_60 : (decode cX10_cutOne 60 = .ok (.getfield 13, 3)) ∧ (decode cX10_cutOne 63 = .ok (.aload_n 0, 1)) ∧ (decode cX10_cutOne 64 = .ok (.getfield 43, 3)) ∧ (decode cX10_cutOne 67 = .ok (.aload_n 0, 1)) ∧ (decode cX10_cutOne 68 = .ok (.getfield 29, 3)) ∧ (decode cX10_cutOne 71 = .ok (.aload_n 0, 1)) ∧ (decode cX10_cutOne 72 = .ok (.getfield 40, 3)) ∧ (decode cX10_cutOne 75 = .ok (.baload, 1)) ∧ (decode cX10_cutOne 76 = .ok (.invokestatic 65, 3)) ∧ (decode cX10_cutOne 79 = .ok (.iastore, 1)) := by decide +kernel
theorem dX10_cutOne_60 : decode cX10_cutOne 60 = .ok (.getfield 13, 3) := bdX10_cutOne_60.1
theorem dX10_cutOne_63 : decode cX10_cutOne 63 = .ok (.aload_n 0, 1) := bdX10_cutOne_60.2.1
theorem dX10_cutOne_64 : decode cX10_cutOne 64 = .ok (.getfield 43, 3) := bdX10_cutOne_60.2.2.1
theorem dX10_cutOne_67 : decode cX10_cutOne 67 = .ok (.aload_n 0, 1) := bdX10_cutOne_60.2.2.2.1
theorem dX10_cutOne_68 : decode cX10_cutOne 68 = .ok (.getfield 29, 3) := bdX10_cutOne_60.2.2.2.2.1
theorem dX10_cutOne_71 : decode cX10_cutOne 71 = .ok (.aload_n 0, 1) := bdX10_cutOne_60.2.2.2.2.2.1
theorem dX10_cutOne_72 : decode cX10_cutOne 72 = .ok (.getfield 40, 3) := bdX10_cutOne_60.2.2.2.2.2.2.1
theorem dX10_cutOne_75 : decode cX10_cutOne 75 = .ok (.baload, 1) := bdX10_cutOne_60.2.2.2.2.2.2.2.1
theorem dX10_cutOne_76 : decode cX10_cutOne 76 = .ok (.invokestatic 65, 3) := bdX10_cutOne_60.2.2.2.2.2.2.2.2.1
theorem dX10_cutOne_79 : decode cX10_cutOne 79 = .ok (.iastore, 1) := bdX10_cutOne_60.2.2.2.2.2.2.2.2.2
theorem bdX10_cutOne_80 : (decode cX10_cutOne 80 = .ok (.aload_n 0, 1)) ∧ (decode cX10_cutOne 81 = .ok (.dup, 1)) ∧ (decode cX10_cutOne 82 = .ok (.getfield 40, 3)) ∧ (decode cX10_cutOne 85 = .ok (.iconst 1, 1)) ∧ (decode cX10_cutOne 86 = .ok (.iadd, 1)) ∧ (decode cX10_cutOne 87 = .ok (.putfield 40, 3)) ∧ (decode cX10_cutOne 90 = .ok (.return_, 1)) := by decide +kernel
theorem dX10_cutOne_80 : decode cX10_cutOne 80 = .ok (.aload_n 0, 1) := bdX10_cutOne_80.1
theorem dX10_cutOne_81 : decode cX10_cutOne 81 = .ok (.dup, 1) := bdX10_cutOne_80.2.1
theorem dX10_cutOne_82 : decode cX10_cutOne 82 = .ok (.getfield 40, 3) := bdX10_cutOne_80.2.2.1
theorem dX10_cutOne_85 : decode cX10_cutOne 85 = .ok (.iconst 1, 1) := bdX10_cutOne_80.2.2.2.1
theorem dX10_cutOne_86 : decode cX10_cutOne 86 = .ok (.iadd, 1) := bdX10_cutOne_80.2.2.2.2.1
theorem dX10_cutOne_87 : decode cX10_cutOne 87 = .ok (.putfield 40, 3) := bdX10_cutOne_80.2.2.2.2.2.1
theorem dX10_cutOne_90 : decode cX10_cutOne 90 = .ok (.return_, 1) := bdX10_cutOne_80.2.2.2.2.2.2
theorem bdX10_isLetter_0 : (decode cX10_isLetter 0 = .ok (.iload_n 1, 1)) ∧ (decode cX10_isLetter 1 = .ok (.aload_n 0, 1)) ∧ (decode cX10_isLetter 2 = .ok (.getfield 36, 3)) ∧ (decode cX10_isLetter 5 = .ok (.if_icmp .ge 29, 3)) ∧ (decode cX10_isLetter 8 = .ok (.aload_n 0, 1)) ∧ (decode cX10_isLetter 9 = .ok (.getfield 29, 3)) ∧ (decode cX10_isLetter 12 = .ok (.iload_n 1, 1)) ∧ (decode cX10_isLetter 13 = .ok (.baload, 1)) ∧ (decode cX10_isLetter 14 = .ok (.bipush 97, 2)) ∧ (decode cX10_isLetter 16 = .ok (.if_icmp .lt 18, 3)) := by decide +kernel
theorem dX10_isLetter_0 : decode cX10_isLetter 0 = .ok (.iload_n 1, 1) := bdX10_isLetter_0.1
theorem dX10_isLetter_1 : decode cX10_isLetter 1 = .ok (.aload_n 0, 1) := bdX10_isLetter_0.2.1
theorem dX10_isLetter_2 : decode cX10_isLetter 2 = .ok (.getfield 36, 3) := bdX10_isLetter_0.2.2.1
theorem dX10_isLetter_5 : decode cX10_isLetter 5 = .ok (.if_icmp .ge 29, 3) := bdX10_isLetter_0.2.2.2.1
theorem dX10_isLetter_8 : decode cX10_isLetter 8 = .ok (.aload_n 0, 1) := bdX10_isLetter_0.2.2.2.2.1
theorem dX10_isLetter_9 : decode cX10_isLetter 9 = .ok (.getfield 29, 3) := bdX10_isLetter_0.2.2.2.2.2.1
theorem dX10_isLetter_12 : decode cX10_isLetter 12 = .ok (.iload_n 1, 1) := bdX10_isLetter_0.2.2.2.2.2.2.1
theorem dX10_isLetter_13 : decode cX10_isLetter 13 = .ok (.baload, 1) := bdX10_isLetter_0.2.2.2.2.2.2.2.1
theorem dX10_isLetter_14 : decode cX10_isLetter 14 = .ok (.bipush 97, 2) := bdX10_isLetter_0.2.2.2.2.2.2.2.2.1
theorem dX10_isLetter_16 : decode cX10_isLetter 16 = .ok (.if_icmp .lt 18, 3) := bdX10_isLetter_0.2.2.2.2.2.2.2.2.2
theorem bdX10_isLetter_19 : (decode cX10_isLetter 19 = .ok (.aload_n 0, 1)) ∧ (decode cX10_isLetter 20 = .ok (.getfield 29, 3)) ∧ (decode cX10_isLetter 23 = .ok (.iload_n 1, 1)) ∧ (decode cX10_isLetter 24 = .ok (.baload, 1)) ∧ (decode cX10_isLetter 25 = .ok (.bipush 122, 2)) ∧ (decode cX10_isLetter 27 = .ok (.if_icmp .gt 7, 3)) ∧ (decode cX10_isLetter 30 = .ok (.iconst 1, 1)) ∧ (decode cX10_isLetter 31 = .ok (.goto 4, 3)) ∧ (decode cX10_isLetter 34 = .ok (.iconst 0, 1)) ∧ (decode cX10_isLetter 35 = .ok (.ireturn, 1)) := by decide +kernel
theorem dX10_isLetter_19 : decode cX10_isLetter 19 = .ok (.aload_n 0, 1) := bdX10_isLetter_19.1
theorem dX10_isLetter_20 : decode cX10_isLetter 20 = .ok (.getfield 29, 3) := bdX10_isLetter_19.2.1
theorem dX10_isLetter_23 : decode cX10_isLetter 23 = .ok (.iload_n 1, 1) := bdX10_isLetter_19.2.2.1
theorem dX10_isLetter_24 : decode cX10_isLetter 24 = .ok (.baload, 1) := bdX10_isLetter_19.2.2.2.1
theorem dX10_isLetter_25 : decode cX10_isLetter 25 = .ok (.bipush 122, 2) := bdX10_isLetter_19.2.2.2.2.1
theorem dX10_isLetter_27 : decode cX10_isLetter 27 = .ok (.if_icmp .gt 7, 3) := bdX10_isLetter_19.2.2.2.2.2.1
theorem dX10_isLetter_30 : decode cX10_isLetter 30 = .ok (.iconst 1, 1) := bdX10_isLetter_19.2.2.2.2.2.2.1
theorem dX10_isLetter_31 : decode cX10_isLetter 31 = .ok (.goto 4, 3) := bdX10_isLetter_19.2.2.2.2.2.2.2.1
theorem dX10_isLetter_34 : decode cX10_isLetter 34 = .ok (.iconst 0, 1) := bdX10_isLetter_19.2.2.2.2.2.2.2.2.1
theorem dX10_isLetter_35 : decode cX10_isLetter 35 = .ok (.ireturn, 1) := bdX10_isLetter_19.2.2.2.2.2.2.2.2.2
theorem bdX10_isDigit_0 : (decode cX10_isDigit 0 = .ok (.iload_n 1, 1)) ∧ (decode cX10_isDigit 1 = .ok (.aload_n 0, 1)) ∧ (decode cX10_isDigit 2 = .ok (.getfield 36, 3)) ∧ (decode cX10_isDigit 5 = .ok (.if_icmp .ge 29, 3)) ∧ (decode cX10_isDigit 8 = .ok (.aload_n 0, 1)) ∧ (decode cX10_isDigit 9 = .ok (.getfield 29, 3)) ∧ (decode cX10_isDigit 12 = .ok (.iload_n 1, 1)) ∧ (decode cX10_isDigit 13 = .ok (.baload, 1)) ∧ (decode cX10_isDigit 14 = .ok (.bipush 48, 2)) ∧ (decode cX10_isDigit 16 = .ok (.if_icmp .lt 18, 3)) := by decide +kernel
theorem dX10_isDigit_0 : decode cX10_isDigit 0 = .ok (.iload_n 1, 1) := bdX10_isDigit_0.1
theorem dX10_isDigit_1 : decode cX10_isDigit 1 = .ok (.aload_n 0, 1) := bdX10_isDigit_0.2.1
theorem dX10_isDigit_2 : decode cX10_isDigit 2 = .ok (.getfield 36, 3) := bdX10_isDigit_0.2.2.1
theorem dX10_isDigit_5 : decode cX10_isDigit 5 = .ok (.if_icmp .ge 29, 3) := bdX10_isDigit_0.2.2.2.1
theorem dX10_isDigit_8 : decode cX10_isDigit 8 = .ok (.aload_n 0, 1) := bdX10_isDigit_0.2.2.2.2.1
theorem dX10_isDigit_9 : decode cX10_isDigit 9 = .ok (.getfield 29, 3) := bdX10_isDigit_0.2.2.2.2.2.1
theorem dX10_isDigit_12 : decode cX10_isDigit 12 = .ok (.iload_n 1, 1) := bdX10_isDigit_0.2.2.2.2.2.2.1
theorem dX10_isDigit_13 : decode cX10_isDigit 13 = .ok (.baload, 1) := bdX10_isDigit_0.2.2.2.2.2.2.2.1
theorem dX10_isDigit_14 : decode cX10_isDigit 14 = .ok (.bipush 48, 2) := bdX10_isDigit_0.2.2.2.2.2.2.2.2.1
theorem dX10_isDigit_16 : decode cX10_isDigit 16 = .ok (.if_icmp .lt 18, 3) := bdX10_isDigit_0.2.2.2.2.2.2.2.2.2
theorem bdX10_isDigit_19 : (decode cX10_isDigit 19 = .ok (.aload_n 0, 1)) ∧ (decode cX10_isDigit 20 = .ok (.getfield 29, 3)) ∧ (decode cX10_isDigit 23 = .ok (.iload_n 1, 1)) ∧ (decode cX10_isDigit 24 = .ok (.baload, 1)) ∧ (decode cX10_isDigit 25 = .ok (.bipush 57, 2)) ∧ (decode cX10_isDigit 27 = .ok (.if_icmp .gt 7, 3)) ∧ (decode cX10_isDigit 30 = .ok (.iconst 1, 1)) ∧ (decode cX10_isDigit 31 = .ok (.goto 4, 3)) ∧ (decode cX10_isDigit 34 = .ok (.iconst 0, 1)) ∧ (decode cX10_isDigit 35 = .ok (.ireturn, 1)) := by decide +kernel
theorem dX10_isDigit_19 : decode cX10_isDigit 19 = .ok (.aload_n 0, 1) := bdX10_isDigit_19.1
theorem dX10_isDigit_20 : decode cX10_isDigit 20 = .ok (.getfield 29, 3) := bdX10_isDigit_19.2.1
theorem dX10_isDigit_23 : decode cX10_isDigit 23 = .ok (.iload_n 1, 1) := bdX10_isDigit_19.2.2.1
theorem dX10_isDigit_24 : decode cX10_isDigit 24 = .ok (.baload, 1) := bdX10_isDigit_19.2.2.2.1
theorem dX10_isDigit_25 : decode cX10_isDigit 25 = .ok (.bipush 57, 2) := bdX10_isDigit_19.2.2.2.2.1
theorem dX10_isDigit_27 : decode cX10_isDigit 27 = .ok (.if_icmp .gt 7, 3) := bdX10_isDigit_19.2.2.2.2.2.1
theorem dX10_isDigit_30 : decode cX10_isDigit 30 = .ok (.iconst 1, 1) := bdX10_isDigit_19.2.2.2.2.2.2.1
theorem dX10_isDigit_31 : decode cX10_isDigit 31 = .ok (.goto 4, 3) := bdX10_isDigit_19.2.2.2.2.2.2.2.1
theorem dX10_isDigit_34 : decode cX10_isDigit 34 = .ok (.iconst 0, 1) := bdX10_isDigit_19.2.2.2.2.2.2.2.2.1
theorem dX10_isDigit_35 : decode cX10_isDigit 35 = .ok (.ireturn, 1) := bdX10_isDigit_19.2.2.2.2.2.2.2.2.2
theorem bdX10_cutWord_0 : (decode cX10_cutWord 0 = .ok (.aload_n 0, 1)) ∧ (decode cX10_cutWord 1 = .ok (.getfield 40, 3)) ∧ (decode cX10_cutWord 4 = .ok (.istore_n 1, 1)) ∧ (decode cX10_cutWord 5 = .ok (.aload_n 0, 1)) ∧ (decode cX10_cutWord 6 = .ok (.getfield 40, 3)) ∧ (decode cX10_cutWord 9 = .ok (.aload_n 0, 1)) ∧ (decode cX10_cutWord 10 = .ok (.getfield 36, 3)) ∧ (decode cX10_cutWord 13 = .ok (.if_icmp .ge 27, 3)) ∧ (decode cX10_cutWord 16 = .ok (.aload_n 0, 1)) ∧ (decode cX10_cutWord 17 = .ok (.aload_n 0, 1)) := by decide +kernel
theorem dX10_cutWord_0 : decode cX10_cutWord 0 = .ok (.aload_n 0, 1) := bdX10_cutWord_0.1
theorem dX10_cutWord_1 : decode cX10_cutWord 1 = .ok (.getfield 40, 3) := bdX10_cutWord_0.2.1
theorem dX10_cutWord_4 : decode cX10_cutWord 4 = .ok (.istore_n 1, 1) := bdX10_cutWord_0.2.2.1
theorem dX10_cutWord_5 : decode cX10_cutWord 5 = .ok (.aload_n 0, 1) := bdX10_cutWord_0.2.2.2.1
theorem dX10_cutWord_6 : decode cX10_cutWord 6 = .ok (.getfield 40, 3) := bdX10_cutWord_0.2.2.2.2.1
theorem dX10_cutWord_9 : decode cX10_cutWord 9 = .ok (.aload_n 0, 1) := bdX10_cutWord_0.2.2.2.2.2.1
theorem dX10_cutWord_10 : decode cX10_cutWord 10 = .ok (.getfield 36, 3) := bdX10_cutWord_0.2.2.2.2.2.2.1
theorem dX10_cutWord_13 : decode cX10_cutWord 13 = .ok (.if_icmp .ge 27, 3) := bdX10_cutWord_0.2.2.2.2.2.2.2.1
theorem dX10_cutWord_16 : decode cX10_cutWord 16 = .ok (.aload_n 0, 1) := bdX10_cutWord_0.2.2.2.2.2.2.2.2.1
theorem dX10_cutWord_17 : decode cX10_cutWord 17 = .ok (.aload_n 0, 1) := bdX10_cutWord_0.2.2.2.2.2.2.2.2.2
theorem bdX10_cutWord_18 : (decode cX10_cutWord 18 = .ok (.getfield 40, 3)) ∧ (decode cX10_cutWord 21 = .ok (.invokevirtual 52, 3)) ∧ (decode cX10_cutWord 24 = .ok (.ifCond .eq 16, 3)) ∧ (decode cX10_cutWord 27 = .ok (.aload_n 0, 1)) ∧ (decode cX10_cutWord 28 = .ok (.dup, 1)) ∧ (decode cX10_cutWord 29 = .ok (.getfield 40, 3)) ∧ (decode cX10_cutWord 32 = .ok (.iconst 1, 1)) ∧ (decode cX10_cutWord 33 = .ok (.iadd, 1)) ∧ (decode cX10_cutWord 34 = .ok (.putfield 40, 3)) ∧ (decode cX10_cutWord 37 = .ok (.goto (-32), 3)) := by decide +kernel
theorem dX10_cutWord_18 : decode cX10_cutWord 18 = .ok (.getfield 40, 3) := bdX10_cutWord_18.1
theorem dX10_cutWord_21 : decode cX10_cutWord 21 = .ok (.invokevirtual 52, 3) := bdX10_cutWord_18.2.1
theorem dX10_cutWord_24 : decode cX10_cutWord 24 = .ok (.ifCond .eq 16, 3) := bdX10_cutWord_18.2.2.1
theorem dX10_cutWord_27 : decode cX10_cutWord 27 = .ok (.aload_n 0, 1) := bdX10_cutWord_18.2.2.2.1
theorem dX10_cutWord_28 : decode cX10_cutWord 28 = .ok (.dup, 1) := bdX10_cutWord_18.2.2.2.2.1
theorem dX10_cutWord_29 : decode cX10_cutWord 29 = .ok (.getfield 40, 3) := bdX10_cutWord_18.2.2.2.2.2.1
theorem dX10_cutWord_32 : decode cX10_cutWord 32 = .ok (.iconst 1, 1) := bdX10_cutWord_18.2.2.2.2.2.2.1
theorem dX10_cutWord_33 : decode cX10_cutWord 33 = .ok (.iadd, 1) := bdX10_cutWord_18.2.2.2.2.2.2.2.1
theorem dX10_cutWord_34 : decode cX10_cutWord 34 = .ok (.putfield 40, 3) := bdX10_cutWord_18.2.2.2.2.2.2.2.2.1
theorem dX10_cutWord_37 : decode cX10_cutWord 37 = .ok (.goto (-32), 3) := bdX10_cutWord_18.2.2.2.2.2.2.2.2.2
theorem bdX10_cutWord_40 : (decode cX10_cutWord 40 = .ok (.aload_n 0, 1)) ∧ (decode cX10_cutWord 41 = .ok (.iload_n 1, 1)) ∧ (decode cX10_cutWord 42 = .ok (.aload_n 0, 1)) ∧ (decode cX10_cutWord 43 = .ok (.getfield 40, 3)) ∧ (decode cX10_cutWord 46 = .ok (.invokevirtual 69, 3)) ∧ (decode cX10_cutWord 49 = .ok (.istore_n 2, 1)) ∧ (decode cX10_cutWord 50 = .ok (.aload_n 0, 1)) ∧ (decode cX10_cutWord 51 = .ok (.getfield 13, 3)) ∧ (decode cX10_cutWord 54 = .ok (.aload_n 0, 1)) ∧ (decode cX10_cutWord 55 = .ok (.getfield 43, 3)) := by decide +kernel
theorem dX10_cutWord_40 : decode cX10_cutWord 40 = .ok (.aload_n 0, 1) := bdX10_cutWord_40.1
theorem dX10_cutWord_41 : decode cX10_cutWord 41 = .ok (.iload_n 1, 1) := bdX10_cutWord_40.2.1
theorem dX10_cutWord_42 : decode cX10_cutWord 42 = .ok (.aload_n 0, 1) := bdX10_cutWord_40.2.2.1
theorem dX10_cutWord_43 : decode cX10_cutWord 43 = .ok (.getfield 40, 3) := bdX10_cutWord_40.2.2.2.1
theorem dX10_cutWord_46 : decode cX10_cutWord 46 = .ok (.invokevirtual 69, 3) := bdX10_cutWord_40.2.2.2.2.1
theorem dX10_cutWord_49 : decode cX10_cutWord 49 = .ok (.istore_n 2, 1) := bdX10_cutWord_40.2.2.2.2.2.1
theorem dX10_cutWord_50 : decode cX10_cutWord 50 = .ok (.aload_n 0, 1) := bdX10_cutWord_40.2.2.2.2.2.2.1
theorem dX10_cutWord_51 : decode cX10_cutWord 51 = .ok (.getfield 13, 3) := bdX10_cutWord_40.2.2.2.2.2.2.2.1
theorem dX10_cutWord_54 : decode cX10_cutWord 54 = .ok (.aload_n 0, 1) := bdX10_cutWord_40.2.2.2.2.2.2.2.2.1
theorem dX10_cutWord_55 : decode cX10_cutWord 55 = .ok (.getfield 43, 3) := bdX10_cutWord_40.2.2.2.2.2.2.2.2.2
theorem bdX10_cutWord_58 : (decode cX10_cutWord 58 = .ok (.iload_n 2, 1)) ∧ (decode cX10_cutWord 59 = .ok (.sipush 137, 3)) ∧ (decode cX10_cutWord 62 = .ok (.if_icmp .ne 15, 3)) ∧ (decode cX10_cutWord 65 = .ok (.aload_n 0, 1)) ∧ (decode cX10_cutWord 66 = .ok (.iload_n 1, 1)) ∧ (decode cX10_cutWord 67 = .ok (.aload_n 0, 1)) ∧ (decode cX10_cutWord 68 = .ok (.getfield 40, 3)) ∧ (decode cX10_cutWord 71 = .ok (.invokevirtual 72, 3)) ∧ (decode cX10_cutWord 74 = .ok (.goto 4, 3)) ∧ (decode cX10_cutWord 77 = .ok (.iload_n 2, 1)) := by decide +kernel
theorem dX10_cutWord_58 : decode cX10_cutWord 58 = .ok (.iload_n 2, 1) := bdX10_cutWord_58.1
theorem dX10_cutWord_59 : decode cX10_cutWord 59 = .ok (.sipush 137, 3) := bdX10_cutWord_58.2.1
theorem dX10_cutWord_62 : decode cX10_cutWord 62 = .ok (.if_icmp .ne 15, 3) := bdX10_cutWord_58.2.2.1
theorem dX10_cutWord_65 : decode cX10_cutWord 65 = .ok (.aload_n 0, 1) := bdX10_cutWord_58.2.2.2.1
theorem dX10_cutWord_66 : decode cX10_cutWord 66 = .ok (.iload_n 1, 1) := bdX10_cutWord_58.2.2.2.2.1
theorem dX10_cutWord_67 : decode cX10_cutWord 67 = .ok (.aload_n 0, 1) := bdX10_cutWord_58.2.2.2.2.2.1
theorem dX10_cutWord_68 : decode cX10_cutWord 68 = .ok (.getfield 40, 3) := bdX10_cutWord_58.2.2.2.2.2.2.1
theorem dX10_cutWord_71 : decode cX10_cutWord 71 = .ok (.invokevirtual 72, 3) := bdX10_cutWord_58.2.2.2.2.2.2.2.1
theorem dX10_cutWord_74 : decode cX10_cutWord 74 = .ok (.goto 4, 3) := bdX10_cutWord_58.2.2.2.2.2.2.2.2.1
theorem dX10_cutWord_77 : decode cX10_cutWord 77 = .ok (.iload_n 2, 1) := bdX10_cutWord_58.2.2.2.2.2.2.2.2.2
theorem bdX10_cutWord_78 : (decode cX10_cutWord 78 = .ok (.iastore, 1)) ∧ (decode cX10_cutWord 79 = .ok (.return_, 1)) := by decide +kernel
theorem dX10_cutWord_78 : decode cX10_cutWord 78 = .ok (.iastore, 1) := bdX10_cutWord_78.1
theorem dX10_cutWord_79 : decode cX10_cutWord 79 = .ok (.return_, 1) := bdX10_cutWord_78.2
theorem bdX10_cutNumber_0 : (decode cX10_cutNumber 0 = .ok (.iconst 0, 1)) ∧ (decode cX10_cutNumber 1 = .ok (.istore_n 1, 1)) ∧ (decode cX10_cutNumber 2 = .ok (.iconst 0, 1)) ∧ (decode cX10_cutNumber 3 = .ok (.istore_n 2, 1)) ∧ (decode cX10_cutNumber 4 = .ok (.aload_n 0, 1)) ∧ (decode cX10_cutNumber 5 = .ok (.getfield 40, 3)) ∧ (decode cX10_cutNumber 8 = .ok (.aload_n 0, 1)) ∧ (decode cX10_cutNumber 9 = .ok (.getfield 36, 3)) ∧ (decode cX10_cutNumber 12 = .ok (.if_icmp .ge 53, 3)) ∧ (decode cX10_cutNumber 15 = .ok (.aload_n 0, 1)) := by decide +kernel
theorem dX10_cutNumber_0 : decode cX10_cutNumber 0 = .ok (.iconst 0, 1) := bdX10_cutNumber_0.1
theorem dX10_cutNumber_1 : decode cX10_cutNumber 1 = .ok (.istore_n 1, 1) := bdX10_cutNumber_0.2.1
theorem dX10_cutNumber_2 : decode cX10_cutNumber 2 = .ok (.iconst 0, 1) := bdX10_cutNumber_0.2.2.1
theorem dX10_cutNumber_3 : decode cX10_cutNumber 3 = .ok (.istore_n 2, 1) := bdX10_cutNumber_0.2.2.2.1
theorem dX10_cutNumber_4 : decode cX10_cutNumber 4 = .ok (.aload_n 0, 1) := bdX10_cutNumber_0.2.2.2.2.1
theorem dX10_cutNumber_5 : decode cX10_cutNumber 5 = .ok (.getfield 40, 3) := bdX10_cutNumber_0.2.2.2.2.2.1
theorem dX10_cutNumber_8 : decode cX10_cutNumber 8 = .ok (.aload_n 0, 1) := bdX10_cutNumber_0.2.2.2.2.2.2.1
theorem dX10_cutNumber_9 : decode cX10_cutNumber 9 = .ok (.getfield 36, 3) := bdX10_cutNumber_0.2.2.2.2.2.2.2.1
theorem dX10_cutNumber_12 : decode cX10_cutNumber 12 = .ok (.if_icmp .ge 53, 3) := bdX10_cutNumber_0.2.2.2.2.2.2.2.2.1
theorem dX10_cutNumber_15 : decode cX10_cutNumber 15 = .ok (.aload_n 0, 1) := bdX10_cutNumber_0.2.2.2.2.2.2.2.2.2
theorem bdX10_cutNumber_16 : (decode cX10_cutNumber 16 = .ok (.aload_n 0, 1)) ∧ (decode cX10_cutNumber 17 = .ok (.getfield 40, 3)) ∧ (decode cX10_cutNumber 20 = .ok (.invokevirtual 59, 3)) ∧ (decode cX10_cutNumber 23 = .ok (.ifCond .eq 42, 3)) ∧ (decode cX10_cutNumber 26 = .ok (.iload_n 1, 1)) ∧ (decode cX10_cutNumber 27 = .ok (.iconst 4, 1)) ∧ (decode cX10_cutNumber 28 = .ok (.if_icmp .ge 21, 3)) ∧ (decode cX10_cutNumber 31 = .ok (.bipush 10, 2)) ∧ (decode cX10_cutNumber 33 = .ok (.iload_n 2, 1)) ∧ (decode cX10_cutNumber 34 = .ok (.imul, 1)) := by decide +kernel
theorem dX10_cutNumber_16 : decode cX10_cutNumber 16 = .ok (.aload_n 0, 1) := bdX10_cutNumber_16.1
theorem dX10_cutNumber_17 : decode cX10_cutNumber 17 = .ok (.getfield 40, 3) := bdX10_cutNumber_16.2.1
theorem dX10_cutNumber_20 : decode cX10_cutNumber 20 = .ok (.invokevirtual 59, 3) := bdX10_cutNumber_16.2.2.1
theorem dX10_cutNumber_23 : decode cX10_cutNumber 23 = .ok (.ifCond .eq 42, 3) := bdX10_cutNumber_16.2.2.2.1
theorem dX10_cutNumber_26 : decode cX10_cutNumber 26 = .ok (.iload_n 1, 1) := bdX10_cutNumber_16.2.2.2.2.1
theorem dX10_cutNumber_27 : decode cX10_cutNumber 27 = .ok (.iconst 4, 1) := bdX10_cutNumber_16.2.2.2.2.2.1
theorem dX10_cutNumber_28 : decode cX10_cutNumber 28 = .ok (.if_icmp .ge 21, 3) := bdX10_cutNumber_16.2.2.2.2.2.2.1
theorem dX10_cutNumber_31 : decode cX10_cutNumber 31 = .ok (.bipush 10, 2) := bdX10_cutNumber_16.2.2.2.2.2.2.2.1
theorem dX10_cutNumber_33 : decode cX10_cutNumber 33 = .ok (.iload_n 2, 1) := bdX10_cutNumber_16.2.2.2.2.2.2.2.2.1
theorem dX10_cutNumber_34 : decode cX10_cutNumber 34 = .ok (.imul, 1) := bdX10_cutNumber_16.2.2.2.2.2.2.2.2.2
theorem bdX10_cutNumber_35 : (decode cX10_cutNumber 35 = .ok (.aload_n 0, 1)) ∧ (decode cX10_cutNumber 36 = .ok (.getfield 29, 3)) ∧ (decode cX10_cutNumber 39 = .ok (.aload_n 0, 1)) ∧ (decode cX10_cutNumber 40 = .ok (.getfield 40, 3)) ∧ (decode cX10_cutNumber 43 = .ok (.baload, 1)) ∧ (decode cX10_cutNumber 44 = .ok (.iadd, 1)) ∧ (decode cX10_cutNumber 45 = .ok (.bipush 48, 2)) ∧ (decode cX10_cutNumber 47 = .ok (.isub, 1)) ∧ (decode cX10_cutNumber 48 = .ok (.istore_n 2, 1)) ∧ (decode cX10_cutNumber 49 = .ok (.iinc 1 1, 3)) := by decide +kernel
theorem dX10_cutNumber_35 : decode cX10_cutNumber 35 = .ok (.aload_n 0, 1) := bdX10_cutNumber_35.1
theorem dX10_cutNumber_36 : decode cX10_cutNumber 36 = .ok (.getfield 29, 3) := bdX10_cutNumber_35.2.1
theorem dX10_cutNumber_39 : decode cX10_cutNumber 39 = .ok (.aload_n 0, 1) := bdX10_cutNumber_35.2.2.1
theorem dX10_cutNumber_40 : decode cX10_cutNumber 40 = .ok (.getfield 40, 3) := bdX10_cutNumber_35.2.2.2.1
theorem dX10_cutNumber_43 : decode cX10_cutNumber 43 = .ok (.baload, 1) := bdX10_cutNumber_35.2.2.2.2.1
theorem dX10_cutNumber_44 : decode cX10_cutNumber 44 = .ok (.iadd, 1) := bdX10_cutNumber_35.2.2.2.2.2.1
theorem dX10_cutNumber_45 : decode cX10_cutNumber 45 = .ok (.bipush 48, 2) := bdX10_cutNumber_35.2.2.2.2.2.2.1
theorem dX10_cutNumber_47 : decode cX10_cutNumber 47 = .ok (.isub, 1) := bdX10_cutNumber_35.2.2.2.2.2.2.2.1
theorem dX10_cutNumber_48 : decode cX10_cutNumber 48 = .ok (.istore_n 2, 1) := bdX10_cutNumber_35.2.2.2.2.2.2.2.2.1
theorem dX10_cutNumber_49 : decode cX10_cutNumber 49 = .ok (.iinc 1 1, 3) := bdX10_cutNumber_35.2.2.2.2.2.2.2.2.2
theorem bdX10_cutNumber_52 : (decode cX10_cutNumber 52 = .ok (.aload_n 0, 1)) ∧ (decode cX10_cutNumber 53 = .ok (.dup, 1)) ∧ (decode cX10_cutNumber 54 = .ok (.getfield 40, 3)) ∧ (decode cX10_cutNumber 57 = .ok (.iconst 1, 1)) ∧ (decode cX10_cutNumber 58 = .ok (.iadd, 1)) ∧ (decode cX10_cutNumber 59 = .ok (.putfield 40, 3)) ∧ (decode cX10_cutNumber 62 = .ok (.goto (-58), 3)) ∧ (decode cX10_cutNumber 65 = .ok (.aload_n 0, 1)) ∧ (decode cX10_cutNumber 66 = .ok (.getfield 13, 3)) ∧ (decode cX10_cutNumber 69 = .ok (.aload_n 0, 1)) := by decide +kernel
theorem dX10_cutNumber_52 : decode cX10_cutNumber 52 = .ok (.aload_n 0, 1) := bdX10_cutNumber_52.1
theorem dX10_cutNumber_53 : decode cX10_cutNumber 53 = .ok (.dup, 1) := bdX10_cutNumber_52.2.1
theorem dX10_cutNumber_54 : decode cX10_cutNumber 54 = .ok (.getfield 40, 3) := bdX10_cutNumber_52.2.2.1
theorem dX10_cutNumber_57 : decode cX10_cutNumber 57 = .ok (.iconst 1, 1) := bdX10_cutNumber_52.2.2.2.1
theorem dX10_cutNumber_58 : decode cX10_cutNumber 58 = .ok (.iadd, 1) := bdX10_cutNumber_52.2.2.2.2.1
theorem dX10_cutNumber_59 : decode cX10_cutNumber 59 = .ok (.putfield 40, 3) := bdX10_cutNumber_52.2.2.2.2.2.1
theorem dX10_cutNumber_62 : decode cX10_cutNumber 62 = .ok (.goto (-58), 3) := bdX10_cutNumber_52.2.2.2.2.2.2.1
theorem dX10_cutNumber_65 : decode cX10_cutNumber 65 = .ok (.aload_n 0, 1) := bdX10_cutNumber_52.2.2.2.2.2.2.2.1
theorem dX10_cutNumber_66 : decode cX10_cutNumber 66 = .ok (.getfield 13, 3) := bdX10_cutNumber_52.2.2.2.2.2.2.2.2.1
theorem dX10_cutNumber_69 : decode cX10_cutNumber 69 = .ok (.aload_n 0, 1) := bdX10_cutNumber_52.2.2.2.2.2.2.2.2.2
theorem bdX10_cutNumber_70 : (decode cX10_cutNumber 70 = .ok (.getfield 43, 3)) ∧ (decode cX10_cutNumber 73 = .ok (.iload_n 1, 1)) ∧ (decode cX10_cutNumber 74 = .ok (.iconst 4, 1)) ∧ (decode cX10_cutNumber 75 = .ok (.if_icmp .le 7, 3)) ∧ (decode cX10_cutNumber 78 = .ok (.iconst 2, 1)) ∧ (decode cX10_cutNumber 79 = .ok (.goto 4, 3)) ∧ (decode cX10_cutNumber 82 = .ok (.iconst 1, 1)) ∧ (decode cX10_cutNumber 83 = .ok (.iastore, 1)) ∧ (decode cX10_cutNumber 84 = .ok (.aload_n 0, 1)) ∧ (decode cX10_cutNumber 85 = .ok (.getfield 20, 3)) := by decide +kernel
theorem dX10_cutNumber_70 : decode cX10_cutNumber 70 = .ok (.getfield 43, 3) := bdX10_cutNumber_70.1
theorem dX10_cutNumber_73 : decode cX10_cutNumber 73 = .ok (.iload_n 1, 1) := bdX10_cutNumber_70.2.1
theorem dX10_cutNumber_74 : decode cX10_cutNumber 74 = .ok (.iconst 4, 1) := bdX10_cutNumber_70.2.2.1
theorem dX10_cutNumber_75 : decode cX10_cutNumber 75 = .ok (.if_icmp .le 7, 3) := bdX10_cutNumber_70.2.2.2.1
theorem dX10_cutNumber_78 : decode cX10_cutNumber 78 = .ok (.iconst 2, 1) := bdX10_cutNumber_70.2.2.2.2.1
theorem dX10_cutNumber_79 : decode cX10_cutNumber 79 = .ok (.goto 4, 3) := bdX10_cutNumber_70.2.2.2.2.2.1
theorem dX10_cutNumber_82 : decode cX10_cutNumber 82 = .ok (.iconst 1, 1) := bdX10_cutNumber_70.2.2.2.2.2.2.1
theorem dX10_cutNumber_83 : decode cX10_cutNumber 83 = .ok (.iastore, 1) := bdX10_cutNumber_70.2.2.2.2.2.2.2.1
theorem dX10_cutNumber_84 : decode cX10_cutNumber 84 = .ok (.aload_n 0, 1) := bdX10_cutNumber_70.2.2.2.2.2.2.2.2.1
theorem dX10_cutNumber_85 : decode cX10_cutNumber 85 = .ok (.getfield 20, 3) := bdX10_cutNumber_70.2.2.2.2.2.2.2.2.2
theorem bdX10_cutNumber_88 : (decode cX10_cutNumber 88 = .ok (.aload_n 0, 1)) ∧ (decode cX10_cutNumber 89 = .ok (.getfield 43, 3)) ∧ (decode cX10_cutNumber 92 = .ok (.iload_n 2, 1)) ∧ (decode cX10_cutNumber 93 = .ok (.iastore, 1)) ∧ (decode cX10_cutNumber 94 = .ok (.return_, 1)) := by decide +kernel
theorem dX10_cutNumber_88 : decode cX10_cutNumber 88 = .ok (.aload_n 0, 1) := bdX10_cutNumber_88.1
theorem dX10_cutNumber_89 : decode cX10_cutNumber 89 = .ok (.getfield 43, 3) := bdX10_cutNumber_88.2.1
theorem dX10_cutNumber_92 : decode cX10_cutNumber 92 = .ok (.iload_n 2, 1) := bdX10_cutNumber_88.2.2.1
theorem dX10_cutNumber_93 : decode cX10_cutNumber 93 = .ok (.iastore, 1) := bdX10_cutNumber_88.2.2.2.1
theorem dX10_cutNumber_94 : decode cX10_cutNumber 94 = .ok (.return_, 1) := bdX10_cutNumber_88.2.2.2.2
theorem bdX10_signOf_0 : (decode cX10_signOf 0 = .ok (.iload_n 0, 1)) ∧ (decode cX10_signOf 1 = .ok (.tableswitch 105 40 61 #[103, 103, 103, 103, 105, 103, 105, 103, 105, 105, 105, 105, 105, 105, 105, 105, 105, 105, 105, 103, 103, 103], 103)) ∧ (decode cX10_signOf 104 = .ok (.iload_n 0, 1)) ∧ (decode cX10_signOf 105 = .ok (.ireturn, 1)) ∧ (decode cX10_signOf 106 = .ok (.iconst 3, 1)) ∧ (decode cX10_signOf 107 = .ok (.ireturn, 1)) := by decide +kernel
theorem dX10_signOf_0 : decode cX10_signOf 0 = .ok (.iload_n 0, 1) := bdX10_signOf_0.1
theorem dX10_signOf_1 : decode cX10_signOf 1 = .ok (.tableswitch 105 40 61 #[103, 103, 103, 103, 105, 103, 105, 103, 105, 105, 105, 105, 105, 105, 105, 105, 105, 105, 105, 103, 103, 103], 103) := bdX10_signOf_0.2.1
theorem dX10_signOf_104 : decode cX10_signOf 104 = .ok (.iload_n 0, 1) := bdX10_signOf_0.2.2.1
theorem dX10_signOf_105 : decode cX10_signOf 105 = .ok (.ireturn, 1) := bdX10_signOf_0.2.2.2.1
theorem dX10_signOf_106 : decode cX10_signOf 106 = .ok (.iconst 3, 1) := bdX10_signOf_0.2.2.2.2.1
theorem dX10_signOf_107 : decode cX10_signOf 107 = .ok (.ireturn, 1) := bdX10_signOf_0.2.2.2.2.2
theorem bdX10_keywordOf_0 : (decode cX10_keywordOf 0 = .ok (.aload_n 0, 1)) ∧ (decode cX10_keywordOf 1 = .ok (.iload_n 1, 1)) ∧ (decode cX10_keywordOf 2 = .ok (.iload_n 2, 1)) ∧ (decode cX10_keywordOf 3 = .ok (.ldc 75, 2)) ∧ (decode cX10_keywordOf 5 = .ok (.invokevirtual 77, 3)) ∧ (decode cX10_keywordOf 8 = .ok (.ifCond .eq 7, 3)) ∧ (decode cX10_keywordOf 11 = .ok (.sipush 128, 3)) ∧ (decode cX10_keywordOf 14 = .ok (.ireturn, 1)) ∧ (decode cX10_keywordOf 15 = .ok (.aload_n 0, 1)) ∧ (decode cX10_keywordOf 16 = .ok (.iload_n 1, 1)) := by decide +kernel
theorem dX10_keywordOf_0 : decode cX10_keywordOf 0 = .ok (.aload_n 0, 1) := bdX10_keywordOf_0.1
theorem dX10_keywordOf_1 : decode cX10_keywordOf 1 = .ok (.iload_n 1, 1) := bdX10_keywordOf_0.2.1
theorem dX10_keywordOf_2 : decode cX10_keywordOf 2 = .ok (.iload_n 2, 1) := bdX10_keywordOf_0.2.2.1
theorem dX10_keywordOf_3 : decode cX10_keywordOf 3 = .ok (.ldc 75, 2) := bdX10_keywordOf_0.2.2.2.1
theorem dX10_keywordOf_5 : decode cX10_keywordOf 5 = .ok (.invokevirtual 77, 3) := bdX10_keywordOf_0.2.2.2.2.1
theorem dX10_keywordOf_8 : decode cX10_keywordOf 8 = .ok (.ifCond .eq 7, 3) := bdX10_keywordOf_0.2.2.2.2.2.1
theorem dX10_keywordOf_11 : decode cX10_keywordOf 11 = .ok (.sipush 128, 3) := bdX10_keywordOf_0.2.2.2.2.2.2.1
theorem dX10_keywordOf_14 : decode cX10_keywordOf 14 = .ok (.ireturn, 1) := bdX10_keywordOf_0.2.2.2.2.2.2.2.1
theorem dX10_keywordOf_15 : decode cX10_keywordOf 15 = .ok (.aload_n 0, 1) := bdX10_keywordOf_0.2.2.2.2.2.2.2.2.1
theorem dX10_keywordOf_16 : decode cX10_keywordOf 16 = .ok (.iload_n 1, 1) := bdX10_keywordOf_0.2.2.2.2.2.2.2.2.2
theorem bdX10_keywordOf_17 : (decode cX10_keywordOf 17 = .ok (.iload_n 2, 1)) ∧ (decode cX10_keywordOf 18 = .ok (.ldc 81, 2)) ∧ (decode cX10_keywordOf 20 = .ok (.invokevirtual 77, 3)) ∧ (decode cX10_keywordOf 23 = .ok (.ifCond .eq 7, 3)) ∧ (decode cX10_keywordOf 26 = .ok (.sipush 129, 3)) ∧ (decode cX10_keywordOf 29 = .ok (.ireturn, 1)) ∧ (decode cX10_keywordOf 30 = .ok (.aload_n 0, 1)) ∧ (decode cX10_keywordOf 31 = .ok (.iload_n 1, 1)) ∧ (decode cX10_keywordOf 32 = .ok (.iload_n 2, 1)) ∧ (decode cX10_keywordOf 33 = .ok (.ldc 83, 2)) := by decide +kernel
theorem dX10_keywordOf_17 : decode cX10_keywordOf 17 = .ok (.iload_n 2, 1) := bdX10_keywordOf_17.1
theorem dX10_keywordOf_18 : decode cX10_keywordOf 18 = .ok (.ldc 81, 2) := bdX10_keywordOf_17.2.1
theorem dX10_keywordOf_20 : decode cX10_keywordOf 20 = .ok (.invokevirtual 77, 3) := bdX10_keywordOf_17.2.2.1
theorem dX10_keywordOf_23 : decode cX10_keywordOf 23 = .ok (.ifCond .eq 7, 3) := bdX10_keywordOf_17.2.2.2.1
theorem dX10_keywordOf_26 : decode cX10_keywordOf 26 = .ok (.sipush 129, 3) := bdX10_keywordOf_17.2.2.2.2.1
theorem dX10_keywordOf_29 : decode cX10_keywordOf 29 = .ok (.ireturn, 1) := bdX10_keywordOf_17.2.2.2.2.2.1
theorem dX10_keywordOf_30 : decode cX10_keywordOf 30 = .ok (.aload_n 0, 1) := bdX10_keywordOf_17.2.2.2.2.2.2.1
theorem dX10_keywordOf_31 : decode cX10_keywordOf 31 = .ok (.iload_n 1, 1) := bdX10_keywordOf_17.2.2.2.2.2.2.2.1
theorem dX10_keywordOf_32 : decode cX10_keywordOf 32 = .ok (.iload_n 2, 1) := bdX10_keywordOf_17.2.2.2.2.2.2.2.2.1
theorem dX10_keywordOf_33 : decode cX10_keywordOf 33 = .ok (.ldc 83, 2) := bdX10_keywordOf_17.2.2.2.2.2.2.2.2.2
theorem bdX10_keywordOf_35 : (decode cX10_keywordOf 35 = .ok (.invokevirtual 77, 3)) ∧ (decode cX10_keywordOf 38 = .ok (.ifCond .eq 7, 3)) ∧ (decode cX10_keywordOf 41 = .ok (.sipush 130, 3)) ∧ (decode cX10_keywordOf 44 = .ok (.ireturn, 1)) ∧ (decode cX10_keywordOf 45 = .ok (.aload_n 0, 1)) ∧ (decode cX10_keywordOf 46 = .ok (.iload_n 1, 1)) ∧ (decode cX10_keywordOf 47 = .ok (.iload_n 2, 1)) ∧ (decode cX10_keywordOf 48 = .ok (.ldc 85, 2)) ∧ (decode cX10_keywordOf 50 = .ok (.invokevirtual 77, 3)) ∧ (decode cX10_keywordOf 53 = .ok (.ifCond .eq 7, 3)) := by decide +kernel
theorem dX10_keywordOf_35 : decode cX10_keywordOf 35 = .ok (.invokevirtual 77, 3) := bdX10_keywordOf_35.1
theorem dX10_keywordOf_38 : decode cX10_keywordOf 38 = .ok (.ifCond .eq 7, 3) := bdX10_keywordOf_35.2.1
theorem dX10_keywordOf_41 : decode cX10_keywordOf 41 = .ok (.sipush 130, 3) := bdX10_keywordOf_35.2.2.1
theorem dX10_keywordOf_44 : decode cX10_keywordOf 44 = .ok (.ireturn, 1) := bdX10_keywordOf_35.2.2.2.1
theorem dX10_keywordOf_45 : decode cX10_keywordOf 45 = .ok (.aload_n 0, 1) := bdX10_keywordOf_35.2.2.2.2.1
theorem dX10_keywordOf_46 : decode cX10_keywordOf 46 = .ok (.iload_n 1, 1) := bdX10_keywordOf_35.2.2.2.2.2.1
theorem dX10_keywordOf_47 : decode cX10_keywordOf 47 = .ok (.iload_n 2, 1) := bdX10_keywordOf_35.2.2.2.2.2.2.1
theorem dX10_keywordOf_48 : decode cX10_keywordOf 48 = .ok (.ldc 85, 2) := bdX10_keywordOf_35.2.2.2.2.2.2.2.1
theorem dX10_keywordOf_50 : decode cX10_keywordOf 50 = .ok (.invokevirtual 77, 3) := bdX10_keywordOf_35.2.2.2.2.2.2.2.2.1
theorem dX10_keywordOf_53 : decode cX10_keywordOf 53 = .ok (.ifCond .eq 7, 3) := bdX10_keywordOf_35.2.2.2.2.2.2.2.2.2
theorem bdX10_keywordOf_56 : (decode cX10_keywordOf 56 = .ok (.sipush 131, 3)) ∧ (decode cX10_keywordOf 59 = .ok (.ireturn, 1)) ∧ (decode cX10_keywordOf 60 = .ok (.aload_n 0, 1)) ∧ (decode cX10_keywordOf 61 = .ok (.iload_n 1, 1)) ∧ (decode cX10_keywordOf 62 = .ok (.iload_n 2, 1)) ∧ (decode cX10_keywordOf 63 = .ok (.ldc 87, 2)) ∧ (decode cX10_keywordOf 65 = .ok (.invokevirtual 77, 3)) ∧ (decode cX10_keywordOf 68 = .ok (.ifCond .eq 7, 3)) ∧ (decode cX10_keywordOf 71 = .ok (.sipush 132, 3)) ∧ (decode cX10_keywordOf 74 = .ok (.ireturn, 1)) := by decide +kernel
theorem dX10_keywordOf_56 : decode cX10_keywordOf 56 = .ok (.sipush 131, 3) := bdX10_keywordOf_56.1
theorem dX10_keywordOf_59 : decode cX10_keywordOf 59 = .ok (.ireturn, 1) := bdX10_keywordOf_56.2.1
theorem dX10_keywordOf_60 : decode cX10_keywordOf 60 = .ok (.aload_n 0, 1) := bdX10_keywordOf_56.2.2.1
theorem dX10_keywordOf_61 : decode cX10_keywordOf 61 = .ok (.iload_n 1, 1) := bdX10_keywordOf_56.2.2.2.1
theorem dX10_keywordOf_62 : decode cX10_keywordOf 62 = .ok (.iload_n 2, 1) := bdX10_keywordOf_56.2.2.2.2.1
theorem dX10_keywordOf_63 : decode cX10_keywordOf 63 = .ok (.ldc 87, 2) := bdX10_keywordOf_56.2.2.2.2.2.1
theorem dX10_keywordOf_65 : decode cX10_keywordOf 65 = .ok (.invokevirtual 77, 3) := bdX10_keywordOf_56.2.2.2.2.2.2.1
theorem dX10_keywordOf_68 : decode cX10_keywordOf 68 = .ok (.ifCond .eq 7, 3) := bdX10_keywordOf_56.2.2.2.2.2.2.2.1
theorem dX10_keywordOf_71 : decode cX10_keywordOf 71 = .ok (.sipush 132, 3) := bdX10_keywordOf_56.2.2.2.2.2.2.2.2.1
theorem dX10_keywordOf_74 : decode cX10_keywordOf 74 = .ok (.ireturn, 1) := bdX10_keywordOf_56.2.2.2.2.2.2.2.2.2
theorem bdX10_keywordOf_75 : (decode cX10_keywordOf 75 = .ok (.aload_n 0, 1)) ∧ (decode cX10_keywordOf 76 = .ok (.iload_n 1, 1)) ∧ (decode cX10_keywordOf 77 = .ok (.iload_n 2, 1)) ∧ (decode cX10_keywordOf 78 = .ok (.ldc 89, 2)) ∧ (decode cX10_keywordOf 80 = .ok (.invokevirtual 77, 3)) ∧ (decode cX10_keywordOf 83 = .ok (.ifCond .eq 7, 3)) ∧ (decode cX10_keywordOf 86 = .ok (.sipush 133, 3)) ∧ (decode cX10_keywordOf 89 = .ok (.ireturn, 1)) ∧ (decode cX10_keywordOf 90 = .ok (.aload_n 0, 1)) ∧ (decode cX10_keywordOf 91 = .ok (.iload_n 1, 1)) := by decide +kernel
theorem dX10_keywordOf_75 : decode cX10_keywordOf 75 = .ok (.aload_n 0, 1) := bdX10_keywordOf_75.1
theorem dX10_keywordOf_76 : decode cX10_keywordOf 76 = .ok (.iload_n 1, 1) := bdX10_keywordOf_75.2.1
theorem dX10_keywordOf_77 : decode cX10_keywordOf 77 = .ok (.iload_n 2, 1) := bdX10_keywordOf_75.2.2.1
theorem dX10_keywordOf_78 : decode cX10_keywordOf 78 = .ok (.ldc 89, 2) := bdX10_keywordOf_75.2.2.2.1
theorem dX10_keywordOf_80 : decode cX10_keywordOf 80 = .ok (.invokevirtual 77, 3) := bdX10_keywordOf_75.2.2.2.2.1
theorem dX10_keywordOf_83 : decode cX10_keywordOf 83 = .ok (.ifCond .eq 7, 3) := bdX10_keywordOf_75.2.2.2.2.2.1
theorem dX10_keywordOf_86 : decode cX10_keywordOf 86 = .ok (.sipush 133, 3) := bdX10_keywordOf_75.2.2.2.2.2.2.1
theorem dX10_keywordOf_89 : decode cX10_keywordOf 89 = .ok (.ireturn, 1) := bdX10_keywordOf_75.2.2.2.2.2.2.2.1
theorem dX10_keywordOf_90 : decode cX10_keywordOf 90 = .ok (.aload_n 0, 1) := bdX10_keywordOf_75.2.2.2.2.2.2.2.2.1
theorem dX10_keywordOf_91 : decode cX10_keywordOf 91 = .ok (.iload_n 1, 1) := bdX10_keywordOf_75.2.2.2.2.2.2.2.2.2
theorem bdX10_keywordOf_92 : (decode cX10_keywordOf 92 = .ok (.iload_n 2, 1)) ∧ (decode cX10_keywordOf 93 = .ok (.ldc 91, 2)) ∧ (decode cX10_keywordOf 95 = .ok (.invokevirtual 77, 3)) ∧ (decode cX10_keywordOf 98 = .ok (.ifCond .eq 7, 3)) ∧ (decode cX10_keywordOf 101 = .ok (.sipush 134, 3)) ∧ (decode cX10_keywordOf 104 = .ok (.ireturn, 1)) ∧ (decode cX10_keywordOf 105 = .ok (.aload_n 0, 1)) ∧ (decode cX10_keywordOf 106 = .ok (.iload_n 1, 1)) ∧ (decode cX10_keywordOf 107 = .ok (.iload_n 2, 1)) ∧ (decode cX10_keywordOf 108 = .ok (.ldc 93, 2)) := by decide +kernel
theorem dX10_keywordOf_92 : decode cX10_keywordOf 92 = .ok (.iload_n 2, 1) := bdX10_keywordOf_92.1
theorem dX10_keywordOf_93 : decode cX10_keywordOf 93 = .ok (.ldc 91, 2) := bdX10_keywordOf_92.2.1
theorem dX10_keywordOf_95 : decode cX10_keywordOf 95 = .ok (.invokevirtual 77, 3) := bdX10_keywordOf_92.2.2.1
theorem dX10_keywordOf_98 : decode cX10_keywordOf 98 = .ok (.ifCond .eq 7, 3) := bdX10_keywordOf_92.2.2.2.1
theorem dX10_keywordOf_101 : decode cX10_keywordOf 101 = .ok (.sipush 134, 3) := bdX10_keywordOf_92.2.2.2.2.1
theorem dX10_keywordOf_104 : decode cX10_keywordOf 104 = .ok (.ireturn, 1) := bdX10_keywordOf_92.2.2.2.2.2.1
theorem dX10_keywordOf_105 : decode cX10_keywordOf 105 = .ok (.aload_n 0, 1) := bdX10_keywordOf_92.2.2.2.2.2.2.1
theorem dX10_keywordOf_106 : decode cX10_keywordOf 106 = .ok (.iload_n 1, 1) := bdX10_keywordOf_92.2.2.2.2.2.2.2.1
theorem dX10_keywordOf_107 : decode cX10_keywordOf 107 = .ok (.iload_n 2, 1) := bdX10_keywordOf_92.2.2.2.2.2.2.2.2.1
theorem dX10_keywordOf_108 : decode cX10_keywordOf 108 = .ok (.ldc 93, 2) := bdX10_keywordOf_92.2.2.2.2.2.2.2.2.2
theorem bdX10_keywordOf_110 : (decode cX10_keywordOf 110 = .ok (.invokevirtual 77, 3)) ∧ (decode cX10_keywordOf 113 = .ok (.ifCond .eq 7, 3)) ∧ (decode cX10_keywordOf 116 = .ok (.sipush 135, 3)) ∧ (decode cX10_keywordOf 119 = .ok (.ireturn, 1)) ∧ (decode cX10_keywordOf 120 = .ok (.aload_n 0, 1)) ∧ (decode cX10_keywordOf 121 = .ok (.iload_n 1, 1)) ∧ (decode cX10_keywordOf 122 = .ok (.iload_n 2, 1)) ∧ (decode cX10_keywordOf 123 = .ok (.ldc 95, 2)) ∧ (decode cX10_keywordOf 125 = .ok (.invokevirtual 77, 3)) ∧ (decode cX10_keywordOf 128 = .ok (.ifCond .eq 7, 3)) := by decide +kernel
theorem dX10_keywordOf_110 : decode cX10_keywordOf 110 = .ok (.invokevirtual 77, 3) := bdX10_keywordOf_110.1
theorem dX10_keywordOf_113 : decode cX10_keywordOf 113 = .ok (.ifCond .eq 7, 3) := bdX10_keywordOf_110.2.1
theorem dX10_keywordOf_116 : decode cX10_keywordOf 116 = .ok (.sipush 135, 3) := bdX10_keywordOf_110.2.2.1
theorem dX10_keywordOf_119 : decode cX10_keywordOf 119 = .ok (.ireturn, 1) := bdX10_keywordOf_110.2.2.2.1
theorem dX10_keywordOf_120 : decode cX10_keywordOf 120 = .ok (.aload_n 0, 1) := bdX10_keywordOf_110.2.2.2.2.1
theorem dX10_keywordOf_121 : decode cX10_keywordOf 121 = .ok (.iload_n 1, 1) := bdX10_keywordOf_110.2.2.2.2.2.1
theorem dX10_keywordOf_122 : decode cX10_keywordOf 122 = .ok (.iload_n 2, 1) := bdX10_keywordOf_110.2.2.2.2.2.2.1
theorem dX10_keywordOf_123 : decode cX10_keywordOf 123 = .ok (.ldc 95, 2) := bdX10_keywordOf_110.2.2.2.2.2.2.2.1
theorem dX10_keywordOf_125 : decode cX10_keywordOf 125 = .ok (.invokevirtual 77, 3) := bdX10_keywordOf_110.2.2.2.2.2.2.2.2.1
theorem dX10_keywordOf_128 : decode cX10_keywordOf 128 = .ok (.ifCond .eq 7, 3) := bdX10_keywordOf_110.2.2.2.2.2.2.2.2.2
theorem bdX10_keywordOf_131 : (decode cX10_keywordOf 131 = .ok (.sipush 136, 3)) ∧ (decode cX10_keywordOf 134 = .ok (.ireturn, 1)) ∧ (decode cX10_keywordOf 135 = .ok (.sipush 137, 3)) ∧ (decode cX10_keywordOf 138 = .ok (.ireturn, 1)) := by decide +kernel
theorem dX10_keywordOf_131 : decode cX10_keywordOf 131 = .ok (.sipush 136, 3) := bdX10_keywordOf_131.1
theorem dX10_keywordOf_134 : decode cX10_keywordOf 134 = .ok (.ireturn, 1) := bdX10_keywordOf_131.2.1
theorem dX10_keywordOf_135 : decode cX10_keywordOf 135 = .ok (.sipush 137, 3) := bdX10_keywordOf_131.2.2.1
theorem dX10_keywordOf_138 : decode cX10_keywordOf 138 = .ok (.ireturn, 1) := bdX10_keywordOf_131.2.2.2
theorem bdX10_valueOf_0 : (decode cX10_valueOf 0 = .ok (.aload_n 0, 1)) ∧ (decode cX10_valueOf 1 = .ok (.iload_n 1, 1)) ∧ (decode cX10_valueOf 2 = .ok (.iload_n 2, 1)) ∧ (decode cX10_valueOf 3 = .ok (.ldc 97, 2)) ∧ (decode cX10_valueOf 5 = .ok (.invokevirtual 77, 3)) ∧ (decode cX10_valueOf 8 = .ok (.ifCond .eq 7, 3)) ∧ (decode cX10_valueOf 11 = .ok (.sipush 140, 3)) ∧ (decode cX10_valueOf 14 = .ok (.ireturn, 1)) ∧ (decode cX10_valueOf 15 = .ok (.aload_n 0, 1)) ∧ (decode cX10_valueOf 16 = .ok (.iload_n 1, 1)) := by decide +kernel
theorem dX10_valueOf_0 : decode cX10_valueOf 0 = .ok (.aload_n 0, 1) := bdX10_valueOf_0.1
theorem dX10_valueOf_1 : decode cX10_valueOf 1 = .ok (.iload_n 1, 1) := bdX10_valueOf_0.2.1
theorem dX10_valueOf_2 : decode cX10_valueOf 2 = .ok (.iload_n 2, 1) := bdX10_valueOf_0.2.2.1
theorem dX10_valueOf_3 : decode cX10_valueOf 3 = .ok (.ldc 97, 2) := bdX10_valueOf_0.2.2.2.1
theorem dX10_valueOf_5 : decode cX10_valueOf 5 = .ok (.invokevirtual 77, 3) := bdX10_valueOf_0.2.2.2.2.1
theorem dX10_valueOf_8 : decode cX10_valueOf 8 = .ok (.ifCond .eq 7, 3) := bdX10_valueOf_0.2.2.2.2.2.1
theorem dX10_valueOf_11 : decode cX10_valueOf 11 = .ok (.sipush 140, 3) := bdX10_valueOf_0.2.2.2.2.2.2.1
theorem dX10_valueOf_14 : decode cX10_valueOf 14 = .ok (.ireturn, 1) := bdX10_valueOf_0.2.2.2.2.2.2.2.1
theorem dX10_valueOf_15 : decode cX10_valueOf 15 = .ok (.aload_n 0, 1) := bdX10_valueOf_0.2.2.2.2.2.2.2.2.1
theorem dX10_valueOf_16 : decode cX10_valueOf 16 = .ok (.iload_n 1, 1) := bdX10_valueOf_0.2.2.2.2.2.2.2.2.2
theorem bdX10_valueOf_17 : (decode cX10_valueOf 17 = .ok (.iload_n 2, 1)) ∧ (decode cX10_valueOf 18 = .ok (.ldc 99, 2)) ∧ (decode cX10_valueOf 20 = .ok (.invokevirtual 77, 3)) ∧ (decode cX10_valueOf 23 = .ok (.ifCond .eq 7, 3)) ∧ (decode cX10_valueOf 26 = .ok (.sipush 141, 3)) ∧ (decode cX10_valueOf 29 = .ok (.ireturn, 1)) ∧ (decode cX10_valueOf 30 = .ok (.aload_n 0, 1)) ∧ (decode cX10_valueOf 31 = .ok (.iload_n 1, 1)) ∧ (decode cX10_valueOf 32 = .ok (.iload_n 2, 1)) ∧ (decode cX10_valueOf 33 = .ok (.ldc 101, 2)) := by decide +kernel
theorem dX10_valueOf_17 : decode cX10_valueOf 17 = .ok (.iload_n 2, 1) := bdX10_valueOf_17.1
theorem dX10_valueOf_18 : decode cX10_valueOf 18 = .ok (.ldc 99, 2) := bdX10_valueOf_17.2.1
theorem dX10_valueOf_20 : decode cX10_valueOf 20 = .ok (.invokevirtual 77, 3) := bdX10_valueOf_17.2.2.1
theorem dX10_valueOf_23 : decode cX10_valueOf 23 = .ok (.ifCond .eq 7, 3) := bdX10_valueOf_17.2.2.2.1
theorem dX10_valueOf_26 : decode cX10_valueOf 26 = .ok (.sipush 141, 3) := bdX10_valueOf_17.2.2.2.2.1
theorem dX10_valueOf_29 : decode cX10_valueOf 29 = .ok (.ireturn, 1) := bdX10_valueOf_17.2.2.2.2.2.1
theorem dX10_valueOf_30 : decode cX10_valueOf 30 = .ok (.aload_n 0, 1) := bdX10_valueOf_17.2.2.2.2.2.2.1
theorem dX10_valueOf_31 : decode cX10_valueOf 31 = .ok (.iload_n 1, 1) := bdX10_valueOf_17.2.2.2.2.2.2.2.1
theorem dX10_valueOf_32 : decode cX10_valueOf 32 = .ok (.iload_n 2, 1) := bdX10_valueOf_17.2.2.2.2.2.2.2.2.1
theorem dX10_valueOf_33 : decode cX10_valueOf 33 = .ok (.ldc 101, 2) := bdX10_valueOf_17.2.2.2.2.2.2.2.2.2
theorem bdX10_valueOf_35 : (decode cX10_valueOf 35 = .ok (.invokevirtual 77, 3)) ∧ (decode cX10_valueOf 38 = .ok (.ifCond .eq 7, 3)) ∧ (decode cX10_valueOf 41 = .ok (.sipush 142, 3)) ∧ (decode cX10_valueOf 44 = .ok (.ireturn, 1)) ∧ (decode cX10_valueOf 45 = .ok (.aload_n 0, 1)) ∧ (decode cX10_valueOf 46 = .ok (.iload_n 1, 1)) ∧ (decode cX10_valueOf 47 = .ok (.iload_n 2, 1)) ∧ (decode cX10_valueOf 48 = .ok (.ldc 103, 2)) ∧ (decode cX10_valueOf 50 = .ok (.invokevirtual 77, 3)) ∧ (decode cX10_valueOf 53 = .ok (.ifCond .eq 7, 3)) := by decide +kernel
theorem dX10_valueOf_35 : decode cX10_valueOf 35 = .ok (.invokevirtual 77, 3) := bdX10_valueOf_35.1
theorem dX10_valueOf_38 : decode cX10_valueOf 38 = .ok (.ifCond .eq 7, 3) := bdX10_valueOf_35.2.1
theorem dX10_valueOf_41 : decode cX10_valueOf 41 = .ok (.sipush 142, 3) := bdX10_valueOf_35.2.2.1
theorem dX10_valueOf_44 : decode cX10_valueOf 44 = .ok (.ireturn, 1) := bdX10_valueOf_35.2.2.2.1
theorem dX10_valueOf_45 : decode cX10_valueOf 45 = .ok (.aload_n 0, 1) := bdX10_valueOf_35.2.2.2.2.1
theorem dX10_valueOf_46 : decode cX10_valueOf 46 = .ok (.iload_n 1, 1) := bdX10_valueOf_35.2.2.2.2.2.1
theorem dX10_valueOf_47 : decode cX10_valueOf 47 = .ok (.iload_n 2, 1) := bdX10_valueOf_35.2.2.2.2.2.2.1
theorem dX10_valueOf_48 : decode cX10_valueOf 48 = .ok (.ldc 103, 2) := bdX10_valueOf_35.2.2.2.2.2.2.2.1
theorem dX10_valueOf_50 : decode cX10_valueOf 50 = .ok (.invokevirtual 77, 3) := bdX10_valueOf_35.2.2.2.2.2.2.2.2.1
theorem dX10_valueOf_53 : decode cX10_valueOf 53 = .ok (.ifCond .eq 7, 3) := bdX10_valueOf_35.2.2.2.2.2.2.2.2.2
theorem bdX10_valueOf_56 : (decode cX10_valueOf 56 = .ok (.sipush 143, 3)) ∧ (decode cX10_valueOf 59 = .ok (.ireturn, 1)) ∧ (decode cX10_valueOf 60 = .ok (.aload_n 0, 1)) ∧ (decode cX10_valueOf 61 = .ok (.iload_n 1, 1)) ∧ (decode cX10_valueOf 62 = .ok (.iload_n 2, 1)) ∧ (decode cX10_valueOf 63 = .ok (.ldc 105, 2)) ∧ (decode cX10_valueOf 65 = .ok (.invokevirtual 77, 3)) ∧ (decode cX10_valueOf 68 = .ok (.ifCond .eq 7, 3)) ∧ (decode cX10_valueOf 71 = .ok (.sipush 144, 3)) ∧ (decode cX10_valueOf 74 = .ok (.ireturn, 1)) := by decide +kernel
theorem dX10_valueOf_56 : decode cX10_valueOf 56 = .ok (.sipush 143, 3) := bdX10_valueOf_56.1
theorem dX10_valueOf_59 : decode cX10_valueOf 59 = .ok (.ireturn, 1) := bdX10_valueOf_56.2.1
theorem dX10_valueOf_60 : decode cX10_valueOf 60 = .ok (.aload_n 0, 1) := bdX10_valueOf_56.2.2.1
theorem dX10_valueOf_61 : decode cX10_valueOf 61 = .ok (.iload_n 1, 1) := bdX10_valueOf_56.2.2.2.1
theorem dX10_valueOf_62 : decode cX10_valueOf 62 = .ok (.iload_n 2, 1) := bdX10_valueOf_56.2.2.2.2.1
theorem dX10_valueOf_63 : decode cX10_valueOf 63 = .ok (.ldc 105, 2) := bdX10_valueOf_56.2.2.2.2.2.1
theorem dX10_valueOf_65 : decode cX10_valueOf 65 = .ok (.invokevirtual 77, 3) := bdX10_valueOf_56.2.2.2.2.2.2.1
theorem dX10_valueOf_68 : decode cX10_valueOf 68 = .ok (.ifCond .eq 7, 3) := bdX10_valueOf_56.2.2.2.2.2.2.2.1
theorem dX10_valueOf_71 : decode cX10_valueOf 71 = .ok (.sipush 144, 3) := bdX10_valueOf_56.2.2.2.2.2.2.2.2.1
theorem dX10_valueOf_74 : decode cX10_valueOf 74 = .ok (.ireturn, 1) := bdX10_valueOf_56.2.2.2.2.2.2.2.2.2
theorem bdX10_valueOf_75 : (decode cX10_valueOf 75 = .ok (.aload_n 0, 1)) ∧ (decode cX10_valueOf 76 = .ok (.iload_n 1, 1)) ∧ (decode cX10_valueOf 77 = .ok (.iload_n 2, 1)) ∧ (decode cX10_valueOf 78 = .ok (.ldc 107, 2)) ∧ (decode cX10_valueOf 80 = .ok (.invokevirtual 77, 3)) ∧ (decode cX10_valueOf 83 = .ok (.ifCond .eq 7, 3)) ∧ (decode cX10_valueOf 86 = .ok (.sipush 145, 3)) ∧ (decode cX10_valueOf 89 = .ok (.ireturn, 1)) ∧ (decode cX10_valueOf 90 = .ok (.aload_n 0, 1)) ∧ (decode cX10_valueOf 91 = .ok (.iload_n 1, 1)) := by decide +kernel
theorem dX10_valueOf_75 : decode cX10_valueOf 75 = .ok (.aload_n 0, 1) := bdX10_valueOf_75.1
theorem dX10_valueOf_76 : decode cX10_valueOf 76 = .ok (.iload_n 1, 1) := bdX10_valueOf_75.2.1
theorem dX10_valueOf_77 : decode cX10_valueOf 77 = .ok (.iload_n 2, 1) := bdX10_valueOf_75.2.2.1
theorem dX10_valueOf_78 : decode cX10_valueOf 78 = .ok (.ldc 107, 2) := bdX10_valueOf_75.2.2.2.1
theorem dX10_valueOf_80 : decode cX10_valueOf 80 = .ok (.invokevirtual 77, 3) := bdX10_valueOf_75.2.2.2.2.1
theorem dX10_valueOf_83 : decode cX10_valueOf 83 = .ok (.ifCond .eq 7, 3) := bdX10_valueOf_75.2.2.2.2.2.1
theorem dX10_valueOf_86 : decode cX10_valueOf 86 = .ok (.sipush 145, 3) := bdX10_valueOf_75.2.2.2.2.2.2.1
theorem dX10_valueOf_89 : decode cX10_valueOf 89 = .ok (.ireturn, 1) := bdX10_valueOf_75.2.2.2.2.2.2.2.1
theorem dX10_valueOf_90 : decode cX10_valueOf 90 = .ok (.aload_n 0, 1) := bdX10_valueOf_75.2.2.2.2.2.2.2.2.1
theorem dX10_valueOf_91 : decode cX10_valueOf 91 = .ok (.iload_n 1, 1) := bdX10_valueOf_75.2.2.2.2.2.2.2.2.2
theorem bdX10_valueOf_92 : (decode cX10_valueOf 92 = .ok (.iload_n 2, 1)) ∧ (decode cX10_valueOf 93 = .ok (.ldc 109, 2)) ∧ (decode cX10_valueOf 95 = .ok (.invokevirtual 77, 3)) ∧ (decode cX10_valueOf 98 = .ok (.ifCond .eq 7, 3)) ∧ (decode cX10_valueOf 101 = .ok (.sipush 146, 3)) ∧ (decode cX10_valueOf 104 = .ok (.ireturn, 1)) ∧ (decode cX10_valueOf 105 = .ok (.sipush 137, 3)) ∧ (decode cX10_valueOf 108 = .ok (.ireturn, 1)) := by decide +kernel
theorem dX10_valueOf_92 : decode cX10_valueOf 92 = .ok (.iload_n 2, 1) := bdX10_valueOf_92.1
theorem dX10_valueOf_93 : decode cX10_valueOf 93 = .ok (.ldc 109, 2) := bdX10_valueOf_92.2.1
theorem dX10_valueOf_95 : decode cX10_valueOf 95 = .ok (.invokevirtual 77, 3) := bdX10_valueOf_92.2.2.1
theorem dX10_valueOf_98 : decode cX10_valueOf 98 = .ok (.ifCond .eq 7, 3) := bdX10_valueOf_92.2.2.2.1
theorem dX10_valueOf_101 : decode cX10_valueOf 101 = .ok (.sipush 146, 3) := bdX10_valueOf_92.2.2.2.2.1
theorem dX10_valueOf_104 : decode cX10_valueOf 104 = .ok (.ireturn, 1) := bdX10_valueOf_92.2.2.2.2.2.1
theorem dX10_valueOf_105 : decode cX10_valueOf 105 = .ok (.sipush 137, 3) := bdX10_valueOf_92.2.2.2.2.2.2.1
theorem dX10_valueOf_108 : decode cX10_valueOf 108 = .ok (.ireturn, 1) := bdX10_valueOf_92.2.2.2.2.2.2.2
theorem bdX10_spells_0 : (decode cX10_spells 0 = .ok (.iload_n 1, 1)) ∧ (decode cX10_spells 1 = .ok (.ifCond .lt 22, 3)) ∧ (decode cX10_spells 4 = .ok (.iload_n 2, 1)) ∧ (decode cX10_spells 5 = .ok (.aload_n 0, 1)) ∧ (decode cX10_spells 6 = .ok (.getfield 29, 3)) ∧ (decode cX10_spells 9 = .ok (.arraylength, 1)) ∧ (decode cX10_spells 10 = .ok (.if_icmp .gt 13, 3)) ∧ (decode cX10_spells 13 = .ok (.iload_n 2, 1)) ∧ (decode cX10_spells 14 = .ok (.iload_n 1, 1)) ∧ (decode cX10_spells 15 = .ok (.isub, 1)) := by decide +kernel
theorem dX10_spells_0 : decode cX10_spells 0 = .ok (.iload_n 1, 1) := bdX10_spells_0.1
theorem dX10_spells_1 : decode cX10_spells 1 = .ok (.ifCond .lt 22, 3) := bdX10_spells_0.2.1
theorem dX10_spells_4 : decode cX10_spells 4 = .ok (.iload_n 2, 1) := bdX10_spells_0.2.2.1
theorem dX10_spells_5 : decode cX10_spells 5 = .ok (.aload_n 0, 1) := bdX10_spells_0.2.2.2.1
theorem dX10_spells_6 : decode cX10_spells 6 = .ok (.getfield 29, 3) := bdX10_spells_0.2.2.2.2.1
theorem dX10_spells_9 : decode cX10_spells 9 = .ok (.arraylength, 1) := bdX10_spells_0.2.2.2.2.2.1
theorem dX10_spells_10 : decode cX10_spells 10 = .ok (.if_icmp .gt 13, 3) := bdX10_spells_0.2.2.2.2.2.2.1
theorem dX10_spells_13 : decode cX10_spells 13 = .ok (.iload_n 2, 1) := bdX10_spells_0.2.2.2.2.2.2.2.1
theorem dX10_spells_14 : decode cX10_spells 14 = .ok (.iload_n 1, 1) := bdX10_spells_0.2.2.2.2.2.2.2.2.1
theorem dX10_spells_15 : decode cX10_spells 15 = .ok (.isub, 1) := bdX10_spells_0.2.2.2.2.2.2.2.2.2
theorem bdX10_spells_16 : (decode cX10_spells 16 = .ok (.aload_n 3, 1)) ∧ (decode cX10_spells 17 = .ok (.invokevirtual 111, 3)) ∧ (decode cX10_spells 20 = .ok (.if_icmp .eq 5, 3)) ∧ (decode cX10_spells 23 = .ok (.iconst 0, 1)) ∧ (decode cX10_spells 24 = .ok (.ireturn, 1)) ∧ (decode cX10_spells 25 = .ok (.iconst 0, 1)) ∧ (decode cX10_spells 26 = .ok (.istore 4, 2)) ∧ (decode cX10_spells 28 = .ok (.iload 4, 2)) ∧ (decode cX10_spells 30 = .ok (.aload_n 3, 1)) ∧ (decode cX10_spells 31 = .ok (.invokevirtual 111, 3)) := by decide +kernel
theorem dX10_spells_16 : decode cX10_spells 16 = .ok (.aload_n 3, 1) := bdX10_spells_16.1
theorem dX10_spells_17 : decode cX10_spells 17 = .ok (.invokevirtual 111, 3) := bdX10_spells_16.2.1
theorem dX10_spells_20 : decode cX10_spells 20 = .ok (.if_icmp .eq 5, 3) := bdX10_spells_16.2.2.1
theorem dX10_spells_23 : decode cX10_spells 23 = .ok (.iconst 0, 1) := bdX10_spells_16.2.2.2.1
theorem dX10_spells_24 : decode cX10_spells 24 = .ok (.ireturn, 1) := bdX10_spells_16.2.2.2.2.1
theorem dX10_spells_25 : decode cX10_spells 25 = .ok (.iconst 0, 1) := bdX10_spells_16.2.2.2.2.2.1
theorem dX10_spells_26 : decode cX10_spells 26 = .ok (.istore 4, 2) := bdX10_spells_16.2.2.2.2.2.2.1
theorem dX10_spells_28 : decode cX10_spells 28 = .ok (.iload 4, 2) := bdX10_spells_16.2.2.2.2.2.2.2.1
theorem dX10_spells_30 : decode cX10_spells 30 = .ok (.aload_n 3, 1) := bdX10_spells_16.2.2.2.2.2.2.2.2.1
theorem dX10_spells_31 : decode cX10_spells 31 = .ok (.invokevirtual 111, 3) := bdX10_spells_16.2.2.2.2.2.2.2.2.2
theorem bdX10_spells_34 : (decode cX10_spells 34 = .ok (.if_icmp .ge 29, 3)) ∧ (decode cX10_spells 37 = .ok (.aload_n 0, 1)) ∧ (decode cX10_spells 38 = .ok (.getfield 29, 3)) ∧ (decode cX10_spells 41 = .ok (.iload_n 1, 1)) ∧ (decode cX10_spells 42 = .ok (.iload 4, 2)) ∧ (decode cX10_spells 44 = .ok (.iadd, 1)) ∧ (decode cX10_spells 45 = .ok (.baload, 1)) ∧ (decode cX10_spells 46 = .ok (.aload_n 3, 1)) ∧ (decode cX10_spells 47 = .ok (.iload 4, 2)) ∧ (decode cX10_spells 49 = .ok (.invokevirtual 116, 3)) := by decide +kernel
theorem dX10_spells_34 : decode cX10_spells 34 = .ok (.if_icmp .ge 29, 3) := bdX10_spells_34.1
theorem dX10_spells_37 : decode cX10_spells 37 = .ok (.aload_n 0, 1) := bdX10_spells_34.2.1
theorem dX10_spells_38 : decode cX10_spells 38 = .ok (.getfield 29, 3) := bdX10_spells_34.2.2.1
theorem dX10_spells_41 : decode cX10_spells 41 = .ok (.iload_n 1, 1) := bdX10_spells_34.2.2.2.1
theorem dX10_spells_42 : decode cX10_spells 42 = .ok (.iload 4, 2) := bdX10_spells_34.2.2.2.2.1
theorem dX10_spells_44 : decode cX10_spells 44 = .ok (.iadd, 1) := bdX10_spells_34.2.2.2.2.2.1
theorem dX10_spells_45 : decode cX10_spells 45 = .ok (.baload, 1) := bdX10_spells_34.2.2.2.2.2.2.1
theorem dX10_spells_46 : decode cX10_spells 46 = .ok (.aload_n 3, 1) := bdX10_spells_34.2.2.2.2.2.2.2.1
theorem dX10_spells_47 : decode cX10_spells 47 = .ok (.iload 4, 2) := bdX10_spells_34.2.2.2.2.2.2.2.2.1
theorem dX10_spells_49 : decode cX10_spells 49 = .ok (.invokevirtual 116, 3) := bdX10_spells_34.2.2.2.2.2.2.2.2.2
theorem bdX10_spells_52 : (decode cX10_spells 52 = .ok (.if_icmp .eq 5, 3)) ∧ (decode cX10_spells 55 = .ok (.iconst 0, 1)) ∧ (decode cX10_spells 56 = .ok (.ireturn, 1)) ∧ (decode cX10_spells 57 = .ok (.iinc 4 1, 3)) ∧ (decode cX10_spells 60 = .ok (.goto (-32), 3)) ∧ (decode cX10_spells 63 = .ok (.iconst 1, 1)) ∧ (decode cX10_spells 64 = .ok (.ireturn, 1)) := by decide +kernel
theorem dX10_spells_52 : decode cX10_spells 52 = .ok (.if_icmp .eq 5, 3) := bdX10_spells_52.1
theorem dX10_spells_55 : decode cX10_spells 55 = .ok (.iconst 0, 1) := bdX10_spells_52.2.1
theorem dX10_spells_56 : decode cX10_spells 56 = .ok (.ireturn, 1) := bdX10_spells_52.2.2.1
theorem dX10_spells_57 : decode cX10_spells 57 = .ok (.iinc 4 1, 3) := bdX10_spells_52.2.2.2.1
theorem dX10_spells_60 : decode cX10_spells 60 = .ok (.goto (-32), 3) := bdX10_spells_52.2.2.2.2.1
theorem dX10_spells_63 : decode cX10_spells 63 = .ok (.iconst 1, 1) := bdX10_spells_52.2.2.2.2.2.1
theorem dX10_spells_64 : decode cX10_spells 64 = .ok (.ireturn, 1) := bdX10_spells_52.2.2.2.2.2.2
theorem bdX11_init_0 : (decode cX11_init 0 = .ok (.aload_n 0, 1)) ∧ (decode cX11_init 1 = .ok (.invokespecial 1, 3)) ∧ (decode cX11_init 4 = .ok (.aload_n 0, 1)) ∧ (decode cX11_init 5 = .ok (.new 7, 3)) ∧ (decode cX11_init 8 = .ok (.dup, 1)) ∧ (decode cX11_init 9 = .ok (.invokespecial 9, 3)) ∧ (decode cX11_init 12 = .ok (.putfield 10, 3)) ∧ (decode cX11_init 15 = .ok (.aload_n 0, 1)) ∧ (decode cX11_init 16 = .ok (.new 16, 3)) ∧ (decode cX11_init 19 = .ok (.dup, 1)) := by decide +kernel
theorem dX11_init_0 : decode cX11_init 0 = .ok (.aload_n 0, 1) := bdX11_init_0.1
theorem dX11_init_1 : decode cX11_init 1 = .ok (.invokespecial 1, 3) := bdX11_init_0.2.1
theorem dX11_init_4 : decode cX11_init 4 = .ok (.aload_n 0, 1) := bdX11_init_0.2.2.1
theorem dX11_init_5 : decode cX11_init 5 = .ok (.new 7, 3) := bdX11_init_0.2.2.2.1
theorem dX11_init_8 : decode cX11_init 8 = .ok (.dup, 1) := bdX11_init_0.2.2.2.2.1
theorem dX11_init_9 : decode cX11_init 9 = .ok (.invokespecial 9, 3) := bdX11_init_0.2.2.2.2.2.1
theorem dX11_init_12 : decode cX11_init 12 = .ok (.putfield 10, 3) := bdX11_init_0.2.2.2.2.2.2.1
theorem dX11_init_15 : decode cX11_init 15 = .ok (.aload_n 0, 1) := bdX11_init_0.2.2.2.2.2.2.2.1
theorem dX11_init_16 : decode cX11_init 16 = .ok (.new 16, 3) := bdX11_init_0.2.2.2.2.2.2.2.2.1
theorem dX11_init_19 : decode cX11_init 19 = .ok (.dup, 1) := bdX11_init_0.2.2.2.2.2.2.2.2.2
theorem bdX11_init_20 : (decode cX11_init 20 = .ok (.invokespecial 18, 3)) ∧ (decode cX11_init 23 = .ok (.putfield 19, 3)) ∧ (decode cX11_init 26 = .ok (.aload_n 0, 1)) ∧ (decode cX11_init 27 = .ok (.new 23, 3)) ∧ (decode cX11_init 30 = .ok (.dup, 1)) ∧ (decode cX11_init 31 = .ok (.aload_n 0, 1)) ∧ (decode cX11_init 32 = .ok (.getfield 10, 3)) ∧ (decode cX11_init 35 = .ok (.aload_n 0, 1)) ∧ (decode cX11_init 36 = .ok (.getfield 19, 3)) ∧ (decode cX11_init 39 = .ok (.invokespecial 25, 3)) := by decide +kernel
theorem dX11_init_20 : decode cX11_init 20 = .ok (.invokespecial 18, 3) := bdX11_init_20.1
theorem dX11_init_23 : decode cX11_init 23 = .ok (.putfield 19, 3) := bdX11_init_20.2.1
theorem dX11_init_26 : decode cX11_init 26 = .ok (.aload_n 0, 1) := bdX11_init_20.2.2.1
theorem dX11_init_27 : decode cX11_init 27 = .ok (.new 23, 3) := bdX11_init_20.2.2.2.1
theorem dX11_init_30 : decode cX11_init 30 = .ok (.dup, 1) := bdX11_init_20.2.2.2.2.1
theorem dX11_init_31 : decode cX11_init 31 = .ok (.aload_n 0, 1) := bdX11_init_20.2.2.2.2.2.1
theorem dX11_init_32 : decode cX11_init 32 = .ok (.getfield 10, 3) := bdX11_init_20.2.2.2.2.2.2.1
theorem dX11_init_35 : decode cX11_init 35 = .ok (.aload_n 0, 1) := bdX11_init_20.2.2.2.2.2.2.2.1
theorem dX11_init_36 : decode cX11_init 36 = .ok (.getfield 19, 3) := bdX11_init_20.2.2.2.2.2.2.2.2.1
theorem dX11_init_39 : decode cX11_init 39 = .ok (.invokespecial 25, 3) := bdX11_init_20.2.2.2.2.2.2.2.2.2
theorem bdX11_init_42 : (decode cX11_init 42 = .ok (.putfield 28, 3)) ∧ (decode cX11_init 45 = .ok (.aload_n 0, 1)) ∧ (decode cX11_init 46 = .ok (.new 32, 3)) ∧ (decode cX11_init 49 = .ok (.dup, 1)) ∧ (decode cX11_init 50 = .ok (.invokespecial 34, 3)) ∧ (decode cX11_init 53 = .ok (.putfield 35, 3)) ∧ (decode cX11_init 56 = .ok (.aload_n 0, 1)) ∧ (decode cX11_init 57 = .ok (.new 39, 3)) ∧ (decode cX11_init 60 = .ok (.dup, 1)) ∧ (decode cX11_init 61 = .ok (.invokespecial 41, 3)) := by decide +kernel
theorem dX11_init_42 : decode cX11_init 42 = .ok (.putfield 28, 3) := bdX11_init_42.1
theorem dX11_init_45 : decode cX11_init 45 = .ok (.aload_n 0, 1) := bdX11_init_42.2.1
theorem dX11_init_46 : decode cX11_init 46 = .ok (.new 32, 3) := bdX11_init_42.2.2.1
theorem dX11_init_49 : decode cX11_init 49 = .ok (.dup, 1) := bdX11_init_42.2.2.2.1
theorem dX11_init_50 : decode cX11_init 50 = .ok (.invokespecial 34, 3) := bdX11_init_42.2.2.2.2.1
theorem dX11_init_53 : decode cX11_init 53 = .ok (.putfield 35, 3) := bdX11_init_42.2.2.2.2.2.1
theorem dX11_init_56 : decode cX11_init 56 = .ok (.aload_n 0, 1) := bdX11_init_42.2.2.2.2.2.2.1
theorem dX11_init_57 : decode cX11_init 57 = .ok (.new 39, 3) := bdX11_init_42.2.2.2.2.2.2.2.1
theorem dX11_init_60 : decode cX11_init 60 = .ok (.dup, 1) := bdX11_init_42.2.2.2.2.2.2.2.2.1
theorem dX11_init_61 : decode cX11_init 61 = .ok (.invokespecial 41, 3) := bdX11_init_42.2.2.2.2.2.2.2.2.2
theorem bdX11_init_64 : (decode cX11_init 64 = .ok (.putfield 42, 3)) ∧ (decode cX11_init 67 = .ok (.aload_n 0, 1)) ∧ (decode cX11_init 68 = .ok (.new 39, 3)) ∧ (decode cX11_init 71 = .ok (.dup, 1)) ∧ (decode cX11_init 72 = .ok (.invokespecial 41, 3)) ∧ (decode cX11_init 75 = .ok (.putfield 46, 3)) ∧ (decode cX11_init 78 = .ok (.aload_n 0, 1)) ∧ (decode cX11_init 79 = .ok (.new 49, 3)) ∧ (decode cX11_init 82 = .ok (.dup, 1)) ∧ (decode cX11_init 83 = .ok (.invokespecial 51, 3)) := by decide +kernel
theorem dX11_init_64 : decode cX11_init 64 = .ok (.putfield 42, 3) := bdX11_init_64.1
theorem dX11_init_67 : decode cX11_init 67 = .ok (.aload_n 0, 1) := bdX11_init_64.2.1
theorem dX11_init_68 : decode cX11_init 68 = .ok (.new 39, 3) := bdX11_init_64.2.2.1
theorem dX11_init_71 : decode cX11_init 71 = .ok (.dup, 1) := bdX11_init_64.2.2.2.1
theorem dX11_init_72 : decode cX11_init 72 = .ok (.invokespecial 41, 3) := bdX11_init_64.2.2.2.2.1
theorem dX11_init_75 : decode cX11_init 75 = .ok (.putfield 46, 3) := bdX11_init_64.2.2.2.2.2.1
theorem dX11_init_78 : decode cX11_init 78 = .ok (.aload_n 0, 1) := bdX11_init_64.2.2.2.2.2.2.1
theorem dX11_init_79 : decode cX11_init 79 = .ok (.new 49, 3) := bdX11_init_64.2.2.2.2.2.2.2.1
theorem dX11_init_82 : decode cX11_init 82 = .ok (.dup, 1) := bdX11_init_64.2.2.2.2.2.2.2.2.1
theorem dX11_init_83 : decode cX11_init 83 = .ok (.invokespecial 51, 3) := bdX11_init_64.2.2.2.2.2.2.2.2.2
theorem bdX11_init_86 : (decode cX11_init 86 = .ok (.putfield 52, 3)) ∧ (decode cX11_init 89 = .ok (.aload_n 0, 1)) ∧ (decode cX11_init 90 = .ok (.new 56, 3)) ∧ (decode cX11_init 93 = .ok (.dup, 1)) ∧ (decode cX11_init 94 = .ok (.invokespecial 58, 3)) ∧ (decode cX11_init 97 = .ok (.putfield 59, 3)) ∧ (decode cX11_init 100 = .ok (.aload_n 0, 1)) ∧ (decode cX11_init 101 = .ok (.bipush 8, 2)) ∧ (decode cX11_init 103 = .ok (.newarray .int, 2)) ∧ (decode cX11_init 105 = .ok (.putfield 63, 3)) := by decide +kernel
theorem dX11_init_86 : decode cX11_init 86 = .ok (.putfield 52, 3) := bdX11_init_86.1
theorem dX11_init_89 : decode cX11_init 89 = .ok (.aload_n 0, 1) := bdX11_init_86.2.1
theorem dX11_init_90 : decode cX11_init 90 = .ok (.new 56, 3) := bdX11_init_86.2.2.1
theorem dX11_init_93 : decode cX11_init 93 = .ok (.dup, 1) := bdX11_init_86.2.2.2.1
theorem dX11_init_94 : decode cX11_init 94 = .ok (.invokespecial 58, 3) := bdX11_init_86.2.2.2.2.1
theorem dX11_init_97 : decode cX11_init 97 = .ok (.putfield 59, 3) := bdX11_init_86.2.2.2.2.2.1
theorem dX11_init_100 : decode cX11_init 100 = .ok (.aload_n 0, 1) := bdX11_init_86.2.2.2.2.2.2.1
theorem dX11_init_101 : decode cX11_init 101 = .ok (.bipush 8, 2) := bdX11_init_86.2.2.2.2.2.2.2.1
theorem dX11_init_103 : decode cX11_init 103 = .ok (.newarray .int, 2) := bdX11_init_86.2.2.2.2.2.2.2.2.1
theorem dX11_init_105 : decode cX11_init 105 = .ok (.putfield 63, 3) := bdX11_init_86.2.2.2.2.2.2.2.2.2
theorem bdX11_init_108 : (decode cX11_init 108 = .ok (.aload_n 0, 1)) ∧ (decode cX11_init 109 = .ok (.iconst 0, 1)) ∧ (decode cX11_init 110 = .ok (.putfield 67, 3)) ∧ (decode cX11_init 113 = .ok (.return_, 1)) := by decide +kernel
theorem dX11_init_108 : decode cX11_init 108 = .ok (.aload_n 0, 1) := bdX11_init_108.1
theorem dX11_init_109 : decode cX11_init 109 = .ok (.iconst 0, 1) := bdX11_init_108.2.1
theorem dX11_init_110 : decode cX11_init 110 = .ok (.putfield 67, 3) := bdX11_init_108.2.2.1
theorem dX11_init_113 : decode cX11_init 113 = .ok (.return_, 1) := bdX11_init_108.2.2.2
theorem bdX11_feed_0 : (decode cX11_feed 0 = .ok (.aload_n 0, 1)) ∧ (decode cX11_feed 1 = .ok (.getfield 10, 3)) ∧ (decode cX11_feed 4 = .ok (.getfield 71, 3)) ∧ (decode cX11_feed 7 = .ok (.bipush 20, 2)) ∧ (decode cX11_feed 9 = .ok (.iadd, 1)) ∧ (decode cX11_feed 10 = .ok (.sipush 700, 3)) ∧ (decode cX11_feed 13 = .ok (.if_icmp .le 5, 3)) ∧ (decode cX11_feed 16 = .ok (.iconst (-1), 1)) ∧ (decode cX11_feed 17 = .ok (.ireturn, 1)) ∧ (decode cX11_feed 18 = .ok (.aload_n 0, 1)) := by decide +kernel
theorem dX11_feed_0 : decode cX11_feed 0 = .ok (.aload_n 0, 1) := bdX11_feed_0.1
theorem dX11_feed_1 : decode cX11_feed 1 = .ok (.getfield 10, 3) := bdX11_feed_0.2.1
theorem dX11_feed_4 : decode cX11_feed 4 = .ok (.getfield 71, 3) := bdX11_feed_0.2.2.1
theorem dX11_feed_7 : decode cX11_feed 7 = .ok (.bipush 20, 2) := bdX11_feed_0.2.2.2.1
theorem dX11_feed_9 : decode cX11_feed 9 = .ok (.iadd, 1) := bdX11_feed_0.2.2.2.2.1
theorem dX11_feed_10 : decode cX11_feed 10 = .ok (.sipush 700, 3) := bdX11_feed_0.2.2.2.2.2.1
theorem dX11_feed_13 : decode cX11_feed 13 = .ok (.if_icmp .le 5, 3) := bdX11_feed_0.2.2.2.2.2.2.1
theorem dX11_feed_16 : decode cX11_feed 16 = .ok (.iconst (-1), 1) := bdX11_feed_0.2.2.2.2.2.2.2.1
theorem dX11_feed_17 : decode cX11_feed 17 = .ok (.ireturn, 1) := bdX11_feed_0.2.2.2.2.2.2.2.2.1
theorem dX11_feed_18 : decode cX11_feed 18 = .ok (.aload_n 0, 1) := bdX11_feed_0.2.2.2.2.2.2.2.2.2
theorem bdX11_feed_19 : (decode cX11_feed 19 = .ok (.getfield 10, 3)) ∧ (decode cX11_feed 22 = .ok (.iload_n 1, 1)) ∧ (decode cX11_feed 23 = .ok (.invokevirtual 75, 3)) ∧ (decode cX11_feed 26 = .ok (.aload_n 0, 1)) ∧ (decode cX11_feed 27 = .ok (.getfield 10, 3)) ∧ (decode cX11_feed 30 = .ok (.iload_n 2, 1)) ∧ (decode cX11_feed 31 = .ok (.invokevirtual 75, 3)) ∧ (decode cX11_feed 34 = .ok (.aload_n 0, 1)) ∧ (decode cX11_feed 35 = .ok (.getfield 10, 3)) ∧ (decode cX11_feed 38 = .ok (.iload_n 3, 1)) := by decide +kernel
theorem dX11_feed_19 : decode cX11_feed 19 = .ok (.getfield 10, 3) := bdX11_feed_19.1
theorem dX11_feed_22 : decode cX11_feed 22 = .ok (.iload_n 1, 1) := bdX11_feed_19.2.1
theorem dX11_feed_23 : decode cX11_feed 23 = .ok (.invokevirtual 75, 3) := bdX11_feed_19.2.2.1
theorem dX11_feed_26 : decode cX11_feed 26 = .ok (.aload_n 0, 1) := bdX11_feed_19.2.2.2.1
theorem dX11_feed_27 : decode cX11_feed 27 = .ok (.getfield 10, 3) := bdX11_feed_19.2.2.2.2.1
theorem dX11_feed_30 : decode cX11_feed 30 = .ok (.iload_n 2, 1) := bdX11_feed_19.2.2.2.2.2.1
theorem dX11_feed_31 : decode cX11_feed 31 = .ok (.invokevirtual 75, 3) := bdX11_feed_19.2.2.2.2.2.2.1
theorem dX11_feed_34 : decode cX11_feed 34 = .ok (.aload_n 0, 1) := bdX11_feed_19.2.2.2.2.2.2.2.1
theorem dX11_feed_35 : decode cX11_feed 35 = .ok (.getfield 10, 3) := bdX11_feed_19.2.2.2.2.2.2.2.2.1
theorem dX11_feed_38 : decode cX11_feed 38 = .ok (.iload_n 3, 1) := bdX11_feed_19.2.2.2.2.2.2.2.2.2
theorem bdX11_feed_39 : (decode cX11_feed 39 = .ok (.invokevirtual 75, 3)) ∧ (decode cX11_feed 42 = .ok (.aload_n 0, 1)) ∧ (decode cX11_feed 43 = .ok (.getfield 10, 3)) ∧ (decode cX11_feed 46 = .ok (.iload 4, 2)) ∧ (decode cX11_feed 48 = .ok (.invokevirtual 75, 3)) ∧ (decode cX11_feed 51 = .ok (.aload_n 0, 1)) ∧ (decode cX11_feed 52 = .ok (.getfield 10, 3)) ∧ (decode cX11_feed 55 = .ok (.iload 5, 2)) ∧ (decode cX11_feed 57 = .ok (.invokevirtual 75, 3)) ∧ (decode cX11_feed 60 = .ok (.aload_n 0, 1)) := by decide +kernel
theorem dX11_feed_39 : decode cX11_feed 39 = .ok (.invokevirtual 75, 3) := bdX11_feed_39.1
theorem dX11_feed_42 : decode cX11_feed 42 = .ok (.aload_n 0, 1) := bdX11_feed_39.2.1
theorem dX11_feed_43 : decode cX11_feed 43 = .ok (.getfield 10, 3) := bdX11_feed_39.2.2.1
theorem dX11_feed_46 : decode cX11_feed 46 = .ok (.iload 4, 2) := bdX11_feed_39.2.2.2.1
theorem dX11_feed_48 : decode cX11_feed 48 = .ok (.invokevirtual 75, 3) := bdX11_feed_39.2.2.2.2.1
theorem dX11_feed_51 : decode cX11_feed 51 = .ok (.aload_n 0, 1) := bdX11_feed_39.2.2.2.2.2.1
theorem dX11_feed_52 : decode cX11_feed 52 = .ok (.getfield 10, 3) := bdX11_feed_39.2.2.2.2.2.2.1
theorem dX11_feed_55 : decode cX11_feed 55 = .ok (.iload 5, 2) := bdX11_feed_39.2.2.2.2.2.2.2.1
theorem dX11_feed_57 : decode cX11_feed 57 = .ok (.invokevirtual 75, 3) := bdX11_feed_39.2.2.2.2.2.2.2.2.1
theorem dX11_feed_60 : decode cX11_feed 60 = .ok (.aload_n 0, 1) := bdX11_feed_39.2.2.2.2.2.2.2.2.2
theorem bdX11_feed_61 : (decode cX11_feed 61 = .ok (.getfield 10, 3)) ∧ (decode cX11_feed 64 = .ok (.getfield 71, 3)) ∧ (decode cX11_feed 67 = .ok (.ireturn, 1)) := by decide +kernel
theorem dX11_feed_61 : decode cX11_feed 61 = .ok (.getfield 10, 3) := bdX11_feed_61.1
theorem dX11_feed_64 : decode cX11_feed 64 = .ok (.getfield 71, 3) := bdX11_feed_61.2.1
theorem dX11_feed_67 : decode cX11_feed 67 = .ok (.ireturn, 1) := bdX11_feed_61.2.2
theorem bdX11_island_0 : (decode cX11_island 0 = .ok (.iload_n 1, 1)) ∧ (decode cX11_island 1 = .ok (.ifCond .lt 14, 3)) ∧ (decode cX11_island 4 = .ok (.iload_n 1, 1)) ∧ (decode cX11_island 5 = .ok (.aload_n 0, 1)) ∧ (decode cX11_island 6 = .ok (.getfield 10, 3)) ∧ (decode cX11_island 9 = .ok (.getfield 71, 3)) ∧ (decode cX11_island 12 = .ok (.if_icmp .le 11, 3)) ∧ (decode cX11_island 15 = .ok (.new 79, 3)) ∧ (decode cX11_island 18 = .ok (.dup, 1)) ∧ (decode cX11_island 19 = .ok (.invokespecial 81, 3)) := by decide +kernel
theorem dX11_island_0 : decode cX11_island 0 = .ok (.iload_n 1, 1) := bdX11_island_0.1
theorem dX11_island_1 : decode cX11_island 1 = .ok (.ifCond .lt 14, 3) := bdX11_island_0.2.1
theorem dX11_island_4 : decode cX11_island 4 = .ok (.iload_n 1, 1) := bdX11_island_0.2.2.1
theorem dX11_island_5 : decode cX11_island 5 = .ok (.aload_n 0, 1) := bdX11_island_0.2.2.2.1
theorem dX11_island_6 : decode cX11_island 6 = .ok (.getfield 10, 3) := bdX11_island_0.2.2.2.2.1
theorem dX11_island_9 : decode cX11_island 9 = .ok (.getfield 71, 3) := bdX11_island_0.2.2.2.2.2.1
theorem dX11_island_12 : decode cX11_island 12 = .ok (.if_icmp .le 11, 3) := bdX11_island_0.2.2.2.2.2.2.1
theorem dX11_island_15 : decode cX11_island 15 = .ok (.new 79, 3) := bdX11_island_0.2.2.2.2.2.2.2.1
theorem dX11_island_18 : decode cX11_island 18 = .ok (.dup, 1) := bdX11_island_0.2.2.2.2.2.2.2.2.1
theorem dX11_island_19 : decode cX11_island 19 = .ok (.invokespecial 81, 3) := bdX11_island_0.2.2.2.2.2.2.2.2.2
theorem bdX11_island_22 : (decode cX11_island 22 = .ok (.athrow, 1)) ∧ (decode cX11_island 23 = .ok (.aload_n 0, 1)) ∧ (decode cX11_island 24 = .ok (.getfield 28, 3)) ∧ (decode cX11_island 27 = .ok (.aload_n 0, 1)) ∧ (decode cX11_island 28 = .ok (.getfield 19, 3)) ∧ (decode cX11_island 31 = .ok (.iload_n 1, 1)) ∧ (decode cX11_island 32 = .ok (.invokevirtual 82, 3)) ∧ (decode cX11_island 35 = .ok (.istore_n 2, 1)) ∧ (decode cX11_island 36 = .ok (.aload_n 0, 1)) ∧ (decode cX11_island 37 = .ok (.getfield 10, 3)) := by decide +kernel
theorem dX11_island_22 : decode cX11_island 22 = .ok (.athrow, 1) := bdX11_island_22.1
theorem dX11_island_23 : decode cX11_island 23 = .ok (.aload_n 0, 1) := bdX11_island_22.2.1
theorem dX11_island_24 : decode cX11_island 24 = .ok (.getfield 28, 3) := bdX11_island_22.2.2.1
theorem dX11_island_27 : decode cX11_island 27 = .ok (.aload_n 0, 1) := bdX11_island_22.2.2.2.1
theorem dX11_island_28 : decode cX11_island 28 = .ok (.getfield 19, 3) := bdX11_island_22.2.2.2.2.1
theorem dX11_island_31 : decode cX11_island 31 = .ok (.iload_n 1, 1) := bdX11_island_22.2.2.2.2.2.1
theorem dX11_island_32 : decode cX11_island 32 = .ok (.invokevirtual 82, 3) := bdX11_island_22.2.2.2.2.2.2.1
theorem dX11_island_35 : decode cX11_island 35 = .ok (.istore_n 2, 1) := bdX11_island_22.2.2.2.2.2.2.2.1
theorem dX11_island_36 : decode cX11_island 36 = .ok (.aload_n 0, 1) := bdX11_island_22.2.2.2.2.2.2.2.2.1
theorem dX11_island_37 : decode cX11_island 37 = .ok (.getfield 10, 3) := bdX11_island_22.2.2.2.2.2.2.2.2.2
theorem bdX11_island_40 : (decode cX11_island 40 = .ok (.iconst 0, 1)) ∧ (decode cX11_island 41 = .ok (.putfield 71, 3)) ∧ (decode cX11_island 44 = .ok (.iload_n 2, 1)) ∧ (decode cX11_island 45 = .ok (.ifCond .eq 18, 3)) ∧ (decode cX11_island 48 = .ok (.aload_n 0, 1)) ∧ (decode cX11_island 49 = .ok (.getfield 42, 3)) ∧ (decode cX11_island 52 = .ok (.getfield 86, 3)) ∧ (decode cX11_island 55 = .ok (.iconst 0, 1)) ∧ (decode cX11_island 56 = .ok (.dup2, 1)) ∧ (decode cX11_island 57 = .ok (.iaload, 1)) := by decide +kernel
theorem dX11_island_40 : decode cX11_island 40 = .ok (.iconst 0, 1) := bdX11_island_40.1
theorem dX11_island_41 : decode cX11_island 41 = .ok (.putfield 71, 3) := bdX11_island_40.2.1
theorem dX11_island_44 : decode cX11_island 44 = .ok (.iload_n 2, 1) := bdX11_island_40.2.2.1
theorem dX11_island_45 : decode cX11_island 45 = .ok (.ifCond .eq 18, 3) := bdX11_island_40.2.2.2.1
theorem dX11_island_48 : decode cX11_island 48 = .ok (.aload_n 0, 1) := bdX11_island_40.2.2.2.2.1
theorem dX11_island_49 : decode cX11_island 49 = .ok (.getfield 42, 3) := bdX11_island_40.2.2.2.2.2.1
theorem dX11_island_52 : decode cX11_island 52 = .ok (.getfield 86, 3) := bdX11_island_40.2.2.2.2.2.2.1
theorem dX11_island_55 : decode cX11_island 55 = .ok (.iconst 0, 1) := bdX11_island_40.2.2.2.2.2.2.2.1
theorem dX11_island_56 : decode cX11_island 56 = .ok (.dup2, 1) := bdX11_island_40.2.2.2.2.2.2.2.2.1
theorem dX11_island_57 : decode cX11_island 57 = .ok (.iaload, 1) := bdX11_island_40.2.2.2.2.2.2.2.2.2
theorem bdX11_island_58 : (decode cX11_island 58 = .ok (.iconst 1, 1)) ∧ (decode cX11_island 59 = .ok (.iadd, 1)) ∧ (decode cX11_island 60 = .ok (.iastore, 1)) ∧ (decode cX11_island 61 = .ok (.iload_n 2, 1)) ∧ (decode cX11_island 62 = .ok (.ireturn, 1)) ∧ (decode cX11_island 63 = .ok (.aload_n 0, 1)) ∧ (decode cX11_island 64 = .ok (.getfield 35, 3)) ∧ (decode cX11_island 67 = .ok (.getfield 89, 3)) ∧ (decode cX11_island 70 = .ok (.astore_n 3, 1)) ∧ (decode cX11_island 71 = .ok (.aload_n 0, 1)) := by decide +kernel
theorem dX11_island_58 : decode cX11_island 58 = .ok (.iconst 1, 1) := bdX11_island_58.1
theorem dX11_island_59 : decode cX11_island 59 = .ok (.iadd, 1) := bdX11_island_58.2.1
theorem dX11_island_60 : decode cX11_island 60 = .ok (.iastore, 1) := bdX11_island_58.2.2.1
theorem dX11_island_61 : decode cX11_island 61 = .ok (.iload_n 2, 1) := bdX11_island_58.2.2.2.1
theorem dX11_island_62 : decode cX11_island 62 = .ok (.ireturn, 1) := bdX11_island_58.2.2.2.2.1
theorem dX11_island_63 : decode cX11_island 63 = .ok (.aload_n 0, 1) := bdX11_island_58.2.2.2.2.2.1
theorem dX11_island_64 : decode cX11_island 64 = .ok (.getfield 35, 3) := bdX11_island_58.2.2.2.2.2.2.1
theorem dX11_island_67 : decode cX11_island 67 = .ok (.getfield 89, 3) := bdX11_island_58.2.2.2.2.2.2.2.1
theorem dX11_island_70 : decode cX11_island 70 = .ok (.astore_n 3, 1) := bdX11_island_58.2.2.2.2.2.2.2.2.1
theorem dX11_island_71 : decode cX11_island 71 = .ok (.aload_n 0, 1) := bdX11_island_58.2.2.2.2.2.2.2.2.2
theorem bdX11_island_72 : (decode cX11_island 72 = .ok (.getfield 35, 3)) ∧ (decode cX11_island 75 = .ok (.aload_n 0, 1)) ∧ (decode cX11_island 76 = .ok (.getfield 19, 3)) ∧ (decode cX11_island 79 = .ok (.putfield 89, 3)) ∧ (decode cX11_island 82 = .ok (.aload_n 0, 1)) ∧ (decode cX11_island 83 = .ok (.aload_n 3, 1)) ∧ (decode cX11_island 84 = .ok (.putfield 19, 3)) ∧ (decode cX11_island 87 = .ok (.aload_n 0, 1)) ∧ (decode cX11_island 88 = .ok (.getfield 42, 3)) ∧ (decode cX11_island 91 = .ok (.aload_n 0, 1)) := by decide +kernel
theorem dX11_island_72 : decode cX11_island 72 = .ok (.getfield 35, 3) := bdX11_island_72.1
theorem dX11_island_75 : decode cX11_island 75 = .ok (.aload_n 0, 1) := bdX11_island_72.2.1
theorem dX11_island_76 : decode cX11_island 76 = .ok (.getfield 19, 3) := bdX11_island_72.2.2.1
theorem dX11_island_79 : decode cX11_island 79 = .ok (.putfield 89, 3) := bdX11_island_72.2.2.2.1
theorem dX11_island_82 : decode cX11_island 82 = .ok (.aload_n 0, 1) := bdX11_island_72.2.2.2.2.1
theorem dX11_island_83 : decode cX11_island 83 = .ok (.aload_n 3, 1) := bdX11_island_72.2.2.2.2.2.1
theorem dX11_island_84 : decode cX11_island 84 = .ok (.putfield 19, 3) := bdX11_island_72.2.2.2.2.2.2.1
theorem dX11_island_87 : decode cX11_island 87 = .ok (.aload_n 0, 1) := bdX11_island_72.2.2.2.2.2.2.2.1
theorem dX11_island_88 : decode cX11_island 88 = .ok (.getfield 42, 3) := bdX11_island_72.2.2.2.2.2.2.2.2.1
theorem dX11_island_91 : decode cX11_island 91 = .ok (.aload_n 0, 1) := bdX11_island_72.2.2.2.2.2.2.2.2.2
theorem bdX11_island_92 : (decode cX11_island 92 = .ok (.getfield 35, 3)) ∧ (decode cX11_island 95 = .ok (.getfield 89, 3)) ∧ (decode cX11_island 98 = .ok (.invokevirtual 92, 3)) ∧ (decode cX11_island 101 = .ok (.aload_n 0, 1)) ∧ (decode cX11_island 102 = .ok (.getfield 35, 3)) ∧ (decode cX11_island 105 = .ok (.aload_n 0, 1)) ∧ (decode cX11_island 106 = .ok (.getfield 42, 3)) ∧ (decode cX11_island 109 = .ok (.getfield 96, 3)) ∧ (decode cX11_island 112 = .ok (.iconst (-1), 1)) ∧ (decode cX11_island 113 = .ok (.invokevirtual 99, 3)) := by decide +kernel
theorem dX11_island_92 : decode cX11_island 92 = .ok (.getfield 35, 3) := bdX11_island_92.1
theorem dX11_island_95 : decode cX11_island 95 = .ok (.getfield 89, 3) := bdX11_island_92.2.1
theorem dX11_island_98 : decode cX11_island 98 = .ok (.invokevirtual 92, 3) := bdX11_island_92.2.2.1
theorem dX11_island_101 : decode cX11_island 101 = .ok (.aload_n 0, 1) := bdX11_island_92.2.2.2.1
theorem dX11_island_102 : decode cX11_island 102 = .ok (.getfield 35, 3) := bdX11_island_92.2.2.2.2.1
theorem dX11_island_105 : decode cX11_island 105 = .ok (.aload_n 0, 1) := bdX11_island_92.2.2.2.2.2.1
theorem dX11_island_106 : decode cX11_island 106 = .ok (.getfield 42, 3) := bdX11_island_92.2.2.2.2.2.2.1
theorem dX11_island_109 : decode cX11_island 109 = .ok (.getfield 96, 3) := bdX11_island_92.2.2.2.2.2.2.2.1
theorem dX11_island_112 : decode cX11_island 112 = .ok (.iconst (-1), 1) := bdX11_island_92.2.2.2.2.2.2.2.2.1
theorem dX11_island_113 : decode cX11_island 113 = .ok (.invokevirtual 99, 3) := bdX11_island_92.2.2.2.2.2.2.2.2.2
theorem bdX11_island_116 : (decode cX11_island 116 = .ok (.aload_n 0, 1)) ∧ (decode cX11_island 117 = .ok (.iconst 0, 1)) ∧ (decode cX11_island 118 = .ok (.putfield 67, 3)) ∧ (decode cX11_island 121 = .ok (.iconst 0, 1)) ∧ (decode cX11_island 122 = .ok (.ireturn, 1)) := by decide +kernel
theorem dX11_island_116 : decode cX11_island 116 = .ok (.aload_n 0, 1) := bdX11_island_116.1
theorem dX11_island_117 : decode cX11_island 117 = .ok (.iconst 0, 1) := bdX11_island_116.2.1
theorem dX11_island_118 : decode cX11_island 118 = .ok (.putfield 67, 3) := bdX11_island_116.2.2.1
theorem dX11_island_121 : decode cX11_island 121 = .ok (.iconst 0, 1) := bdX11_island_116.2.2.2.1
theorem dX11_island_122 : decode cX11_island 122 = .ok (.ireturn, 1) := bdX11_island_116.2.2.2.2
theorem bdX11_fault_0 : (decode cX11_fault 0 = .ok (.aload_n 0, 1)) ∧ (decode cX11_fault 1 = .ok (.getfield 28, 3)) ∧ (decode cX11_fault 4 = .ok (.getfield 103, 3)) ∧ (decode cX11_fault 7 = .ok (.ireturn, 1)) := by decide +kernel
theorem dX11_fault_0 : decode cX11_fault 0 = .ok (.aload_n 0, 1) := bdX11_fault_0.1
theorem dX11_fault_1 : decode cX11_fault 1 = .ok (.getfield 28, 3) := bdX11_fault_0.2.1
theorem dX11_fault_4 : decode cX11_fault 4 = .ok (.getfield 103, 3) := bdX11_fault_0.2.2.1
theorem dX11_fault_7 : decode cX11_fault 7 = .ok (.ireturn, 1) := bdX11_fault_0.2.2.2
theorem bdX11_count_0 : (decode cX11_count 0 = .ok (.aload_n 0, 1)) ∧ (decode cX11_count 1 = .ok (.getfield 42, 3)) ∧ (decode cX11_count 4 = .ok (.getfield 96, 3)) ∧ (decode cX11_count 7 = .ok (.astore_n 2, 1)) ∧ (decode cX11_count 8 = .ok (.iload_n 1, 1)) ∧ (decode cX11_count 9 = .ok (.tableswitch 217 0 15 #[79, 90, 101, 106, 117, 122, 137, 142, 147, 152, 157, 168, 179, 187, 197, 207], 79)) ∧ (decode cX11_count 88 = .ok (.aload_n 0, 1)) ∧ (decode cX11_count 89 = .ok (.getfield 35, 3)) ∧ (decode cX11_count 92 = .ok (.getfield 89, 3)) ∧ (decode cX11_count 95 = .ok (.getfield 106, 3)) := by decide +kernel
theorem dX11_count_0 : decode cX11_count 0 = .ok (.aload_n 0, 1) := bdX11_count_0.1
theorem dX11_count_1 : decode cX11_count 1 = .ok (.getfield 42, 3) := bdX11_count_0.2.1
theorem dX11_count_4 : decode cX11_count 4 = .ok (.getfield 96, 3) := bdX11_count_0.2.2.1
theorem dX11_count_7 : decode cX11_count 7 = .ok (.astore_n 2, 1) := bdX11_count_0.2.2.2.1
theorem dX11_count_8 : decode cX11_count 8 = .ok (.iload_n 1, 1) := bdX11_count_0.2.2.2.2.1
theorem dX11_count_9 : decode cX11_count 9 = .ok (.tableswitch 217 0 15 #[79, 90, 101, 106, 117, 122, 137, 142, 147, 152, 157, 168, 179, 187, 197, 207], 79) := bdX11_count_0.2.2.2.2.2.1
theorem dX11_count_88 : decode cX11_count 88 = .ok (.aload_n 0, 1) := bdX11_count_0.2.2.2.2.2.2.1
theorem dX11_count_89 : decode cX11_count 89 = .ok (.getfield 35, 3) := bdX11_count_0.2.2.2.2.2.2.2.1
theorem dX11_count_92 : decode cX11_count 92 = .ok (.getfield 89, 3) := bdX11_count_0.2.2.2.2.2.2.2.2.1
theorem dX11_count_95 : decode cX11_count 95 = .ok (.getfield 106, 3) := bdX11_count_0.2.2.2.2.2.2.2.2.2
theorem bdX11_count_98 : (decode cX11_count 98 = .ok (.ireturn, 1)) ∧ (decode cX11_count 99 = .ok (.aload_n 0, 1)) ∧ (decode cX11_count 100 = .ok (.getfield 35, 3)) ∧ (decode cX11_count 103 = .ok (.getfield 89, 3)) ∧ (decode cX11_count 106 = .ok (.getfield 109, 3)) ∧ (decode cX11_count 109 = .ok (.ireturn, 1)) ∧ (decode cX11_count 110 = .ok (.aload_n 0, 1)) ∧ (decode cX11_count 111 = .ok (.invokevirtual 112, 3)) ∧ (decode cX11_count 114 = .ok (.ireturn, 1)) ∧ (decode cX11_count 115 = .ok (.aload_n 0, 1)) := by decide +kernel
theorem dX11_count_98 : decode cX11_count 98 = .ok (.ireturn, 1) := bdX11_count_98.1
theorem dX11_count_99 : decode cX11_count 99 = .ok (.aload_n 0, 1) := bdX11_count_98.2.1
theorem dX11_count_100 : decode cX11_count 100 = .ok (.getfield 35, 3) := bdX11_count_98.2.2.1
theorem dX11_count_103 : decode cX11_count 103 = .ok (.getfield 89, 3) := bdX11_count_98.2.2.2.1
theorem dX11_count_106 : decode cX11_count 106 = .ok (.getfield 109, 3) := bdX11_count_98.2.2.2.2.1
theorem dX11_count_109 : decode cX11_count 109 = .ok (.ireturn, 1) := bdX11_count_98.2.2.2.2.2.1
theorem dX11_count_110 : decode cX11_count 110 = .ok (.aload_n 0, 1) := bdX11_count_98.2.2.2.2.2.2.1
theorem dX11_count_111 : decode cX11_count 111 = .ok (.invokevirtual 112, 3) := bdX11_count_98.2.2.2.2.2.2.2.1
theorem dX11_count_114 : decode cX11_count 114 = .ok (.ireturn, 1) := bdX11_count_98.2.2.2.2.2.2.2.2.1
theorem dX11_count_115 : decode cX11_count 115 = .ok (.aload_n 0, 1) := bdX11_count_98.2.2.2.2.2.2.2.2.2
theorem bdX11_count_116 : (decode cX11_count 116 = .ok (.getfield 35, 3)) ∧ (decode cX11_count 119 = .ok (.getfield 89, 3)) ∧ (decode cX11_count 122 = .ok (.getfield 116, 3)) ∧ (decode cX11_count 125 = .ok (.ireturn, 1)) ∧ (decode cX11_count 126 = .ok (.aload_n 2, 1)) ∧ (decode cX11_count 127 = .ok (.getfield 119, 3)) ∧ (decode cX11_count 130 = .ok (.ireturn, 1)) ∧ (decode cX11_count 131 = .ok (.aload_n 0, 1)) ∧ (decode cX11_count 132 = .ok (.getfield 35, 3)) ∧ (decode cX11_count 135 = .ok (.getfield 89, 3)) := by decide +kernel
theorem dX11_count_116 : decode cX11_count 116 = .ok (.getfield 35, 3) := bdX11_count_116.1
theorem dX11_count_119 : decode cX11_count 119 = .ok (.getfield 89, 3) := bdX11_count_116.2.1
theorem dX11_count_122 : decode cX11_count 122 = .ok (.getfield 116, 3) := bdX11_count_116.2.2.1
theorem dX11_count_125 : decode cX11_count 125 = .ok (.ireturn, 1) := bdX11_count_116.2.2.2.1
theorem dX11_count_126 : decode cX11_count 126 = .ok (.aload_n 2, 1) := bdX11_count_116.2.2.2.2.1
theorem dX11_count_127 : decode cX11_count 127 = .ok (.getfield 119, 3) := bdX11_count_116.2.2.2.2.2.1
theorem dX11_count_130 : decode cX11_count 130 = .ok (.ireturn, 1) := bdX11_count_116.2.2.2.2.2.2.1
theorem dX11_count_131 : decode cX11_count 131 = .ok (.aload_n 0, 1) := bdX11_count_116.2.2.2.2.2.2.2.1
theorem dX11_count_132 : decode cX11_count 132 = .ok (.getfield 35, 3) := bdX11_count_116.2.2.2.2.2.2.2.2.1
theorem dX11_count_135 : decode cX11_count 135 = .ok (.getfield 89, 3) := bdX11_count_116.2.2.2.2.2.2.2.2.2
theorem bdX11_count_138 : (decode cX11_count 138 = .ok (.aload_n 2, 1)) ∧ (decode cX11_count 139 = .ok (.getfield 119, 3)) ∧ (decode cX11_count 142 = .ok (.invokevirtual 122, 3)) ∧ (decode cX11_count 145 = .ok (.ireturn, 1)) ∧ (decode cX11_count 146 = .ok (.aload_n 2, 1)) ∧ (decode cX11_count 147 = .ok (.getfield 126, 3)) ∧ (decode cX11_count 150 = .ok (.ireturn, 1)) ∧ (decode cX11_count 151 = .ok (.aload_n 2, 1)) ∧ (decode cX11_count 152 = .ok (.getfield 129, 3)) ∧ (decode cX11_count 155 = .ok (.ireturn, 1)) := by decide +kernel
theorem dX11_count_138 : decode cX11_count 138 = .ok (.aload_n 2, 1) := bdX11_count_138.1
theorem dX11_count_139 : decode cX11_count 139 = .ok (.getfield 119, 3) := bdX11_count_138.2.1
theorem dX11_count_142 : decode cX11_count 142 = .ok (.invokevirtual 122, 3) := bdX11_count_138.2.2.1
theorem dX11_count_145 : decode cX11_count 145 = .ok (.ireturn, 1) := bdX11_count_138.2.2.2.1
theorem dX11_count_146 : decode cX11_count 146 = .ok (.aload_n 2, 1) := bdX11_count_138.2.2.2.2.1
theorem dX11_count_147 : decode cX11_count 147 = .ok (.getfield 126, 3) := bdX11_count_138.2.2.2.2.2.1
theorem dX11_count_150 : decode cX11_count 150 = .ok (.ireturn, 1) := bdX11_count_138.2.2.2.2.2.2.1
theorem dX11_count_151 : decode cX11_count 151 = .ok (.aload_n 2, 1) := bdX11_count_138.2.2.2.2.2.2.2.1
theorem dX11_count_152 : decode cX11_count 152 = .ok (.getfield 129, 3) := bdX11_count_138.2.2.2.2.2.2.2.2.1
theorem dX11_count_155 : decode cX11_count 155 = .ok (.ireturn, 1) := bdX11_count_138.2.2.2.2.2.2.2.2.2
theorem bdX11_count_156 : (decode cX11_count 156 = .ok (.aload_n 2, 1)) ∧ (decode cX11_count 157 = .ok (.getfield 132, 3)) ∧ (decode cX11_count 160 = .ok (.ireturn, 1)) ∧ (decode cX11_count 161 = .ok (.aload_n 2, 1)) ∧ (decode cX11_count 162 = .ok (.getfield 135, 3)) ∧ (decode cX11_count 165 = .ok (.ireturn, 1)) ∧ (decode cX11_count 166 = .ok (.aload_n 0, 1)) ∧ (decode cX11_count 167 = .ok (.getfield 42, 3)) ∧ (decode cX11_count 170 = .ok (.getfield 138, 3)) ∧ (decode cX11_count 173 = .ok (.getfield 142, 3)) := by decide +kernel
theorem dX11_count_156 : decode cX11_count 156 = .ok (.aload_n 2, 1) := bdX11_count_156.1
theorem dX11_count_157 : decode cX11_count 157 = .ok (.getfield 132, 3) := bdX11_count_156.2.1
theorem dX11_count_160 : decode cX11_count 160 = .ok (.ireturn, 1) := bdX11_count_156.2.2.1
theorem dX11_count_161 : decode cX11_count 161 = .ok (.aload_n 2, 1) := bdX11_count_156.2.2.2.1
theorem dX11_count_162 : decode cX11_count 162 = .ok (.getfield 135, 3) := bdX11_count_156.2.2.2.2.1
theorem dX11_count_165 : decode cX11_count 165 = .ok (.ireturn, 1) := bdX11_count_156.2.2.2.2.2.1
theorem dX11_count_166 : decode cX11_count 166 = .ok (.aload_n 0, 1) := bdX11_count_156.2.2.2.2.2.2.1
theorem dX11_count_167 : decode cX11_count 167 = .ok (.getfield 42, 3) := bdX11_count_156.2.2.2.2.2.2.2.1
theorem dX11_count_170 : decode cX11_count 170 = .ok (.getfield 138, 3) := bdX11_count_156.2.2.2.2.2.2.2.2.1
theorem dX11_count_173 : decode cX11_count 173 = .ok (.getfield 142, 3) := bdX11_count_156.2.2.2.2.2.2.2.2.2
theorem bdX11_count_176 : (decode cX11_count 176 = .ok (.ireturn, 1)) ∧ (decode cX11_count 177 = .ok (.aload_n 0, 1)) ∧ (decode cX11_count 178 = .ok (.getfield 42, 3)) ∧ (decode cX11_count 181 = .ok (.getfield 147, 3)) ∧ (decode cX11_count 184 = .ok (.getfield 151, 3)) ∧ (decode cX11_count 187 = .ok (.ireturn, 1)) ∧ (decode cX11_count 188 = .ok (.aload_n 0, 1)) ∧ (decode cX11_count 189 = .ok (.getfield 10, 3)) ∧ (decode cX11_count 192 = .ok (.getfield 71, 3)) ∧ (decode cX11_count 195 = .ok (.ireturn, 1)) := by decide +kernel
theorem dX11_count_176 : decode cX11_count 176 = .ok (.ireturn, 1) := bdX11_count_176.1
theorem dX11_count_177 : decode cX11_count 177 = .ok (.aload_n 0, 1) := bdX11_count_176.2.1
theorem dX11_count_178 : decode cX11_count 178 = .ok (.getfield 42, 3) := bdX11_count_176.2.2.1
theorem dX11_count_181 : decode cX11_count 181 = .ok (.getfield 147, 3) := bdX11_count_176.2.2.2.1
theorem dX11_count_184 : decode cX11_count 184 = .ok (.getfield 151, 3) := bdX11_count_176.2.2.2.2.1
theorem dX11_count_187 : decode cX11_count 187 = .ok (.ireturn, 1) := bdX11_count_176.2.2.2.2.2.1
theorem dX11_count_188 : decode cX11_count 188 = .ok (.aload_n 0, 1) := bdX11_count_176.2.2.2.2.2.2.1
theorem dX11_count_189 : decode cX11_count 189 = .ok (.getfield 10, 3) := bdX11_count_176.2.2.2.2.2.2.2.1
theorem dX11_count_192 : decode cX11_count 192 = .ok (.getfield 71, 3) := bdX11_count_176.2.2.2.2.2.2.2.2.1
theorem dX11_count_195 : decode cX11_count 195 = .ok (.ireturn, 1) := bdX11_count_176.2.2.2.2.2.2.2.2.2
theorem bdX11_count_196 : (decode cX11_count 196 = .ok (.aload_n 0, 1)) ∧ (decode cX11_count 197 = .ok (.getfield 42, 3)) ∧ (decode cX11_count 200 = .ok (.getfield 86, 3)) ∧ (decode cX11_count 203 = .ok (.iconst 0, 1)) ∧ (decode cX11_count 204 = .ok (.iaload, 1)) ∧ (decode cX11_count 205 = .ok (.ireturn, 1)) ∧ (decode cX11_count 206 = .ok (.aload_n 0, 1)) ∧ (decode cX11_count 207 = .ok (.getfield 42, 3)) ∧ (decode cX11_count 210 = .ok (.getfield 86, 3)) ∧ (decode cX11_count 213 = .ok (.iconst 1, 1)) := by decide +kernel
theorem dX11_count_196 : decode cX11_count 196 = .ok (.aload_n 0, 1) := bdX11_count_196.1
theorem dX11_count_197 : decode cX11_count 197 = .ok (.getfield 42, 3) := bdX11_count_196.2.1
theorem dX11_count_200 : decode cX11_count 200 = .ok (.getfield 86, 3) := bdX11_count_196.2.2.1
theorem dX11_count_203 : decode cX11_count 203 = .ok (.iconst 0, 1) := bdX11_count_196.2.2.2.1
theorem dX11_count_204 : decode cX11_count 204 = .ok (.iaload, 1) := bdX11_count_196.2.2.2.2.1
theorem dX11_count_205 : decode cX11_count 205 = .ok (.ireturn, 1) := bdX11_count_196.2.2.2.2.2.1
theorem dX11_count_206 : decode cX11_count 206 = .ok (.aload_n 0, 1) := bdX11_count_196.2.2.2.2.2.2.1
theorem dX11_count_207 : decode cX11_count 207 = .ok (.getfield 42, 3) := bdX11_count_196.2.2.2.2.2.2.2.1
theorem dX11_count_210 : decode cX11_count 210 = .ok (.getfield 86, 3) := bdX11_count_196.2.2.2.2.2.2.2.2.1
theorem dX11_count_213 : decode cX11_count 213 = .ok (.iconst 1, 1) := bdX11_count_196.2.2.2.2.2.2.2.2.2
theorem bdX11_count_214 : (decode cX11_count 214 = .ok (.iaload, 1)) ∧ (decode cX11_count 215 = .ok (.ireturn, 1)) ∧ (decode cX11_count 216 = .ok (.aload_n 0, 1)) ∧ (decode cX11_count 217 = .ok (.getfield 42, 3)) ∧ (decode cX11_count 220 = .ok (.getfield 86, 3)) ∧ (decode cX11_count 223 = .ok (.iconst 2, 1)) ∧ (decode cX11_count 224 = .ok (.iaload, 1)) ∧ (decode cX11_count 225 = .ok (.ireturn, 1)) ∧ (decode cX11_count 226 = .ok (.new 154, 3)) ∧ (decode cX11_count 229 = .ok (.dup, 1)) := by decide +kernel
theorem dX11_count_214 : decode cX11_count 214 = .ok (.iaload, 1) := bdX11_count_214.1
theorem dX11_count_215 : decode cX11_count 215 = .ok (.ireturn, 1) := bdX11_count_214.2.1
theorem dX11_count_216 : decode cX11_count 216 = .ok (.aload_n 0, 1) := bdX11_count_214.2.2.1
theorem dX11_count_217 : decode cX11_count 217 = .ok (.getfield 42, 3) := bdX11_count_214.2.2.2.1
theorem dX11_count_220 : decode cX11_count 220 = .ok (.getfield 86, 3) := bdX11_count_214.2.2.2.2.1
theorem dX11_count_223 : decode cX11_count 223 = .ok (.iconst 2, 1) := bdX11_count_214.2.2.2.2.2.1
theorem dX11_count_224 : decode cX11_count 224 = .ok (.iaload, 1) := bdX11_count_214.2.2.2.2.2.2.1
theorem dX11_count_225 : decode cX11_count 225 = .ok (.ireturn, 1) := bdX11_count_214.2.2.2.2.2.2.2.1
theorem dX11_count_226 : decode cX11_count 226 = .ok (.new 154, 3) := bdX11_count_214.2.2.2.2.2.2.2.2.1
theorem dX11_count_229 : decode cX11_count 229 = .ok (.dup, 1) := bdX11_count_214.2.2.2.2.2.2.2.2.2
theorem bdX11_count_230 : (decode cX11_count 230 = .ok (.invokespecial 156, 3)) ∧ (decode cX11_count 233 = .ok (.athrow, 1)) := by decide +kernel
theorem dX11_count_230 : decode cX11_count 230 = .ok (.invokespecial 156, 3) := bdX11_count_230.1
theorem dX11_count_233 : decode cX11_count 233 = .ok (.athrow, 1) := bdX11_count_230.2
theorem bdX11_house_0 : (decode cX11_house 0 = .ok (.aload_n 0, 1)) ∧ (decode cX11_house 1 = .ok (.iload_n 1, 1)) ∧ (decode cX11_house 2 = .ok (.invokevirtual 157, 3)) ∧ (decode cX11_house 5 = .ok (.aload_n 0, 1)) ∧ (decode cX11_house 6 = .ok (.getfield 42, 3)) ∧ (decode cX11_house 9 = .ok (.getfield 96, 3)) ∧ (decode cX11_house 12 = .ok (.astore_n 3, 1)) ∧ (decode cX11_house 13 = .ok (.iload_n 2, 1)) ∧ (decode cX11_house 14 = .ok (.tableswitch 122 0 7 #[46, 59, 72, 85, 91, 98, 105, 112], 46)) ∧ (decode cX11_house 60 = .ok (.aload_n 0, 1)) := by decide +kernel
theorem dX11_house_0 : decode cX11_house 0 = .ok (.aload_n 0, 1) := bdX11_house_0.1
theorem dX11_house_1 : decode cX11_house 1 = .ok (.iload_n 1, 1) := bdX11_house_0.2.1
theorem dX11_house_2 : decode cX11_house 2 = .ok (.invokevirtual 157, 3) := bdX11_house_0.2.2.1
theorem dX11_house_5 : decode cX11_house 5 = .ok (.aload_n 0, 1) := bdX11_house_0.2.2.2.1
theorem dX11_house_6 : decode cX11_house 6 = .ok (.getfield 42, 3) := bdX11_house_0.2.2.2.2.1
theorem dX11_house_9 : decode cX11_house 9 = .ok (.getfield 96, 3) := bdX11_house_0.2.2.2.2.2.1
theorem dX11_house_12 : decode cX11_house 12 = .ok (.astore_n 3, 1) := bdX11_house_0.2.2.2.2.2.2.1
theorem dX11_house_13 : decode cX11_house 13 = .ok (.iload_n 2, 1) := bdX11_house_0.2.2.2.2.2.2.2.1
theorem dX11_house_14 : decode cX11_house 14 = .ok (.tableswitch 122 0 7 #[46, 59, 72, 85, 91, 98, 105, 112], 46) := bdX11_house_0.2.2.2.2.2.2.2.2.1
theorem dX11_house_60 : decode cX11_house 60 = .ok (.aload_n 0, 1) := bdX11_house_0.2.2.2.2.2.2.2.2.2
theorem bdX11_house_61 : (decode cX11_house 61 = .ok (.getfield 35, 3)) ∧ (decode cX11_house 64 = .ok (.getfield 89, 3)) ∧ (decode cX11_house 67 = .ok (.getfield 160, 3)) ∧ (decode cX11_house 70 = .ok (.iload_n 1, 1)) ∧ (decode cX11_house 71 = .ok (.iaload, 1)) ∧ (decode cX11_house 72 = .ok (.ireturn, 1)) ∧ (decode cX11_house 73 = .ok (.aload_n 0, 1)) ∧ (decode cX11_house 74 = .ok (.getfield 35, 3)) ∧ (decode cX11_house 77 = .ok (.getfield 89, 3)) ∧ (decode cX11_house 80 = .ok (.getfield 163, 3)) := by decide +kernel
theorem dX11_house_61 : decode cX11_house 61 = .ok (.getfield 35, 3) := bdX11_house_61.1
theorem dX11_house_64 : decode cX11_house 64 = .ok (.getfield 89, 3) := bdX11_house_61.2.1
theorem dX11_house_67 : decode cX11_house 67 = .ok (.getfield 160, 3) := bdX11_house_61.2.2.1
theorem dX11_house_70 : decode cX11_house 70 = .ok (.iload_n 1, 1) := bdX11_house_61.2.2.2.1
theorem dX11_house_71 : decode cX11_house 71 = .ok (.iaload, 1) := bdX11_house_61.2.2.2.2.1
theorem dX11_house_72 : decode cX11_house 72 = .ok (.ireturn, 1) := bdX11_house_61.2.2.2.2.2.1
theorem dX11_house_73 : decode cX11_house 73 = .ok (.aload_n 0, 1) := bdX11_house_61.2.2.2.2.2.2.1
theorem dX11_house_74 : decode cX11_house 74 = .ok (.getfield 35, 3) := bdX11_house_61.2.2.2.2.2.2.2.1
theorem dX11_house_77 : decode cX11_house 77 = .ok (.getfield 89, 3) := bdX11_house_61.2.2.2.2.2.2.2.2.1
theorem dX11_house_80 : decode cX11_house 80 = .ok (.getfield 163, 3) := bdX11_house_61.2.2.2.2.2.2.2.2.2
theorem bdX11_house_83 : (decode cX11_house 83 = .ok (.iload_n 1, 1)) ∧ (decode cX11_house 84 = .ok (.iaload, 1)) ∧ (decode cX11_house 85 = .ok (.ireturn, 1)) ∧ (decode cX11_house 86 = .ok (.aload_n 0, 1)) ∧ (decode cX11_house 87 = .ok (.getfield 35, 3)) ∧ (decode cX11_house 90 = .ok (.getfield 89, 3)) ∧ (decode cX11_house 93 = .ok (.getfield 166, 3)) ∧ (decode cX11_house 96 = .ok (.iload_n 1, 1)) ∧ (decode cX11_house 97 = .ok (.iaload, 1)) ∧ (decode cX11_house 98 = .ok (.ireturn, 1)) := by decide +kernel
theorem dX11_house_83 : decode cX11_house 83 = .ok (.iload_n 1, 1) := bdX11_house_83.1
theorem dX11_house_84 : decode cX11_house 84 = .ok (.iaload, 1) := bdX11_house_83.2.1
theorem dX11_house_85 : decode cX11_house 85 = .ok (.ireturn, 1) := bdX11_house_83.2.2.1
theorem dX11_house_86 : decode cX11_house 86 = .ok (.aload_n 0, 1) := bdX11_house_83.2.2.2.1
theorem dX11_house_87 : decode cX11_house 87 = .ok (.getfield 35, 3) := bdX11_house_83.2.2.2.2.1
theorem dX11_house_90 : decode cX11_house 90 = .ok (.getfield 89, 3) := bdX11_house_83.2.2.2.2.2.1
theorem dX11_house_93 : decode cX11_house 93 = .ok (.getfield 166, 3) := bdX11_house_83.2.2.2.2.2.2.1
theorem dX11_house_96 : decode cX11_house 96 = .ok (.iload_n 1, 1) := bdX11_house_83.2.2.2.2.2.2.2.1
theorem dX11_house_97 : decode cX11_house 97 = .ok (.iaload, 1) := bdX11_house_83.2.2.2.2.2.2.2.2.1
theorem dX11_house_98 : decode cX11_house 98 = .ok (.ireturn, 1) := bdX11_house_83.2.2.2.2.2.2.2.2.2
theorem bdX11_house_99 : (decode cX11_house 99 = .ok (.aload_n 3, 1)) ∧ (decode cX11_house 100 = .ok (.iload_n 1, 1)) ∧ (decode cX11_house 101 = .ok (.invokevirtual 169, 3)) ∧ (decode cX11_house 104 = .ok (.ireturn, 1)) ∧ (decode cX11_house 105 = .ok (.aload_n 3, 1)) ∧ (decode cX11_house 106 = .ok (.getfield 172, 3)) ∧ (decode cX11_house 109 = .ok (.iload_n 1, 1)) ∧ (decode cX11_house 110 = .ok (.iaload, 1)) ∧ (decode cX11_house 111 = .ok (.ireturn, 1)) ∧ (decode cX11_house 112 = .ok (.aload_n 3, 1)) := by decide +kernel
theorem dX11_house_99 : decode cX11_house 99 = .ok (.aload_n 3, 1) := bdX11_house_99.1
theorem dX11_house_100 : decode cX11_house 100 = .ok (.iload_n 1, 1) := bdX11_house_99.2.1
theorem dX11_house_101 : decode cX11_house 101 = .ok (.invokevirtual 169, 3) := bdX11_house_99.2.2.1
theorem dX11_house_104 : decode cX11_house 104 = .ok (.ireturn, 1) := bdX11_house_99.2.2.2.1
theorem dX11_house_105 : decode cX11_house 105 = .ok (.aload_n 3, 1) := bdX11_house_99.2.2.2.2.1
theorem dX11_house_106 : decode cX11_house 106 = .ok (.getfield 172, 3) := bdX11_house_99.2.2.2.2.2.1
theorem dX11_house_109 : decode cX11_house 109 = .ok (.iload_n 1, 1) := bdX11_house_99.2.2.2.2.2.2.1
theorem dX11_house_110 : decode cX11_house 110 = .ok (.iaload, 1) := bdX11_house_99.2.2.2.2.2.2.2.1
theorem dX11_house_111 : decode cX11_house 111 = .ok (.ireturn, 1) := bdX11_house_99.2.2.2.2.2.2.2.2.1
theorem dX11_house_112 : decode cX11_house 112 = .ok (.aload_n 3, 1) := bdX11_house_99.2.2.2.2.2.2.2.2.2
theorem bdX11_house_113 : (decode cX11_house 113 = .ok (.getfield 175, 3)) ∧ (decode cX11_house 116 = .ok (.iload_n 1, 1)) ∧ (decode cX11_house 117 = .ok (.iaload, 1)) ∧ (decode cX11_house 118 = .ok (.ireturn, 1)) ∧ (decode cX11_house 119 = .ok (.aload_n 3, 1)) ∧ (decode cX11_house 120 = .ok (.getfield 178, 3)) ∧ (decode cX11_house 123 = .ok (.iload_n 1, 1)) ∧ (decode cX11_house 124 = .ok (.iaload, 1)) ∧ (decode cX11_house 125 = .ok (.ireturn, 1)) ∧ (decode cX11_house 126 = .ok (.aload_n 0, 1)) := by decide +kernel
theorem dX11_house_113 : decode cX11_house 113 = .ok (.getfield 175, 3) := bdX11_house_113.1
theorem dX11_house_116 : decode cX11_house 116 = .ok (.iload_n 1, 1) := bdX11_house_113.2.1
theorem dX11_house_117 : decode cX11_house 117 = .ok (.iaload, 1) := bdX11_house_113.2.2.1
theorem dX11_house_118 : decode cX11_house 118 = .ok (.ireturn, 1) := bdX11_house_113.2.2.2.1
theorem dX11_house_119 : decode cX11_house 119 = .ok (.aload_n 3, 1) := bdX11_house_113.2.2.2.2.1
theorem dX11_house_120 : decode cX11_house 120 = .ok (.getfield 178, 3) := bdX11_house_113.2.2.2.2.2.1
theorem dX11_house_123 : decode cX11_house 123 = .ok (.iload_n 1, 1) := bdX11_house_113.2.2.2.2.2.2.1
theorem dX11_house_124 : decode cX11_house 124 = .ok (.iaload, 1) := bdX11_house_113.2.2.2.2.2.2.2.1
theorem dX11_house_125 : decode cX11_house 125 = .ok (.ireturn, 1) := bdX11_house_113.2.2.2.2.2.2.2.2.1
theorem dX11_house_126 : decode cX11_house 126 = .ok (.aload_n 0, 1) := bdX11_house_113.2.2.2.2.2.2.2.2.2
theorem bdX11_house_127 : (decode cX11_house 127 = .ok (.getfield 35, 3)) ∧ (decode cX11_house 130 = .ok (.aload_n 3, 1)) ∧ (decode cX11_house 131 = .ok (.iload_n 1, 1)) ∧ (decode cX11_house 132 = .ok (.invokevirtual 180, 3)) ∧ (decode cX11_house 135 = .ok (.ireturn, 1)) ∧ (decode cX11_house 136 = .ok (.new 154, 3)) ∧ (decode cX11_house 139 = .ok (.dup, 1)) ∧ (decode cX11_house 140 = .ok (.invokespecial 156, 3)) ∧ (decode cX11_house 143 = .ok (.athrow, 1)) := by decide +kernel
theorem dX11_house_127 : decode cX11_house 127 = .ok (.getfield 35, 3) := bdX11_house_127.1
theorem dX11_house_130 : decode cX11_house 130 = .ok (.aload_n 3, 1) := bdX11_house_127.2.1
theorem dX11_house_131 : decode cX11_house 131 = .ok (.iload_n 1, 1) := bdX11_house_127.2.2.1
theorem dX11_house_132 : decode cX11_house 132 = .ok (.invokevirtual 180, 3) := bdX11_house_127.2.2.2.1
theorem dX11_house_135 : decode cX11_house 135 = .ok (.ireturn, 1) := bdX11_house_127.2.2.2.2.1
theorem dX11_house_136 : decode cX11_house 136 = .ok (.new 154, 3) := bdX11_house_127.2.2.2.2.2.1
theorem dX11_house_139 : decode cX11_house 139 = .ok (.dup, 1) := bdX11_house_127.2.2.2.2.2.2.1
theorem dX11_house_140 : decode cX11_house 140 = .ok (.invokespecial 156, 3) := bdX11_house_127.2.2.2.2.2.2.2.1
theorem dX11_house_143 : decode cX11_house 143 = .ok (.athrow, 1) := bdX11_house_127.2.2.2.2.2.2.2.2
theorem bdX11_plot_0 : (decode cX11_plot 0 = .ok (.aload_n 0, 1)) ∧ (decode cX11_plot 1 = .ok (.iload_n 1, 1)) ∧ (decode cX11_plot 2 = .ok (.invokevirtual 184, 3)) ∧ (decode cX11_plot 5 = .ok (.iload_n 2, 1)) ∧ (decode cX11_plot 6 = .ok (.tableswitch 105 0 4 #[34, 47, 60, 73, 89], 34)) ∧ (decode cX11_plot 40 = .ok (.aload_n 0, 1)) ∧ (decode cX11_plot 41 = .ok (.getfield 35, 3)) ∧ (decode cX11_plot 44 = .ok (.getfield 89, 3)) ∧ (decode cX11_plot 47 = .ok (.getfield 187, 3)) ∧ (decode cX11_plot 50 = .ok (.iload_n 1, 1)) := by decide +kernel
theorem dX11_plot_0 : decode cX11_plot 0 = .ok (.aload_n 0, 1) := bdX11_plot_0.1
theorem dX11_plot_1 : decode cX11_plot 1 = .ok (.iload_n 1, 1) := bdX11_plot_0.2.1
theorem dX11_plot_2 : decode cX11_plot 2 = .ok (.invokevirtual 184, 3) := bdX11_plot_0.2.2.1
theorem dX11_plot_5 : decode cX11_plot 5 = .ok (.iload_n 2, 1) := bdX11_plot_0.2.2.2.1
theorem dX11_plot_6 : decode cX11_plot 6 = .ok (.tableswitch 105 0 4 #[34, 47, 60, 73, 89], 34) := bdX11_plot_0.2.2.2.2.1
theorem dX11_plot_40 : decode cX11_plot 40 = .ok (.aload_n 0, 1) := bdX11_plot_0.2.2.2.2.2.1
theorem dX11_plot_41 : decode cX11_plot 41 = .ok (.getfield 35, 3) := bdX11_plot_0.2.2.2.2.2.2.1
theorem dX11_plot_44 : decode cX11_plot 44 = .ok (.getfield 89, 3) := bdX11_plot_0.2.2.2.2.2.2.2.1
theorem dX11_plot_47 : decode cX11_plot 47 = .ok (.getfield 187, 3) := bdX11_plot_0.2.2.2.2.2.2.2.2.1
theorem dX11_plot_50 : decode cX11_plot 50 = .ok (.iload_n 1, 1) := bdX11_plot_0.2.2.2.2.2.2.2.2.2
theorem bdX11_plot_51 : (decode cX11_plot 51 = .ok (.iaload, 1)) ∧ (decode cX11_plot 52 = .ok (.ireturn, 1)) ∧ (decode cX11_plot 53 = .ok (.aload_n 0, 1)) ∧ (decode cX11_plot 54 = .ok (.getfield 35, 3)) ∧ (decode cX11_plot 57 = .ok (.getfield 89, 3)) ∧ (decode cX11_plot 60 = .ok (.getfield 190, 3)) ∧ (decode cX11_plot 63 = .ok (.iload_n 1, 1)) ∧ (decode cX11_plot 64 = .ok (.iaload, 1)) ∧ (decode cX11_plot 65 = .ok (.ireturn, 1)) ∧ (decode cX11_plot 66 = .ok (.aload_n 0, 1)) := by decide +kernel
theorem dX11_plot_51 : decode cX11_plot 51 = .ok (.iaload, 1) := bdX11_plot_51.1
theorem dX11_plot_52 : decode cX11_plot 52 = .ok (.ireturn, 1) := bdX11_plot_51.2.1
theorem dX11_plot_53 : decode cX11_plot 53 = .ok (.aload_n 0, 1) := bdX11_plot_51.2.2.1
theorem dX11_plot_54 : decode cX11_plot 54 = .ok (.getfield 35, 3) := bdX11_plot_51.2.2.2.1
theorem dX11_plot_57 : decode cX11_plot 57 = .ok (.getfield 89, 3) := bdX11_plot_51.2.2.2.2.1
theorem dX11_plot_60 : decode cX11_plot 60 = .ok (.getfield 190, 3) := bdX11_plot_51.2.2.2.2.2.1
theorem dX11_plot_63 : decode cX11_plot 63 = .ok (.iload_n 1, 1) := bdX11_plot_51.2.2.2.2.2.2.1
theorem dX11_plot_64 : decode cX11_plot 64 = .ok (.iaload, 1) := bdX11_plot_51.2.2.2.2.2.2.2.1
theorem dX11_plot_65 : decode cX11_plot 65 = .ok (.ireturn, 1) := bdX11_plot_51.2.2.2.2.2.2.2.2.1
theorem dX11_plot_66 : decode cX11_plot 66 = .ok (.aload_n 0, 1) := bdX11_plot_51.2.2.2.2.2.2.2.2.2
theorem bdX11_plot_67 : (decode cX11_plot 67 = .ok (.getfield 35, 3)) ∧ (decode cX11_plot 70 = .ok (.getfield 89, 3)) ∧ (decode cX11_plot 73 = .ok (.getfield 193, 3)) ∧ (decode cX11_plot 76 = .ok (.iload_n 1, 1)) ∧ (decode cX11_plot 77 = .ok (.iaload, 1)) ∧ (decode cX11_plot 78 = .ok (.ireturn, 1)) ∧ (decode cX11_plot 79 = .ok (.aload_n 0, 1)) ∧ (decode cX11_plot 80 = .ok (.getfield 35, 3)) ∧ (decode cX11_plot 83 = .ok (.aload_n 0, 1)) ∧ (decode cX11_plot 84 = .ok (.getfield 42, 3)) := by decide +kernel
theorem dX11_plot_67 : decode cX11_plot 67 = .ok (.getfield 35, 3) := bdX11_plot_67.1
theorem dX11_plot_70 : decode cX11_plot 70 = .ok (.getfield 89, 3) := bdX11_plot_67.2.1
theorem dX11_plot_73 : decode cX11_plot 73 = .ok (.getfield 193, 3) := bdX11_plot_67.2.2.1
theorem dX11_plot_76 : decode cX11_plot 76 = .ok (.iload_n 1, 1) := bdX11_plot_67.2.2.2.1
theorem dX11_plot_77 : decode cX11_plot 77 = .ok (.iaload, 1) := bdX11_plot_67.2.2.2.2.1
theorem dX11_plot_78 : decode cX11_plot 78 = .ok (.ireturn, 1) := bdX11_plot_67.2.2.2.2.2.1
theorem dX11_plot_79 : decode cX11_plot 79 = .ok (.aload_n 0, 1) := bdX11_plot_67.2.2.2.2.2.2.1
theorem dX11_plot_80 : decode cX11_plot 80 = .ok (.getfield 35, 3) := bdX11_plot_67.2.2.2.2.2.2.2.1
theorem dX11_plot_83 : decode cX11_plot 83 = .ok (.aload_n 0, 1) := bdX11_plot_67.2.2.2.2.2.2.2.2.1
theorem dX11_plot_84 : decode cX11_plot 84 = .ok (.getfield 42, 3) := bdX11_plot_67.2.2.2.2.2.2.2.2.2
theorem bdX11_plot_87 : (decode cX11_plot 87 = .ok (.getfield 96, 3)) ∧ (decode cX11_plot 90 = .ok (.iload_n 1, 1)) ∧ (decode cX11_plot 91 = .ok (.invokevirtual 196, 3)) ∧ (decode cX11_plot 94 = .ok (.ireturn, 1)) ∧ (decode cX11_plot 95 = .ok (.aload_n 0, 1)) ∧ (decode cX11_plot 96 = .ok (.getfield 35, 3)) ∧ (decode cX11_plot 99 = .ok (.aload_n 0, 1)) ∧ (decode cX11_plot 100 = .ok (.getfield 42, 3)) ∧ (decode cX11_plot 103 = .ok (.getfield 96, 3)) ∧ (decode cX11_plot 106 = .ok (.iload_n 1, 1)) := by decide +kernel
theorem dX11_plot_87 : decode cX11_plot 87 = .ok (.getfield 96, 3) := bdX11_plot_87.1
theorem dX11_plot_90 : decode cX11_plot 90 = .ok (.iload_n 1, 1) := bdX11_plot_87.2.1
theorem dX11_plot_91 : decode cX11_plot 91 = .ok (.invokevirtual 196, 3) := bdX11_plot_87.2.2.1
theorem dX11_plot_94 : decode cX11_plot 94 = .ok (.ireturn, 1) := bdX11_plot_87.2.2.2.1
theorem dX11_plot_95 : decode cX11_plot 95 = .ok (.aload_n 0, 1) := bdX11_plot_87.2.2.2.2.1
theorem dX11_plot_96 : decode cX11_plot 96 = .ok (.getfield 35, 3) := bdX11_plot_87.2.2.2.2.2.1
theorem dX11_plot_99 : decode cX11_plot 99 = .ok (.aload_n 0, 1) := bdX11_plot_87.2.2.2.2.2.2.1
theorem dX11_plot_100 : decode cX11_plot 100 = .ok (.getfield 42, 3) := bdX11_plot_87.2.2.2.2.2.2.2.1
theorem dX11_plot_103 : decode cX11_plot 103 = .ok (.getfield 96, 3) := bdX11_plot_87.2.2.2.2.2.2.2.2.1
theorem dX11_plot_106 : decode cX11_plot 106 = .ok (.iload_n 1, 1) := bdX11_plot_87.2.2.2.2.2.2.2.2.2
theorem bdX11_plot_107 : (decode cX11_plot 107 = .ok (.invokevirtual 199, 3)) ∧ (decode cX11_plot 110 = .ok (.ireturn, 1)) ∧ (decode cX11_plot 111 = .ok (.new 154, 3)) ∧ (decode cX11_plot 114 = .ok (.dup, 1)) ∧ (decode cX11_plot 115 = .ok (.invokespecial 156, 3)) ∧ (decode cX11_plot 118 = .ok (.athrow, 1)) := by decide +kernel
theorem dX11_plot_107 : decode cX11_plot 107 = .ok (.invokevirtual 199, 3) := bdX11_plot_107.1
theorem dX11_plot_110 : decode cX11_plot 110 = .ok (.ireturn, 1) := bdX11_plot_107.2.1
theorem dX11_plot_111 : decode cX11_plot 111 = .ok (.new 154, 3) := bdX11_plot_107.2.2.1
theorem dX11_plot_114 : decode cX11_plot 114 = .ok (.dup, 1) := bdX11_plot_107.2.2.2.1
theorem dX11_plot_115 : decode cX11_plot 115 = .ok (.invokespecial 156, 3) := bdX11_plot_107.2.2.2.2.1
theorem dX11_plot_118 : decode cX11_plot 118 = .ok (.athrow, 1) := bdX11_plot_107.2.2.2.2.2
theorem bdX11_worth_0 : (decode cX11_worth 0 = .ok (.aload_n 0, 1)) ∧ (decode cX11_worth 1 = .ok (.iload_n 1, 1)) ∧ (decode cX11_worth 2 = .ok (.invokevirtual 157, 3)) ∧ (decode cX11_worth 5 = .ok (.aload_n 0, 1)) ∧ (decode cX11_worth 6 = .ok (.iload_n 2, 1)) ∧ (decode cX11_worth 7 = .ok (.invokevirtual 184, 3)) ∧ (decode cX11_worth 10 = .ok (.aload_n 0, 1)) ∧ (decode cX11_worth 11 = .ok (.getfield 35, 3)) ∧ (decode cX11_worth 14 = .ok (.aload_n 0, 1)) ∧ (decode cX11_worth 15 = .ok (.getfield 42, 3)) := by decide +kernel
theorem dX11_worth_0 : decode cX11_worth 0 = .ok (.aload_n 0, 1) := bdX11_worth_0.1
theorem dX11_worth_1 : decode cX11_worth 1 = .ok (.iload_n 1, 1) := bdX11_worth_0.2.1
theorem dX11_worth_2 : decode cX11_worth 2 = .ok (.invokevirtual 157, 3) := bdX11_worth_0.2.2.1
theorem dX11_worth_5 : decode cX11_worth 5 = .ok (.aload_n 0, 1) := bdX11_worth_0.2.2.2.1
theorem dX11_worth_6 : decode cX11_worth 6 = .ok (.iload_n 2, 1) := bdX11_worth_0.2.2.2.2.1
theorem dX11_worth_7 : decode cX11_worth 7 = .ok (.invokevirtual 184, 3) := bdX11_worth_0.2.2.2.2.2.1
theorem dX11_worth_10 : decode cX11_worth 10 = .ok (.aload_n 0, 1) := bdX11_worth_0.2.2.2.2.2.2.1
theorem dX11_worth_11 : decode cX11_worth 11 = .ok (.getfield 35, 3) := bdX11_worth_0.2.2.2.2.2.2.2.1
theorem dX11_worth_14 : decode cX11_worth 14 = .ok (.aload_n 0, 1) := bdX11_worth_0.2.2.2.2.2.2.2.2.1
theorem dX11_worth_15 : decode cX11_worth 15 = .ok (.getfield 42, 3) := bdX11_worth_0.2.2.2.2.2.2.2.2.2
theorem bdX11_worth_18 : (decode cX11_worth 18 = .ok (.getfield 96, 3)) ∧ (decode cX11_worth 21 = .ok (.iload_n 1, 1)) ∧ (decode cX11_worth 22 = .ok (.iload_n 2, 1)) ∧ (decode cX11_worth 23 = .ok (.invokevirtual 202, 3)) ∧ (decode cX11_worth 26 = .ok (.ireturn, 1)) := by decide +kernel
theorem dX11_worth_18 : decode cX11_worth 18 = .ok (.getfield 96, 3) := bdX11_worth_18.1
theorem dX11_worth_21 : decode cX11_worth 21 = .ok (.iload_n 1, 1) := bdX11_worth_18.2.1
theorem dX11_worth_22 : decode cX11_worth 22 = .ok (.iload_n 2, 1) := bdX11_worth_18.2.2.1
theorem dX11_worth_23 : decode cX11_worth 23 = .ok (.invokevirtual 202, 3) := bdX11_worth_18.2.2.2.1
theorem dX11_worth_26 : decode cX11_worth 26 = .ok (.ireturn, 1) := bdX11_worth_18.2.2.2.2
theorem bdX11_harvest_0 : (decode cX11_harvest 0 = .ok (.aload_n 0, 1)) ∧ (decode cX11_harvest 1 = .ok (.iload_n 1, 1)) ∧ (decode cX11_harvest 2 = .ok (.invokevirtual 157, 3)) ∧ (decode cX11_harvest 5 = .ok (.aload_n 0, 1)) ∧ (decode cX11_harvest 6 = .ok (.iload_n 2, 1)) ∧ (decode cX11_harvest 7 = .ok (.invokevirtual 184, 3)) ∧ (decode cX11_harvest 10 = .ok (.aload_n 0, 1)) ∧ (decode cX11_harvest 11 = .ok (.iload_n 3, 1)) ∧ (decode cX11_harvest 12 = .ok (.iconst 0, 1)) ∧ (decode cX11_harvest 13 = .ok (.sipush 999, 3)) := by decide +kernel
theorem dX11_harvest_0 : decode cX11_harvest 0 = .ok (.aload_n 0, 1) := bdX11_harvest_0.1
theorem dX11_harvest_1 : decode cX11_harvest 1 = .ok (.iload_n 1, 1) := bdX11_harvest_0.2.1
theorem dX11_harvest_2 : decode cX11_harvest 2 = .ok (.invokevirtual 157, 3) := bdX11_harvest_0.2.2.1
theorem dX11_harvest_5 : decode cX11_harvest 5 = .ok (.aload_n 0, 1) := bdX11_harvest_0.2.2.2.1
theorem dX11_harvest_6 : decode cX11_harvest 6 = .ok (.iload_n 2, 1) := bdX11_harvest_0.2.2.2.2.1
theorem dX11_harvest_7 : decode cX11_harvest 7 = .ok (.invokevirtual 184, 3) := bdX11_harvest_0.2.2.2.2.2.1
theorem dX11_harvest_10 : decode cX11_harvest 10 = .ok (.aload_n 0, 1) := bdX11_harvest_0.2.2.2.2.2.2.1
theorem dX11_harvest_11 : decode cX11_harvest 11 = .ok (.iload_n 3, 1) := bdX11_harvest_0.2.2.2.2.2.2.2.1
theorem dX11_harvest_12 : decode cX11_harvest 12 = .ok (.iconst 0, 1) := bdX11_harvest_0.2.2.2.2.2.2.2.2.1
theorem dX11_harvest_13 : decode cX11_harvest 13 = .ok (.sipush 999, 3) := bdX11_harvest_0.2.2.2.2.2.2.2.2.2
theorem bdX11_harvest_16 : (decode cX11_harvest 16 = .ok (.invokevirtual 206, 3)) ∧ (decode cX11_harvest 19 = .ok (.aload_n 0, 1)) ∧ (decode cX11_harvest 20 = .ok (.getfield 35, 3)) ∧ (decode cX11_harvest 23 = .ok (.aload_n 0, 1)) ∧ (decode cX11_harvest 24 = .ok (.getfield 42, 3)) ∧ (decode cX11_harvest 27 = .ok (.getfield 96, 3)) ∧ (decode cX11_harvest 30 = .ok (.iload_n 1, 1)) ∧ (decode cX11_harvest 31 = .ok (.aload_n 0, 1)) ∧ (decode cX11_harvest 32 = .ok (.getfield 42, 3)) ∧ (decode cX11_harvest 35 = .ok (.getfield 96, 3)) := by decide +kernel
theorem dX11_harvest_16 : decode cX11_harvest 16 = .ok (.invokevirtual 206, 3) := bdX11_harvest_16.1
theorem dX11_harvest_19 : decode cX11_harvest 19 = .ok (.aload_n 0, 1) := bdX11_harvest_16.2.1
theorem dX11_harvest_20 : decode cX11_harvest 20 = .ok (.getfield 35, 3) := bdX11_harvest_16.2.2.1
theorem dX11_harvest_23 : decode cX11_harvest 23 = .ok (.aload_n 0, 1) := bdX11_harvest_16.2.2.2.1
theorem dX11_harvest_24 : decode cX11_harvest 24 = .ok (.getfield 42, 3) := bdX11_harvest_16.2.2.2.2.1
theorem dX11_harvest_27 : decode cX11_harvest 27 = .ok (.getfield 96, 3) := bdX11_harvest_16.2.2.2.2.2.1
theorem dX11_harvest_30 : decode cX11_harvest 30 = .ok (.iload_n 1, 1) := bdX11_harvest_16.2.2.2.2.2.2.1
theorem dX11_harvest_31 : decode cX11_harvest 31 = .ok (.aload_n 0, 1) := bdX11_harvest_16.2.2.2.2.2.2.2.1
theorem dX11_harvest_32 : decode cX11_harvest 32 = .ok (.getfield 42, 3) := bdX11_harvest_16.2.2.2.2.2.2.2.2.1
theorem dX11_harvest_35 : decode cX11_harvest 35 = .ok (.getfield 96, 3) := bdX11_harvest_16.2.2.2.2.2.2.2.2.2
theorem bdX11_harvest_38 : (decode cX11_harvest 38 = .ok (.iload_n 1, 1)) ∧ (decode cX11_harvest 39 = .ok (.invokevirtual 169, 3)) ∧ (decode cX11_harvest 42 = .ok (.iload_n 2, 1)) ∧ (decode cX11_harvest 43 = .ok (.iload_n 3, 1)) ∧ (decode cX11_harvest 44 = .ok (.invokevirtual 210, 3)) ∧ (decode cX11_harvest 47 = .ok (.ireturn, 1)) := by decide +kernel
theorem dX11_harvest_38 : decode cX11_harvest 38 = .ok (.iload_n 1, 1) := bdX11_harvest_38.1
theorem dX11_harvest_39 : decode cX11_harvest 39 = .ok (.invokevirtual 169, 3) := bdX11_harvest_38.2.1
theorem dX11_harvest_42 : decode cX11_harvest 42 = .ok (.iload_n 2, 1) := bdX11_harvest_38.2.2.1
theorem dX11_harvest_43 : decode cX11_harvest 43 = .ok (.iload_n 3, 1) := bdX11_harvest_38.2.2.2.1
theorem dX11_harvest_44 : decode cX11_harvest 44 = .ok (.invokevirtual 210, 3) := bdX11_harvest_38.2.2.2.2.1
theorem dX11_harvest_47 : decode cX11_harvest 47 = .ok (.ireturn, 1) := bdX11_harvest_38.2.2.2.2.2
theorem bdX11_free_0 : (decode cX11_free 0 = .ok (.aload_n 0, 1)) ∧ (decode cX11_free 1 = .ok (.getfield 35, 3)) ∧ (decode cX11_free 4 = .ok (.aload_n 0, 1)) ∧ (decode cX11_free 5 = .ok (.getfield 42, 3)) ∧ (decode cX11_free 8 = .ok (.getfield 96, 3)) ∧ (decode cX11_free 11 = .ok (.invokevirtual 214, 3)) ∧ (decode cX11_free 14 = .ok (.ireturn, 1)) := by decide +kernel
theorem dX11_free_0 : decode cX11_free 0 = .ok (.aload_n 0, 1) := bdX11_free_0.1
theorem dX11_free_1 : decode cX11_free 1 = .ok (.getfield 35, 3) := bdX11_free_0.2.1
theorem dX11_free_4 : decode cX11_free 4 = .ok (.aload_n 0, 1) := bdX11_free_0.2.2.1
theorem dX11_free_5 : decode cX11_free 5 = .ok (.getfield 42, 3) := bdX11_free_0.2.2.2.1
theorem dX11_free_8 : decode cX11_free 8 = .ok (.getfield 96, 3) := bdX11_free_0.2.2.2.2.1
theorem dX11_free_11 : decode cX11_free 11 = .ok (.invokevirtual 214, 3) := bdX11_free_0.2.2.2.2.2.1
theorem dX11_free_14 : decode cX11_free 14 = .ok (.ireturn, 1) := bdX11_free_0.2.2.2.2.2.2
theorem bdX11_marketPlace_0 : (decode cX11_marketPlace 0 = .ok (.bipush 100, 2)) ∧ (decode cX11_marketPlace 2 = .ok (.aload_n 0, 1)) ∧ (decode cX11_marketPlace 3 = .ok (.getfield 42, 3)) ∧ (decode cX11_marketPlace 6 = .ok (.getfield 96, 3)) ∧ (decode cX11_marketPlace 9 = .ok (.getfield 218, 3)) ∧ (decode cX11_marketPlace 12 = .ok (.imul, 1)) ∧ (decode cX11_marketPlace 13 = .ok (.aload_n 0, 1)) ∧ (decode cX11_marketPlace 14 = .ok (.getfield 42, 3)) ∧ (decode cX11_marketPlace 17 = .ok (.getfield 96, 3)) ∧ (decode cX11_marketPlace 20 = .ok (.getfield 221, 3)) := by decide +kernel
theorem dX11_marketPlace_0 : decode cX11_marketPlace 0 = .ok (.bipush 100, 2) := bdX11_marketPlace_0.1
theorem dX11_marketPlace_2 : decode cX11_marketPlace 2 = .ok (.aload_n 0, 1) := bdX11_marketPlace_0.2.1
theorem dX11_marketPlace_3 : decode cX11_marketPlace 3 = .ok (.getfield 42, 3) := bdX11_marketPlace_0.2.2.1
theorem dX11_marketPlace_6 : decode cX11_marketPlace 6 = .ok (.getfield 96, 3) := bdX11_marketPlace_0.2.2.2.1
theorem dX11_marketPlace_9 : decode cX11_marketPlace 9 = .ok (.getfield 218, 3) := bdX11_marketPlace_0.2.2.2.2.1
theorem dX11_marketPlace_12 : decode cX11_marketPlace 12 = .ok (.imul, 1) := bdX11_marketPlace_0.2.2.2.2.2.1
theorem dX11_marketPlace_13 : decode cX11_marketPlace 13 = .ok (.aload_n 0, 1) := bdX11_marketPlace_0.2.2.2.2.2.2.1
theorem dX11_marketPlace_14 : decode cX11_marketPlace 14 = .ok (.getfield 42, 3) := bdX11_marketPlace_0.2.2.2.2.2.2.2.1
theorem dX11_marketPlace_17 : decode cX11_marketPlace 17 = .ok (.getfield 96, 3) := bdX11_marketPlace_0.2.2.2.2.2.2.2.2.1
theorem dX11_marketPlace_20 : decode cX11_marketPlace 20 = .ok (.getfield 221, 3) := bdX11_marketPlace_0.2.2.2.2.2.2.2.2.2
theorem bdX11_marketPlace_23 : (decode cX11_marketPlace 23 = .ok (.iadd, 1)) ∧ (decode cX11_marketPlace 24 = .ok (.ireturn, 1)) := by decide +kernel
theorem dX11_marketPlace_23 : decode cX11_marketPlace 23 = .ok (.iadd, 1) := bdX11_marketPlace_23.1
theorem dX11_marketPlace_24 : decode cX11_marketPlace 24 = .ok (.ireturn, 1) := bdX11_marketPlace_23.2
theorem bdX11_lots_0 : (decode cX11_lots 0 = .ok (.aload_n 0, 1)) ∧ (decode cX11_lots 1 = .ok (.invokevirtual 224, 3)) ∧ (decode cX11_lots 4 = .ok (.aload_n 0, 1)) ∧ (decode cX11_lots 5 = .ok (.getfield 35, 3)) ∧ (decode cX11_lots 8 = .ok (.aload_n 0, 1)) ∧ (decode cX11_lots 9 = .ok (.getfield 42, 3)) ∧ (decode cX11_lots 12 = .ok (.getfield 96, 3)) ∧ (decode cX11_lots 15 = .ok (.iload_n 1, 1)) ∧ (decode cX11_lots 16 = .ok (.invokevirtual 227, 3)) ∧ (decode cX11_lots 19 = .ok (.pop, 1)) := by decide +kernel
theorem dX11_lots_0 : decode cX11_lots 0 = .ok (.aload_n 0, 1) := bdX11_lots_0.1
theorem dX11_lots_1 : decode cX11_lots 1 = .ok (.invokevirtual 224, 3) := bdX11_lots_0.2.1
theorem dX11_lots_4 : decode cX11_lots 4 = .ok (.aload_n 0, 1) := bdX11_lots_0.2.2.1
theorem dX11_lots_5 : decode cX11_lots 5 = .ok (.getfield 35, 3) := bdX11_lots_0.2.2.2.1
theorem dX11_lots_8 : decode cX11_lots 8 = .ok (.aload_n 0, 1) := bdX11_lots_0.2.2.2.2.1
theorem dX11_lots_9 : decode cX11_lots 9 = .ok (.getfield 42, 3) := bdX11_lots_0.2.2.2.2.2.1
theorem dX11_lots_12 : decode cX11_lots 12 = .ok (.getfield 96, 3) := bdX11_lots_0.2.2.2.2.2.2.1
theorem dX11_lots_15 : decode cX11_lots 15 = .ok (.iload_n 1, 1) := bdX11_lots_0.2.2.2.2.2.2.2.1
theorem dX11_lots_16 : decode cX11_lots 16 = .ok (.invokevirtual 227, 3) := bdX11_lots_0.2.2.2.2.2.2.2.2.1
theorem dX11_lots_19 : decode cX11_lots 19 = .ok (.pop, 1) := bdX11_lots_0.2.2.2.2.2.2.2.2.2
theorem bdX11_lots_20 : (decode cX11_lots 20 = .ok (.aload_n 0, 1)) ∧ (decode cX11_lots 21 = .ok (.getfield 35, 3)) ∧ (decode cX11_lots 24 = .ok (.aload_n 0, 1)) ∧ (decode cX11_lots 25 = .ok (.getfield 42, 3)) ∧ (decode cX11_lots 28 = .ok (.getfield 96, 3)) ∧ (decode cX11_lots 31 = .ok (.iconst (-1), 1)) ∧ (decode cX11_lots 32 = .ok (.invokevirtual 99, 3)) ∧ (decode cX11_lots 35 = .ok (.aload_n 0, 1)) ∧ (decode cX11_lots 36 = .ok (.getfield 42, 3)) ∧ (decode cX11_lots 39 = .ok (.getfield 96, 3)) := by decide +kernel
theorem dX11_lots_20 : decode cX11_lots 20 = .ok (.aload_n 0, 1) := bdX11_lots_20.1
theorem dX11_lots_21 : decode cX11_lots 21 = .ok (.getfield 35, 3) := bdX11_lots_20.2.1
theorem dX11_lots_24 : decode cX11_lots 24 = .ok (.aload_n 0, 1) := bdX11_lots_20.2.2.1
theorem dX11_lots_25 : decode cX11_lots 25 = .ok (.getfield 42, 3) := bdX11_lots_20.2.2.2.1
theorem dX11_lots_28 : decode cX11_lots 28 = .ok (.getfield 96, 3) := bdX11_lots_20.2.2.2.2.1
theorem dX11_lots_31 : decode cX11_lots 31 = .ok (.iconst (-1), 1) := bdX11_lots_20.2.2.2.2.2.1
theorem dX11_lots_32 : decode cX11_lots 32 = .ok (.invokevirtual 99, 3) := bdX11_lots_20.2.2.2.2.2.2.1
theorem dX11_lots_35 : decode cX11_lots 35 = .ok (.aload_n 0, 1) := bdX11_lots_20.2.2.2.2.2.2.2.1
theorem dX11_lots_36 : decode cX11_lots 36 = .ok (.getfield 42, 3) := bdX11_lots_20.2.2.2.2.2.2.2.2.1
theorem dX11_lots_39 : decode cX11_lots 39 = .ok (.getfield 96, 3) := bdX11_lots_20.2.2.2.2.2.2.2.2.2
theorem bdX11_lots_42 : (decode cX11_lots 42 = .ok (.getfield 135, 3)) ∧ (decode cX11_lots 45 = .ok (.ireturn, 1)) := by decide +kernel
theorem dX11_lots_42 : decode cX11_lots 42 = .ok (.getfield 135, 3) := bdX11_lots_42.1
theorem dX11_lots_45 : decode cX11_lots 45 = .ok (.ireturn, 1) := bdX11_lots_42.2
theorem bdX11_turn_0 : (decode cX11_turn 0 = .ok (.aload_n 0, 1)) ∧ (decode cX11_turn 1 = .ok (.iload_n 1, 1)) ∧ (decode cX11_turn 2 = .ok (.invokevirtual 157, 3)) ∧ (decode cX11_turn 5 = .ok (.aload_n 0, 1)) ∧ (decode cX11_turn 6 = .ok (.invokevirtual 224, 3)) ∧ (decode cX11_turn 9 = .ok (.aload_n 0, 1)) ∧ (decode cX11_turn 10 = .ok (.getfield 42, 3)) ∧ (decode cX11_turn 13 = .ok (.getfield 96, 3)) ∧ (decode cX11_turn 16 = .ok (.iload_n 1, 1)) ∧ (decode cX11_turn 17 = .ok (.invokevirtual 230, 3)) := by decide +kernel
theorem dX11_turn_0 : decode cX11_turn 0 = .ok (.aload_n 0, 1) := bdX11_turn_0.1
theorem dX11_turn_1 : decode cX11_turn 1 = .ok (.iload_n 1, 1) := bdX11_turn_0.2.1
theorem dX11_turn_2 : decode cX11_turn 2 = .ok (.invokevirtual 157, 3) := bdX11_turn_0.2.2.1
theorem dX11_turn_5 : decode cX11_turn 5 = .ok (.aload_n 0, 1) := bdX11_turn_0.2.2.2.1
theorem dX11_turn_6 : decode cX11_turn 6 = .ok (.invokevirtual 224, 3) := bdX11_turn_0.2.2.2.2.1
theorem dX11_turn_9 : decode cX11_turn 9 = .ok (.aload_n 0, 1) := bdX11_turn_0.2.2.2.2.2.1
theorem dX11_turn_10 : decode cX11_turn 10 = .ok (.getfield 42, 3) := bdX11_turn_0.2.2.2.2.2.2.1
theorem dX11_turn_13 : decode cX11_turn 13 = .ok (.getfield 96, 3) := bdX11_turn_0.2.2.2.2.2.2.2.1
theorem dX11_turn_16 : decode cX11_turn 16 = .ok (.iload_n 1, 1) := bdX11_turn_0.2.2.2.2.2.2.2.2.1
theorem dX11_turn_17 : decode cX11_turn 17 = .ok (.invokevirtual 230, 3) := bdX11_turn_0.2.2.2.2.2.2.2.2.2
theorem bdX11_turn_20 : (decode cX11_turn 20 = .ok (.aload_n 0, 1)) ∧ (decode cX11_turn 21 = .ok (.getfield 42, 3)) ∧ (decode cX11_turn 24 = .ok (.getfield 96, 3)) ∧ (decode cX11_turn 27 = .ok (.dup, 1)) ∧ (decode cX11_turn 28 = .ok (.getfield 132, 3)) ∧ (decode cX11_turn 31 = .ok (.iconst 1, 1)) ∧ (decode cX11_turn 32 = .ok (.iadd, 1)) ∧ (decode cX11_turn 33 = .ok (.putfield 132, 3)) ∧ (decode cX11_turn 36 = .ok (.aload_n 0, 1)) ∧ (decode cX11_turn 37 = .ok (.getfield 35, 3)) := by decide +kernel
theorem dX11_turn_20 : decode cX11_turn 20 = .ok (.aload_n 0, 1) := bdX11_turn_20.1
theorem dX11_turn_21 : decode cX11_turn 21 = .ok (.getfield 42, 3) := bdX11_turn_20.2.1
theorem dX11_turn_24 : decode cX11_turn 24 = .ok (.getfield 96, 3) := bdX11_turn_20.2.2.1
theorem dX11_turn_27 : decode cX11_turn 27 = .ok (.dup, 1) := bdX11_turn_20.2.2.2.1
theorem dX11_turn_28 : decode cX11_turn 28 = .ok (.getfield 132, 3) := bdX11_turn_20.2.2.2.2.1
theorem dX11_turn_31 : decode cX11_turn 31 = .ok (.iconst 1, 1) := bdX11_turn_20.2.2.2.2.2.1
theorem dX11_turn_32 : decode cX11_turn 32 = .ok (.iadd, 1) := bdX11_turn_20.2.2.2.2.2.2.1
theorem dX11_turn_33 : decode cX11_turn 33 = .ok (.putfield 132, 3) := bdX11_turn_20.2.2.2.2.2.2.2.1
theorem dX11_turn_36 : decode cX11_turn 36 = .ok (.aload_n 0, 1) := bdX11_turn_20.2.2.2.2.2.2.2.2.1
theorem dX11_turn_37 : decode cX11_turn 37 = .ok (.getfield 35, 3) := bdX11_turn_20.2.2.2.2.2.2.2.2.2
theorem bdX11_turn_40 : (decode cX11_turn 40 = .ok (.aload_n 0, 1)) ∧ (decode cX11_turn 41 = .ok (.getfield 42, 3)) ∧ (decode cX11_turn 44 = .ok (.getfield 96, 3)) ∧ (decode cX11_turn 47 = .ok (.iconst (-1), 1)) ∧ (decode cX11_turn 48 = .ok (.invokevirtual 99, 3)) ∧ (decode cX11_turn 51 = .ok (.aload_n 0, 1)) ∧ (decode cX11_turn 52 = .ok (.getfield 42, 3)) ∧ (decode cX11_turn 55 = .ok (.getfield 96, 3)) ∧ (decode cX11_turn 58 = .ok (.iload_n 1, 1)) ∧ (decode cX11_turn 59 = .ok (.invokevirtual 169, 3)) := by decide +kernel
theorem dX11_turn_40 : decode cX11_turn 40 = .ok (.aload_n 0, 1) := bdX11_turn_40.1
theorem dX11_turn_41 : decode cX11_turn 41 = .ok (.getfield 42, 3) := bdX11_turn_40.2.1
theorem dX11_turn_44 : decode cX11_turn 44 = .ok (.getfield 96, 3) := bdX11_turn_40.2.2.1
theorem dX11_turn_47 : decode cX11_turn 47 = .ok (.iconst (-1), 1) := bdX11_turn_40.2.2.2.1
theorem dX11_turn_48 : decode cX11_turn 48 = .ok (.invokevirtual 99, 3) := bdX11_turn_40.2.2.2.2.1
theorem dX11_turn_51 : decode cX11_turn 51 = .ok (.aload_n 0, 1) := bdX11_turn_40.2.2.2.2.2.1
theorem dX11_turn_52 : decode cX11_turn 52 = .ok (.getfield 42, 3) := bdX11_turn_40.2.2.2.2.2.2.1
theorem dX11_turn_55 : decode cX11_turn 55 = .ok (.getfield 96, 3) := bdX11_turn_40.2.2.2.2.2.2.2.1
theorem dX11_turn_58 : decode cX11_turn 58 = .ok (.iload_n 1, 1) := bdX11_turn_40.2.2.2.2.2.2.2.2.1
theorem dX11_turn_59 : decode cX11_turn 59 = .ok (.invokevirtual 169, 3) := bdX11_turn_40.2.2.2.2.2.2.2.2.2
theorem bdX11_turn_62 : (decode cX11_turn 62 = .ok (.ireturn, 1)) := by decide +kernel
theorem dX11_turn_62 : decode cX11_turn 62 = .ok (.ireturn, 1) := bdX11_turn_62
theorem bdX11_order_0 : (decode cX11_order 0 = .ok (.aload_n 0, 1)) ∧ (decode cX11_order 1 = .ok (.iload_n 1, 1)) ∧ (decode cX11_order 2 = .ok (.invokevirtual 157, 3)) ∧ (decode cX11_order 5 = .ok (.iload_n 2, 1)) ∧ (decode cX11_order 6 = .ok (.ifCond .lt 17, 3)) ∧ (decode cX11_order 9 = .ok (.iload_n 2, 1)) ∧ (decode cX11_order 10 = .ok (.aload_n 0, 1)) ∧ (decode cX11_order 11 = .ok (.getfield 35, 3)) ∧ (decode cX11_order 14 = .ok (.getfield 89, 3)) ∧ (decode cX11_order 17 = .ok (.getfield 106, 3)) := by decide +kernel
theorem dX11_order_0 : decode cX11_order 0 = .ok (.aload_n 0, 1) := bdX11_order_0.1
theorem dX11_order_1 : decode cX11_order 1 = .ok (.iload_n 1, 1) := bdX11_order_0.2.1
theorem dX11_order_2 : decode cX11_order 2 = .ok (.invokevirtual 157, 3) := bdX11_order_0.2.2.1
theorem dX11_order_5 : decode cX11_order 5 = .ok (.iload_n 2, 1) := bdX11_order_0.2.2.2.1
theorem dX11_order_6 : decode cX11_order 6 = .ok (.ifCond .lt 17, 3) := bdX11_order_0.2.2.2.2.1
theorem dX11_order_9 : decode cX11_order 9 = .ok (.iload_n 2, 1) := bdX11_order_0.2.2.2.2.2.1
theorem dX11_order_10 : decode cX11_order 10 = .ok (.aload_n 0, 1) := bdX11_order_0.2.2.2.2.2.2.1
theorem dX11_order_11 : decode cX11_order 11 = .ok (.getfield 35, 3) := bdX11_order_0.2.2.2.2.2.2.2.1
theorem dX11_order_14 : decode cX11_order 14 = .ok (.getfield 89, 3) := bdX11_order_0.2.2.2.2.2.2.2.2.1
theorem dX11_order_17 : decode cX11_order 17 = .ok (.getfield 106, 3) := bdX11_order_0.2.2.2.2.2.2.2.2.2
theorem bdX11_order_20 : (decode cX11_order 20 = .ok (.if_icmp .lt 9, 3)) ∧ (decode cX11_order 23 = .ok (.aload_n 0, 1)) ∧ (decode cX11_order 24 = .ok (.iconst 1, 1)) ∧ (decode cX11_order 25 = .ok (.invokevirtual 233, 3)) ∧ (decode cX11_order 28 = .ok (.ireturn, 1)) ∧ (decode cX11_order 29 = .ok (.aload_n 0, 1)) ∧ (decode cX11_order 30 = .ok (.invokevirtual 224, 3)) ∧ (decode cX11_order 33 = .ok (.aload_n 0, 1)) ∧ (decode cX11_order 34 = .ok (.getfield 42, 3)) ∧ (decode cX11_order 37 = .ok (.getfield 96, 3)) := by decide +kernel
theorem dX11_order_20 : decode cX11_order 20 = .ok (.if_icmp .lt 9, 3) := bdX11_order_20.1
theorem dX11_order_23 : decode cX11_order 23 = .ok (.aload_n 0, 1) := bdX11_order_20.2.1
theorem dX11_order_24 : decode cX11_order 24 = .ok (.iconst 1, 1) := bdX11_order_20.2.2.1
theorem dX11_order_25 : decode cX11_order 25 = .ok (.invokevirtual 233, 3) := bdX11_order_20.2.2.2.1
theorem dX11_order_28 : decode cX11_order 28 = .ok (.ireturn, 1) := bdX11_order_20.2.2.2.2.1
theorem dX11_order_29 : decode cX11_order 29 = .ok (.aload_n 0, 1) := bdX11_order_20.2.2.2.2.2.1
theorem dX11_order_30 : decode cX11_order 30 = .ok (.invokevirtual 224, 3) := bdX11_order_20.2.2.2.2.2.2.1
theorem dX11_order_33 : decode cX11_order 33 = .ok (.aload_n 0, 1) := bdX11_order_20.2.2.2.2.2.2.2.1
theorem dX11_order_34 : decode cX11_order 34 = .ok (.getfield 42, 3) := bdX11_order_20.2.2.2.2.2.2.2.2.1
theorem dX11_order_37 : decode cX11_order 37 = .ok (.getfield 96, 3) := bdX11_order_20.2.2.2.2.2.2.2.2.2
theorem bdX11_order_40 : (decode cX11_order 40 = .ok (.getfield 178, 3)) ∧ (decode cX11_order 43 = .ok (.iload_n 1, 1)) ∧ (decode cX11_order 44 = .ok (.iaload, 1)) ∧ (decode cX11_order 45 = .ok (.istore_n 3, 1)) ∧ (decode cX11_order 46 = .ok (.aload_n 0, 1)) ∧ (decode cX11_order 47 = .ok (.getfield 42, 3)) ∧ (decode cX11_order 50 = .ok (.getfield 96, 3)) ∧ (decode cX11_order 53 = .ok (.iload_n 1, 1)) ∧ (decode cX11_order 54 = .ok (.iload_n 2, 1)) ∧ (decode cX11_order 55 = .ok (.invokevirtual 236, 3)) := by decide +kernel
theorem dX11_order_40 : decode cX11_order 40 = .ok (.getfield 178, 3) := bdX11_order_40.1
theorem dX11_order_43 : decode cX11_order 43 = .ok (.iload_n 1, 1) := bdX11_order_40.2.1
theorem dX11_order_44 : decode cX11_order 44 = .ok (.iaload, 1) := bdX11_order_40.2.2.1
theorem dX11_order_45 : decode cX11_order 45 = .ok (.istore_n 3, 1) := bdX11_order_40.2.2.2.1
theorem dX11_order_46 : decode cX11_order 46 = .ok (.aload_n 0, 1) := bdX11_order_40.2.2.2.2.1
theorem dX11_order_47 : decode cX11_order 47 = .ok (.getfield 42, 3) := bdX11_order_40.2.2.2.2.2.1
theorem dX11_order_50 : decode cX11_order 50 = .ok (.getfield 96, 3) := bdX11_order_40.2.2.2.2.2.2.1
theorem dX11_order_53 : decode cX11_order 53 = .ok (.iload_n 1, 1) := bdX11_order_40.2.2.2.2.2.2.2.1
theorem dX11_order_54 : decode cX11_order 54 = .ok (.iload_n 2, 1) := bdX11_order_40.2.2.2.2.2.2.2.2.1
theorem dX11_order_55 : decode cX11_order 55 = .ok (.invokevirtual 236, 3) := bdX11_order_40.2.2.2.2.2.2.2.2.2
theorem bdX11_order_58 : (decode cX11_order 58 = .ok (.aload_n 0, 1)) ∧ (decode cX11_order 59 = .ok (.getfield 35, 3)) ∧ (decode cX11_order 62 = .ok (.aload_n 0, 1)) ∧ (decode cX11_order 63 = .ok (.getfield 42, 3)) ∧ (decode cX11_order 66 = .ok (.getfield 96, 3)) ∧ (decode cX11_order 69 = .ok (.iconst (-1), 1)) ∧ (decode cX11_order 70 = .ok (.invokevirtual 99, 3)) ∧ (decode cX11_order 73 = .ok (.iload_n 3, 1)) ∧ (decode cX11_order 74 = .ok (.ireturn, 1)) := by decide +kernel
theorem dX11_order_58 : decode cX11_order 58 = .ok (.aload_n 0, 1) := bdX11_order_58.1
theorem dX11_order_59 : decode cX11_order 59 = .ok (.getfield 35, 3) := bdX11_order_58.2.1
theorem dX11_order_62 : decode cX11_order 62 = .ok (.aload_n 0, 1) := bdX11_order_58.2.2.1
theorem dX11_order_63 : decode cX11_order 63 = .ok (.getfield 42, 3) := bdX11_order_58.2.2.2.1
theorem dX11_order_66 : decode cX11_order 66 = .ok (.getfield 96, 3) := bdX11_order_58.2.2.2.2.1
theorem dX11_order_69 : decode cX11_order 69 = .ok (.iconst (-1), 1) := bdX11_order_58.2.2.2.2.2.1
theorem dX11_order_70 : decode cX11_order 70 = .ok (.invokevirtual 99, 3) := bdX11_order_58.2.2.2.2.2.2.1
theorem dX11_order_73 : decode cX11_order 73 = .ok (.iload_n 3, 1) := bdX11_order_58.2.2.2.2.2.2.2.1
theorem dX11_order_74 : decode cX11_order 74 = .ok (.ireturn, 1) := bdX11_order_58.2.2.2.2.2.2.2.2
theorem bdX11_exchange_0 : (decode cX11_exchange 0 = .ok (.aload_n 0, 1)) ∧ (decode cX11_exchange 1 = .ok (.iload_n 1, 1)) ∧ (decode cX11_exchange 2 = .ok (.invokevirtual 157, 3)) ∧ (decode cX11_exchange 5 = .ok (.aload_n 0, 1)) ∧ (decode cX11_exchange 6 = .ok (.iload_n 2, 1)) ∧ (decode cX11_exchange 7 = .ok (.invokevirtual 157, 3)) ∧ (decode cX11_exchange 10 = .ok (.iload_n 1, 1)) ∧ (decode cX11_exchange 11 = .ok (.iload_n 2, 1)) ∧ (decode cX11_exchange 12 = .ok (.if_icmp .ne 11, 3)) ∧ (decode cX11_exchange 15 = .ok (.aload_n 0, 1)) := by decide +kernel
theorem dX11_exchange_0 : decode cX11_exchange 0 = .ok (.aload_n 0, 1) := bdX11_exchange_0.1
theorem dX11_exchange_1 : decode cX11_exchange 1 = .ok (.iload_n 1, 1) := bdX11_exchange_0.2.1
theorem dX11_exchange_2 : decode cX11_exchange 2 = .ok (.invokevirtual 157, 3) := bdX11_exchange_0.2.2.1
theorem dX11_exchange_5 : decode cX11_exchange 5 = .ok (.aload_n 0, 1) := bdX11_exchange_0.2.2.2.1
theorem dX11_exchange_6 : decode cX11_exchange 6 = .ok (.iload_n 2, 1) := bdX11_exchange_0.2.2.2.2.1
theorem dX11_exchange_7 : decode cX11_exchange 7 = .ok (.invokevirtual 157, 3) := bdX11_exchange_0.2.2.2.2.2.1
theorem dX11_exchange_10 : decode cX11_exchange 10 = .ok (.iload_n 1, 1) := bdX11_exchange_0.2.2.2.2.2.2.1
theorem dX11_exchange_11 : decode cX11_exchange 11 = .ok (.iload_n 2, 1) := bdX11_exchange_0.2.2.2.2.2.2.2.1
theorem dX11_exchange_12 : decode cX11_exchange 12 = .ok (.if_icmp .ne 11, 3) := bdX11_exchange_0.2.2.2.2.2.2.2.2.1
theorem dX11_exchange_15 : decode cX11_exchange 15 = .ok (.aload_n 0, 1) := bdX11_exchange_0.2.2.2.2.2.2.2.2.2
theorem bdX11_exchange_16 : (decode cX11_exchange 16 = .ok (.iconst 1, 1)) ∧ (decode cX11_exchange 17 = .ok (.invokevirtual 233, 3)) ∧ (decode cX11_exchange 20 = .ok (.pop, 1)) ∧ (decode cX11_exchange 21 = .ok (.iconst 0, 1)) ∧ (decode cX11_exchange 22 = .ok (.ireturn, 1)) ∧ (decode cX11_exchange 23 = .ok (.aload_n 0, 1)) ∧ (decode cX11_exchange 24 = .ok (.invokevirtual 224, 3)) ∧ (decode cX11_exchange 27 = .ok (.aload_n 0, 1)) ∧ (decode cX11_exchange 28 = .ok (.getfield 42, 3)) ∧ (decode cX11_exchange 31 = .ok (.getfield 96, 3)) := by decide +kernel
theorem dX11_exchange_16 : decode cX11_exchange 16 = .ok (.iconst 1, 1) := bdX11_exchange_16.1
theorem dX11_exchange_17 : decode cX11_exchange 17 = .ok (.invokevirtual 233, 3) := bdX11_exchange_16.2.1
theorem dX11_exchange_20 : decode cX11_exchange 20 = .ok (.pop, 1) := bdX11_exchange_16.2.2.1
theorem dX11_exchange_21 : decode cX11_exchange 21 = .ok (.iconst 0, 1) := bdX11_exchange_16.2.2.2.1
theorem dX11_exchange_22 : decode cX11_exchange 22 = .ok (.ireturn, 1) := bdX11_exchange_16.2.2.2.2.1
theorem dX11_exchange_23 : decode cX11_exchange 23 = .ok (.aload_n 0, 1) := bdX11_exchange_16.2.2.2.2.2.1
theorem dX11_exchange_24 : decode cX11_exchange 24 = .ok (.invokevirtual 224, 3) := bdX11_exchange_16.2.2.2.2.2.2.1
theorem dX11_exchange_27 : decode cX11_exchange 27 = .ok (.aload_n 0, 1) := bdX11_exchange_16.2.2.2.2.2.2.2.1
theorem dX11_exchange_28 : decode cX11_exchange 28 = .ok (.getfield 42, 3) := bdX11_exchange_16.2.2.2.2.2.2.2.2.1
theorem dX11_exchange_31 : decode cX11_exchange 31 = .ok (.getfield 96, 3) := bdX11_exchange_16.2.2.2.2.2.2.2.2.2
theorem bdX11_exchange_34 : (decode cX11_exchange 34 = .ok (.getfield 172, 3)) ∧ (decode cX11_exchange 37 = .ok (.iload_n 1, 1)) ∧ (decode cX11_exchange 38 = .ok (.iaload, 1)) ∧ (decode cX11_exchange 39 = .ok (.istore_n 3, 1)) ∧ (decode cX11_exchange 40 = .ok (.aload_n 0, 1)) ∧ (decode cX11_exchange 41 = .ok (.getfield 42, 3)) ∧ (decode cX11_exchange 44 = .ok (.getfield 96, 3)) ∧ (decode cX11_exchange 47 = .ok (.getfield 172, 3)) ∧ (decode cX11_exchange 50 = .ok (.iload_n 1, 1)) ∧ (decode cX11_exchange 51 = .ok (.aload_n 0, 1)) := by decide +kernel
theorem dX11_exchange_34 : decode cX11_exchange 34 = .ok (.getfield 172, 3) := bdX11_exchange_34.1
theorem dX11_exchange_37 : decode cX11_exchange 37 = .ok (.iload_n 1, 1) := bdX11_exchange_34.2.1
theorem dX11_exchange_38 : decode cX11_exchange 38 = .ok (.iaload, 1) := bdX11_exchange_34.2.2.1
theorem dX11_exchange_39 : decode cX11_exchange 39 = .ok (.istore_n 3, 1) := bdX11_exchange_34.2.2.2.1
theorem dX11_exchange_40 : decode cX11_exchange 40 = .ok (.aload_n 0, 1) := bdX11_exchange_34.2.2.2.2.1
theorem dX11_exchange_41 : decode cX11_exchange 41 = .ok (.getfield 42, 3) := bdX11_exchange_34.2.2.2.2.2.1
theorem dX11_exchange_44 : decode cX11_exchange 44 = .ok (.getfield 96, 3) := bdX11_exchange_34.2.2.2.2.2.2.1
theorem dX11_exchange_47 : decode cX11_exchange 47 = .ok (.getfield 172, 3) := bdX11_exchange_34.2.2.2.2.2.2.2.1
theorem dX11_exchange_50 : decode cX11_exchange 50 = .ok (.iload_n 1, 1) := bdX11_exchange_34.2.2.2.2.2.2.2.2.1
theorem dX11_exchange_51 : decode cX11_exchange 51 = .ok (.aload_n 0, 1) := bdX11_exchange_34.2.2.2.2.2.2.2.2.2
theorem bdX11_exchange_52 : (decode cX11_exchange 52 = .ok (.getfield 42, 3)) ∧ (decode cX11_exchange 55 = .ok (.getfield 96, 3)) ∧ (decode cX11_exchange 58 = .ok (.getfield 172, 3)) ∧ (decode cX11_exchange 61 = .ok (.iload_n 2, 1)) ∧ (decode cX11_exchange 62 = .ok (.iaload, 1)) ∧ (decode cX11_exchange 63 = .ok (.iastore, 1)) ∧ (decode cX11_exchange 64 = .ok (.aload_n 0, 1)) ∧ (decode cX11_exchange 65 = .ok (.getfield 42, 3)) ∧ (decode cX11_exchange 68 = .ok (.getfield 96, 3)) ∧ (decode cX11_exchange 71 = .ok (.getfield 172, 3)) := by decide +kernel
theorem dX11_exchange_52 : decode cX11_exchange 52 = .ok (.getfield 42, 3) := bdX11_exchange_52.1
theorem dX11_exchange_55 : decode cX11_exchange 55 = .ok (.getfield 96, 3) := bdX11_exchange_52.2.1
theorem dX11_exchange_58 : decode cX11_exchange 58 = .ok (.getfield 172, 3) := bdX11_exchange_52.2.2.1
theorem dX11_exchange_61 : decode cX11_exchange 61 = .ok (.iload_n 2, 1) := bdX11_exchange_52.2.2.2.1
theorem dX11_exchange_62 : decode cX11_exchange 62 = .ok (.iaload, 1) := bdX11_exchange_52.2.2.2.2.1
theorem dX11_exchange_63 : decode cX11_exchange 63 = .ok (.iastore, 1) := bdX11_exchange_52.2.2.2.2.2.1
theorem dX11_exchange_64 : decode cX11_exchange 64 = .ok (.aload_n 0, 1) := bdX11_exchange_52.2.2.2.2.2.2.1
theorem dX11_exchange_65 : decode cX11_exchange 65 = .ok (.getfield 42, 3) := bdX11_exchange_52.2.2.2.2.2.2.2.1
theorem dX11_exchange_68 : decode cX11_exchange 68 = .ok (.getfield 96, 3) := bdX11_exchange_52.2.2.2.2.2.2.2.2.1
theorem dX11_exchange_71 : decode cX11_exchange 71 = .ok (.getfield 172, 3) := bdX11_exchange_52.2.2.2.2.2.2.2.2.2
theorem bdX11_exchange_74 : (decode cX11_exchange 74 = .ok (.iload_n 2, 1)) ∧ (decode cX11_exchange 75 = .ok (.iload_n 3, 1)) ∧ (decode cX11_exchange 76 = .ok (.iastore, 1)) ∧ (decode cX11_exchange 77 = .ok (.iconst 1, 1)) ∧ (decode cX11_exchange 78 = .ok (.ireturn, 1)) := by decide +kernel
theorem dX11_exchange_74 : decode cX11_exchange 74 = .ok (.iload_n 2, 1) := bdX11_exchange_74.1
theorem dX11_exchange_75 : decode cX11_exchange 75 = .ok (.iload_n 3, 1) := bdX11_exchange_74.2.1
theorem dX11_exchange_76 : decode cX11_exchange 76 = .ok (.iastore, 1) := bdX11_exchange_74.2.2.1
theorem dX11_exchange_77 : decode cX11_exchange 77 = .ok (.iconst 1, 1) := bdX11_exchange_74.2.2.2.1
theorem dX11_exchange_78 : decode cX11_exchange 78 = .ok (.ireturn, 1) := bdX11_exchange_74.2.2.2.2
theorem bdX11_market_0 : (decode cX11_market 0 = .ok (.iload_n 1, 1)) ∧ (decode cX11_market 1 = .ok (.ifCond .lt 19, 3)) ∧ (decode cX11_market 4 = .ok (.iload_n 1, 1)) ∧ (decode cX11_market 5 = .ok (.bipush 20, 2)) ∧ (decode cX11_market 7 = .ok (.if_icmp .gt 13, 3)) ∧ (decode cX11_market 10 = .ok (.iload_n 2, 1)) ∧ (decode cX11_market 11 = .ok (.ifCond .lt 9, 3)) ∧ (decode cX11_market 14 = .ok (.iload_n 2, 1)) ∧ (decode cX11_market 15 = .ok (.bipush 20, 2)) ∧ (decode cX11_market 17 = .ok (.if_icmp .le 9, 3)) := by decide +kernel
theorem dX11_market_0 : decode cX11_market 0 = .ok (.iload_n 1, 1) := bdX11_market_0.1
theorem dX11_market_1 : decode cX11_market 1 = .ok (.ifCond .lt 19, 3) := bdX11_market_0.2.1
theorem dX11_market_4 : decode cX11_market 4 = .ok (.iload_n 1, 1) := bdX11_market_0.2.2.1
theorem dX11_market_5 : decode cX11_market 5 = .ok (.bipush 20, 2) := bdX11_market_0.2.2.2.1
theorem dX11_market_7 : decode cX11_market 7 = .ok (.if_icmp .gt 13, 3) := bdX11_market_0.2.2.2.2.1
theorem dX11_market_10 : decode cX11_market 10 = .ok (.iload_n 2, 1) := bdX11_market_0.2.2.2.2.2.1
theorem dX11_market_11 : decode cX11_market 11 = .ok (.ifCond .lt 9, 3) := bdX11_market_0.2.2.2.2.2.2.1
theorem dX11_market_14 : decode cX11_market 14 = .ok (.iload_n 2, 1) := bdX11_market_0.2.2.2.2.2.2.2.1
theorem dX11_market_15 : decode cX11_market 15 = .ok (.bipush 20, 2) := bdX11_market_0.2.2.2.2.2.2.2.2.1
theorem dX11_market_17 : decode cX11_market 17 = .ok (.if_icmp .le 9, 3) := bdX11_market_0.2.2.2.2.2.2.2.2.2
theorem bdX11_market_20 : (decode cX11_market 20 = .ok (.aload_n 0, 1)) ∧ (decode cX11_market 21 = .ok (.iconst 1, 1)) ∧ (decode cX11_market 22 = .ok (.invokevirtual 233, 3)) ∧ (decode cX11_market 25 = .ok (.ireturn, 1)) ∧ (decode cX11_market 26 = .ok (.aload_n 0, 1)) ∧ (decode cX11_market 27 = .ok (.invokevirtual 224, 3)) ∧ (decode cX11_market 30 = .ok (.aload_n 0, 1)) ∧ (decode cX11_market 31 = .ok (.invokevirtual 112, 3)) ∧ (decode cX11_market 34 = .ok (.istore_n 3, 1)) ∧ (decode cX11_market 35 = .ok (.aload_n 0, 1)) := by decide +kernel
theorem dX11_market_20 : decode cX11_market 20 = .ok (.aload_n 0, 1) := bdX11_market_20.1
theorem dX11_market_21 : decode cX11_market 21 = .ok (.iconst 1, 1) := bdX11_market_20.2.1
theorem dX11_market_22 : decode cX11_market 22 = .ok (.invokevirtual 233, 3) := bdX11_market_20.2.2.1
theorem dX11_market_25 : decode cX11_market 25 = .ok (.ireturn, 1) := bdX11_market_20.2.2.2.1
theorem dX11_market_26 : decode cX11_market 26 = .ok (.aload_n 0, 1) := bdX11_market_20.2.2.2.2.1
theorem dX11_market_27 : decode cX11_market 27 = .ok (.invokevirtual 224, 3) := bdX11_market_20.2.2.2.2.2.1
theorem dX11_market_30 : decode cX11_market 30 = .ok (.aload_n 0, 1) := bdX11_market_20.2.2.2.2.2.2.1
theorem dX11_market_31 : decode cX11_market 31 = .ok (.invokevirtual 112, 3) := bdX11_market_20.2.2.2.2.2.2.2.1
theorem dX11_market_34 : decode cX11_market 34 = .ok (.istore_n 3, 1) := bdX11_market_20.2.2.2.2.2.2.2.2.1
theorem dX11_market_35 : decode cX11_market 35 = .ok (.aload_n 0, 1) := bdX11_market_20.2.2.2.2.2.2.2.2.2
theorem bdX11_market_36 : (decode cX11_market 36 = .ok (.getfield 42, 3)) ∧ (decode cX11_market 39 = .ok (.getfield 96, 3)) ∧ (decode cX11_market 42 = .ok (.iload_n 1, 1)) ∧ (decode cX11_market 43 = .ok (.putfield 221, 3)) ∧ (decode cX11_market 46 = .ok (.aload_n 0, 1)) ∧ (decode cX11_market 47 = .ok (.getfield 42, 3)) ∧ (decode cX11_market 50 = .ok (.getfield 96, 3)) ∧ (decode cX11_market 53 = .ok (.iload_n 2, 1)) ∧ (decode cX11_market 54 = .ok (.putfield 218, 3)) ∧ (decode cX11_market 57 = .ok (.aload_n 0, 1)) := by decide +kernel
theorem dX11_market_36 : decode cX11_market 36 = .ok (.getfield 42, 3) := bdX11_market_36.1
theorem dX11_market_39 : decode cX11_market 39 = .ok (.getfield 96, 3) := bdX11_market_36.2.1
theorem dX11_market_42 : decode cX11_market 42 = .ok (.iload_n 1, 1) := bdX11_market_36.2.2.1
theorem dX11_market_43 : decode cX11_market 43 = .ok (.putfield 221, 3) := bdX11_market_36.2.2.2.1
theorem dX11_market_46 : decode cX11_market 46 = .ok (.aload_n 0, 1) := bdX11_market_36.2.2.2.2.1
theorem dX11_market_47 : decode cX11_market 47 = .ok (.getfield 42, 3) := bdX11_market_36.2.2.2.2.2.1
theorem dX11_market_50 : decode cX11_market 50 = .ok (.getfield 96, 3) := bdX11_market_36.2.2.2.2.2.2.1
theorem dX11_market_53 : decode cX11_market 53 = .ok (.iload_n 2, 1) := bdX11_market_36.2.2.2.2.2.2.2.1
theorem dX11_market_54 : decode cX11_market 54 = .ok (.putfield 218, 3) := bdX11_market_36.2.2.2.2.2.2.2.2.1
theorem dX11_market_57 : decode cX11_market 57 = .ok (.aload_n 0, 1) := bdX11_market_36.2.2.2.2.2.2.2.2.2
theorem bdX11_market_58 : (decode cX11_market 58 = .ok (.getfield 35, 3)) ∧ (decode cX11_market 61 = .ok (.aload_n 0, 1)) ∧ (decode cX11_market 62 = .ok (.getfield 42, 3)) ∧ (decode cX11_market 65 = .ok (.getfield 96, 3)) ∧ (decode cX11_market 68 = .ok (.iconst (-1), 1)) ∧ (decode cX11_market 69 = .ok (.invokevirtual 99, 3)) ∧ (decode cX11_market 72 = .ok (.iload_n 3, 1)) ∧ (decode cX11_market 73 = .ok (.ireturn, 1)) := by decide +kernel
theorem dX11_market_58 : decode cX11_market 58 = .ok (.getfield 35, 3) := bdX11_market_58.1
theorem dX11_market_61 : decode cX11_market 61 = .ok (.aload_n 0, 1) := bdX11_market_58.2.1
theorem dX11_market_62 : decode cX11_market 62 = .ok (.getfield 42, 3) := bdX11_market_58.2.2.1
theorem dX11_market_65 : decode cX11_market 65 = .ok (.getfield 96, 3) := bdX11_market_58.2.2.2.1
theorem dX11_market_68 : decode cX11_market 68 = .ok (.iconst (-1), 1) := bdX11_market_58.2.2.2.2.1
theorem dX11_market_69 : decode cX11_market 69 = .ok (.invokevirtual 99, 3) := bdX11_market_58.2.2.2.2.2.1
theorem dX11_market_72 : decode cX11_market 72 = .ok (.iload_n 3, 1) := bdX11_market_58.2.2.2.2.2.2.1
theorem dX11_market_73 : decode cX11_market 73 = .ok (.ireturn, 1) := bdX11_market_58.2.2.2.2.2.2.2
theorem bdX11_years_0 : (decode cX11_years 0 = .ok (.iload_n 1, 1)) ∧ (decode cX11_years 1 = .ok (.iconst 1, 1)) ∧ (decode cX11_years 2 = .ok (.if_icmp .lt 27, 3)) ∧ (decode cX11_years 5 = .ok (.iload_n 1, 1)) ∧ (decode cX11_years 6 = .ok (.bipush 30, 2)) ∧ (decode cX11_years 8 = .ok (.if_icmp .gt 21, 3)) ∧ (decode cX11_years 11 = .ok (.aload_n 0, 1)) ∧ (decode cX11_years 12 = .ok (.getfield 42, 3)) ∧ (decode cX11_years 15 = .ok (.getfield 96, 3)) ∧ (decode cX11_years 18 = .ok (.getfield 119, 3)) := by decide +kernel
theorem dX11_years_0 : decode cX11_years 0 = .ok (.iload_n 1, 1) := bdX11_years_0.1
theorem dX11_years_1 : decode cX11_years 1 = .ok (.iconst 1, 1) := bdX11_years_0.2.1
theorem dX11_years_2 : decode cX11_years 2 = .ok (.if_icmp .lt 27, 3) := bdX11_years_0.2.2.1
theorem dX11_years_5 : decode cX11_years 5 = .ok (.iload_n 1, 1) := bdX11_years_0.2.2.2.1
theorem dX11_years_6 : decode cX11_years 6 = .ok (.bipush 30, 2) := bdX11_years_0.2.2.2.2.1
theorem dX11_years_8 : decode cX11_years 8 = .ok (.if_icmp .gt 21, 3) := bdX11_years_0.2.2.2.2.2.1
theorem dX11_years_11 : decode cX11_years 11 = .ok (.aload_n 0, 1) := bdX11_years_0.2.2.2.2.2.2.1
theorem dX11_years_12 : decode cX11_years 12 = .ok (.getfield 42, 3) := bdX11_years_0.2.2.2.2.2.2.2.1
theorem dX11_years_15 : decode cX11_years 15 = .ok (.getfield 96, 3) := bdX11_years_0.2.2.2.2.2.2.2.2.1
theorem dX11_years_18 : decode cX11_years 18 = .ok (.getfield 119, 3) := bdX11_years_0.2.2.2.2.2.2.2.2.2
theorem bdX11_years_21 : (decode cX11_years 21 = .ok (.iload_n 1, 1)) ∧ (decode cX11_years 22 = .ok (.iadd, 1)) ∧ (decode cX11_years 23 = .ok (.sipush 999, 3)) ∧ (decode cX11_years 26 = .ok (.if_icmp .le 9, 3)) ∧ (decode cX11_years 29 = .ok (.aload_n 0, 1)) ∧ (decode cX11_years 30 = .ok (.iconst 1, 1)) ∧ (decode cX11_years 31 = .ok (.invokevirtual 233, 3)) ∧ (decode cX11_years 34 = .ok (.ireturn, 1)) ∧ (decode cX11_years 35 = .ok (.aload_n 0, 1)) ∧ (decode cX11_years 36 = .ok (.invokevirtual 224, 3)) := by decide +kernel
theorem dX11_years_21 : decode cX11_years 21 = .ok (.iload_n 1, 1) := bdX11_years_21.1
theorem dX11_years_22 : decode cX11_years 22 = .ok (.iadd, 1) := bdX11_years_21.2.1
theorem dX11_years_23 : decode cX11_years 23 = .ok (.sipush 999, 3) := bdX11_years_21.2.2.1
theorem dX11_years_26 : decode cX11_years 26 = .ok (.if_icmp .le 9, 3) := bdX11_years_21.2.2.2.1
theorem dX11_years_29 : decode cX11_years 29 = .ok (.aload_n 0, 1) := bdX11_years_21.2.2.2.2.1
theorem dX11_years_30 : decode cX11_years 30 = .ok (.iconst 1, 1) := bdX11_years_21.2.2.2.2.2.1
theorem dX11_years_31 : decode cX11_years 31 = .ok (.invokevirtual 233, 3) := bdX11_years_21.2.2.2.2.2.2.1
theorem dX11_years_34 : decode cX11_years 34 = .ok (.ireturn, 1) := bdX11_years_21.2.2.2.2.2.2.2.1
theorem dX11_years_35 : decode cX11_years 35 = .ok (.aload_n 0, 1) := bdX11_years_21.2.2.2.2.2.2.2.2.1
theorem dX11_years_36 : decode cX11_years 36 = .ok (.invokevirtual 224, 3) := bdX11_years_21.2.2.2.2.2.2.2.2.2
theorem bdX11_years_39 : (decode cX11_years 39 = .ok (.aload_n 0, 1)) ∧ (decode cX11_years 40 = .ok (.getfield 35, 3)) ∧ (decode cX11_years 43 = .ok (.aload_n 0, 1)) ∧ (decode cX11_years 44 = .ok (.getfield 42, 3)) ∧ (decode cX11_years 47 = .ok (.getfield 96, 3)) ∧ (decode cX11_years 50 = .ok (.iload_n 1, 1)) ∧ (decode cX11_years 51 = .ok (.invokevirtual 240, 3)) ∧ (decode cX11_years 54 = .ok (.aload_n 0, 1)) ∧ (decode cX11_years 55 = .ok (.getfield 42, 3)) ∧ (decode cX11_years 58 = .ok (.getfield 96, 3)) := by decide +kernel
theorem dX11_years_39 : decode cX11_years 39 = .ok (.aload_n 0, 1) := bdX11_years_39.1
theorem dX11_years_40 : decode cX11_years 40 = .ok (.getfield 35, 3) := bdX11_years_39.2.1
theorem dX11_years_43 : decode cX11_years 43 = .ok (.aload_n 0, 1) := bdX11_years_39.2.2.1
theorem dX11_years_44 : decode cX11_years 44 = .ok (.getfield 42, 3) := bdX11_years_39.2.2.2.1
theorem dX11_years_47 : decode cX11_years 47 = .ok (.getfield 96, 3) := bdX11_years_39.2.2.2.2.1
theorem dX11_years_50 : decode cX11_years 50 = .ok (.iload_n 1, 1) := bdX11_years_39.2.2.2.2.2.1
theorem dX11_years_51 : decode cX11_years 51 = .ok (.invokevirtual 240, 3) := bdX11_years_39.2.2.2.2.2.2.1
theorem dX11_years_54 : decode cX11_years 54 = .ok (.aload_n 0, 1) := bdX11_years_39.2.2.2.2.2.2.2.1
theorem dX11_years_55 : decode cX11_years 55 = .ok (.getfield 42, 3) := bdX11_years_39.2.2.2.2.2.2.2.2.1
theorem dX11_years_58 : decode cX11_years 58 = .ok (.getfield 96, 3) := bdX11_years_39.2.2.2.2.2.2.2.2.2
theorem bdX11_years_61 : (decode cX11_years 61 = .ok (.getfield 119, 3)) ∧ (decode cX11_years 64 = .ok (.ireturn, 1)) := by decide +kernel
theorem dX11_years_61 : decode cX11_years 61 = .ok (.getfield 119, 3) := bdX11_years_61.1
theorem dX11_years_64 : decode cX11_years 64 = .ok (.ireturn, 1) := bdX11_years_61.2
theorem bdX11_undo_0 : (decode cX11_undo 0 = .ok (.aload_n 0, 1)) ∧ (decode cX11_undo 1 = .ok (.getfield 42, 3)) ∧ (decode cX11_undo 4 = .ok (.getfield 138, 3)) ∧ (decode cX11_undo 7 = .ok (.getfield 142, 3)) ∧ (decode cX11_undo 10 = .ok (.ifCond .ne 5, 3)) ∧ (decode cX11_undo 13 = .ok (.iconst (-1), 1)) ∧ (decode cX11_undo 14 = .ok (.ireturn, 1)) ∧ (decode cX11_undo 15 = .ok (.aload_n 0, 1)) ∧ (decode cX11_undo 16 = .ok (.getfield 42, 3)) ∧ (decode cX11_undo 19 = .ok (.getfield 138, 3)) := by decide +kernel
theorem dX11_undo_0 : decode cX11_undo 0 = .ok (.aload_n 0, 1) := bdX11_undo_0.1
theorem dX11_undo_1 : decode cX11_undo 1 = .ok (.getfield 42, 3) := bdX11_undo_0.2.1
theorem dX11_undo_4 : decode cX11_undo 4 = .ok (.getfield 138, 3) := bdX11_undo_0.2.2.1
theorem dX11_undo_7 : decode cX11_undo 7 = .ok (.getfield 142, 3) := bdX11_undo_0.2.2.2.1
theorem dX11_undo_10 : decode cX11_undo 10 = .ok (.ifCond .ne 5, 3) := bdX11_undo_0.2.2.2.2.1
theorem dX11_undo_13 : decode cX11_undo 13 = .ok (.iconst (-1), 1) := bdX11_undo_0.2.2.2.2.2.1
theorem dX11_undo_14 : decode cX11_undo 14 = .ok (.ireturn, 1) := bdX11_undo_0.2.2.2.2.2.2.1
theorem dX11_undo_15 : decode cX11_undo 15 = .ok (.aload_n 0, 1) := bdX11_undo_0.2.2.2.2.2.2.2.1
theorem dX11_undo_16 : decode cX11_undo 16 = .ok (.getfield 42, 3) := bdX11_undo_0.2.2.2.2.2.2.2.2.1
theorem dX11_undo_19 : decode cX11_undo 19 = .ok (.getfield 138, 3) := bdX11_undo_0.2.2.2.2.2.2.2.2.2
theorem bdX11_undo_22 : (decode cX11_undo 22 = .ok (.aload_n 0, 1)) ∧ (decode cX11_undo 23 = .ok (.getfield 42, 3)) ∧ (decode cX11_undo 26 = .ok (.getfield 96, 3)) ∧ (decode cX11_undo 29 = .ok (.invokevirtual 243, 3)) ∧ (decode cX11_undo 32 = .ok (.aload_n 0, 1)) ∧ (decode cX11_undo 33 = .ok (.getfield 42, 3)) ∧ (decode cX11_undo 36 = .ok (.getfield 138, 3)) ∧ (decode cX11_undo 39 = .ok (.getfield 142, 3)) ∧ (decode cX11_undo 42 = .ok (.ireturn, 1)) := by decide +kernel
theorem dX11_undo_22 : decode cX11_undo 22 = .ok (.aload_n 0, 1) := bdX11_undo_22.1
theorem dX11_undo_23 : decode cX11_undo 23 = .ok (.getfield 42, 3) := bdX11_undo_22.2.1
theorem dX11_undo_26 : decode cX11_undo 26 = .ok (.getfield 96, 3) := bdX11_undo_22.2.2.1
theorem dX11_undo_29 : decode cX11_undo 29 = .ok (.invokevirtual 243, 3) := bdX11_undo_22.2.2.2.1
theorem dX11_undo_32 : decode cX11_undo 32 = .ok (.aload_n 0, 1) := bdX11_undo_22.2.2.2.2.1
theorem dX11_undo_33 : decode cX11_undo 33 = .ok (.getfield 42, 3) := bdX11_undo_22.2.2.2.2.2.1
theorem dX11_undo_36 : decode cX11_undo 36 = .ok (.getfield 138, 3) := bdX11_undo_22.2.2.2.2.2.2.1
theorem dX11_undo_39 : decode cX11_undo 39 = .ok (.getfield 142, 3) := bdX11_undo_22.2.2.2.2.2.2.2.1
theorem dX11_undo_42 : decode cX11_undo 42 = .ok (.ireturn, 1) := bdX11_undo_22.2.2.2.2.2.2.2.2
theorem bdX11_keepAct_0 : (decode cX11_keepAct 0 = .ok (.aload_n 0, 1)) ∧ (decode cX11_keepAct 1 = .ok (.getfield 42, 3)) ∧ (decode cX11_keepAct 4 = .ok (.getfield 138, 3)) ∧ (decode cX11_keepAct 7 = .ok (.aload_n 0, 1)) ∧ (decode cX11_keepAct 8 = .ok (.getfield 42, 3)) ∧ (decode cX11_keepAct 11 = .ok (.getfield 96, 3)) ∧ (decode cX11_keepAct 14 = .ok (.invokevirtual 247, 3)) ∧ (decode cX11_keepAct 17 = .ok (.return_, 1)) := by decide +kernel
theorem dX11_keepAct_0 : decode cX11_keepAct 0 = .ok (.aload_n 0, 1) := bdX11_keepAct_0.1
theorem dX11_keepAct_1 : decode cX11_keepAct 1 = .ok (.getfield 42, 3) := bdX11_keepAct_0.2.1
theorem dX11_keepAct_4 : decode cX11_keepAct 4 = .ok (.getfield 138, 3) := bdX11_keepAct_0.2.2.1
theorem dX11_keepAct_7 : decode cX11_keepAct 7 = .ok (.aload_n 0, 1) := bdX11_keepAct_0.2.2.2.1
theorem dX11_keepAct_8 : decode cX11_keepAct 8 = .ok (.getfield 42, 3) := bdX11_keepAct_0.2.2.2.2.1
theorem dX11_keepAct_11 : decode cX11_keepAct 11 = .ok (.getfield 96, 3) := bdX11_keepAct_0.2.2.2.2.2.1
theorem dX11_keepAct_14 : decode cX11_keepAct 14 = .ok (.invokevirtual 247, 3) := bdX11_keepAct_0.2.2.2.2.2.2.1
theorem dX11_keepAct_17 : decode cX11_keepAct 17 = .ok (.return_, 1) := bdX11_keepAct_0.2.2.2.2.2.2.2
theorem bdX11_refuse_0 : (decode cX11_refuse 0 = .ok (.aload_n 0, 1)) ∧ (decode cX11_refuse 1 = .ok (.getfield 42, 3)) ∧ (decode cX11_refuse 4 = .ok (.getfield 86, 3)) ∧ (decode cX11_refuse 7 = .ok (.iload_n 1, 1)) ∧ (decode cX11_refuse 8 = .ok (.dup2, 1)) ∧ (decode cX11_refuse 9 = .ok (.iaload, 1)) ∧ (decode cX11_refuse 10 = .ok (.iconst 1, 1)) ∧ (decode cX11_refuse 11 = .ok (.iadd, 1)) ∧ (decode cX11_refuse 12 = .ok (.iastore, 1)) ∧ (decode cX11_refuse 13 = .ok (.iconst (-1), 1)) := by decide +kernel
theorem dX11_refuse_0 : decode cX11_refuse 0 = .ok (.aload_n 0, 1) := bdX11_refuse_0.1
theorem dX11_refuse_1 : decode cX11_refuse 1 = .ok (.getfield 42, 3) := bdX11_refuse_0.2.1
theorem dX11_refuse_4 : decode cX11_refuse 4 = .ok (.getfield 86, 3) := bdX11_refuse_0.2.2.1
theorem dX11_refuse_7 : decode cX11_refuse 7 = .ok (.iload_n 1, 1) := bdX11_refuse_0.2.2.2.1
theorem dX11_refuse_8 : decode cX11_refuse 8 = .ok (.dup2, 1) := bdX11_refuse_0.2.2.2.2.1
theorem dX11_refuse_9 : decode cX11_refuse 9 = .ok (.iaload, 1) := bdX11_refuse_0.2.2.2.2.2.1
theorem dX11_refuse_10 : decode cX11_refuse 10 = .ok (.iconst 1, 1) := bdX11_refuse_0.2.2.2.2.2.2.1
theorem dX11_refuse_11 : decode cX11_refuse 11 = .ok (.iadd, 1) := bdX11_refuse_0.2.2.2.2.2.2.2.1
theorem dX11_refuse_12 : decode cX11_refuse 12 = .ok (.iastore, 1) := bdX11_refuse_0.2.2.2.2.2.2.2.2.1
theorem dX11_refuse_13 : decode cX11_refuse 13 = .ok (.iconst (-1), 1) := bdX11_refuse_0.2.2.2.2.2.2.2.2.2
theorem bdX11_refuse_14 : (decode cX11_refuse 14 = .ok (.ireturn, 1)) := by decide +kernel
theorem dX11_refuse_14 : decode cX11_refuse 14 = .ok (.ireturn, 1) := bdX11_refuse_14
theorem bdX11_ring_0 : (decode cX11_ring 0 = .ok (.aload_n 0, 1)) ∧ (decode cX11_ring 1 = .ok (.invokevirtual 250, 3)) ∧ (decode cX11_ring 4 = .ok (.aload_n 0, 1)) ∧ (decode cX11_ring 5 = .ok (.getfield 35, 3)) ∧ (decode cX11_ring 8 = .ok (.getfield 89, 3)) ∧ (decode cX11_ring 11 = .ok (.getfield 106, 3)) ∧ (decode cX11_ring 14 = .ok (.istore_n 1, 1)) ∧ (decode cX11_ring 15 = .ok (.iconst 2, 1)) ∧ (decode cX11_ring 16 = .ok (.istore_n 2, 1)) ∧ (decode cX11_ring 17 = .ok (.iload_n 2, 1)) := by decide +kernel
theorem dX11_ring_0 : decode cX11_ring 0 = .ok (.aload_n 0, 1) := bdX11_ring_0.1
theorem dX11_ring_1 : decode cX11_ring 1 = .ok (.invokevirtual 250, 3) := bdX11_ring_0.2.1
theorem dX11_ring_4 : decode cX11_ring 4 = .ok (.aload_n 0, 1) := bdX11_ring_0.2.2.1
theorem dX11_ring_5 : decode cX11_ring 5 = .ok (.getfield 35, 3) := bdX11_ring_0.2.2.2.1
theorem dX11_ring_8 : decode cX11_ring 8 = .ok (.getfield 89, 3) := bdX11_ring_0.2.2.2.2.1
theorem dX11_ring_11 : decode cX11_ring 11 = .ok (.getfield 106, 3) := bdX11_ring_0.2.2.2.2.2.1
theorem dX11_ring_14 : decode cX11_ring 14 = .ok (.istore_n 1, 1) := bdX11_ring_0.2.2.2.2.2.2.1
theorem dX11_ring_15 : decode cX11_ring 15 = .ok (.iconst 2, 1) := bdX11_ring_0.2.2.2.2.2.2.2.1
theorem dX11_ring_16 : decode cX11_ring 16 = .ok (.istore_n 2, 1) := bdX11_ring_0.2.2.2.2.2.2.2.2.1
theorem dX11_ring_17 : decode cX11_ring 17 = .ok (.iload_n 2, 1) := bdX11_ring_0.2.2.2.2.2.2.2.2.2
theorem bdX11_ring_18 : (decode cX11_ring 18 = .ok (.iload_n 1, 1)) ∧ (decode cX11_ring 19 = .ok (.if_icmp .gt 33, 3)) ∧ (decode cX11_ring 22 = .ok (.iconst 0, 1)) ∧ (decode cX11_ring 23 = .ok (.istore_n 3, 1)) ∧ (decode cX11_ring 24 = .ok (.iload_n 3, 1)) ∧ (decode cX11_ring 25 = .ok (.iload_n 1, 1)) ∧ (decode cX11_ring 26 = .ok (.if_icmp .ge 20, 3)) ∧ (decode cX11_ring 29 = .ok (.aload_n 0, 1)) ∧ (decode cX11_ring 30 = .ok (.iload_n 3, 1)) ∧ (decode cX11_ring 31 = .ok (.iload_n 2, 1)) := by decide +kernel
theorem dX11_ring_18 : decode cX11_ring 18 = .ok (.iload_n 1, 1) := bdX11_ring_18.1
theorem dX11_ring_19 : decode cX11_ring 19 = .ok (.if_icmp .gt 33, 3) := bdX11_ring_18.2.1
theorem dX11_ring_22 : decode cX11_ring 22 = .ok (.iconst 0, 1) := bdX11_ring_18.2.2.1
theorem dX11_ring_23 : decode cX11_ring 23 = .ok (.istore_n 3, 1) := bdX11_ring_18.2.2.2.1
theorem dX11_ring_24 : decode cX11_ring 24 = .ok (.iload_n 3, 1) := bdX11_ring_18.2.2.2.2.1
theorem dX11_ring_25 : decode cX11_ring 25 = .ok (.iload_n 1, 1) := bdX11_ring_18.2.2.2.2.2.1
theorem dX11_ring_26 : decode cX11_ring 26 = .ok (.if_icmp .ge 20, 3) := bdX11_ring_18.2.2.2.2.2.2.1
theorem dX11_ring_29 : decode cX11_ring 29 = .ok (.aload_n 0, 1) := bdX11_ring_18.2.2.2.2.2.2.2.1
theorem dX11_ring_30 : decode cX11_ring 30 = .ok (.iload_n 3, 1) := bdX11_ring_18.2.2.2.2.2.2.2.2.1
theorem dX11_ring_31 : decode cX11_ring 31 = .ok (.iload_n 2, 1) := bdX11_ring_18.2.2.2.2.2.2.2.2.2
theorem bdX11_ring_32 : (decode cX11_ring 32 = .ok (.invokevirtual 253, 3)) ∧ (decode cX11_ring 35 = .ok (.ifCond .eq 5, 3)) ∧ (decode cX11_ring 38 = .ok (.iload_n 2, 1)) ∧ (decode cX11_ring 39 = .ok (.ireturn, 1)) ∧ (decode cX11_ring 40 = .ok (.iinc 3 1, 3)) ∧ (decode cX11_ring 43 = .ok (.goto (-19), 3)) ∧ (decode cX11_ring 46 = .ok (.iinc 2 1, 3)) ∧ (decode cX11_ring 49 = .ok (.goto (-32), 3)) ∧ (decode cX11_ring 52 = .ok (.iconst (-1), 1)) ∧ (decode cX11_ring 53 = .ok (.ireturn, 1)) := by decide +kernel
theorem dX11_ring_32 : decode cX11_ring 32 = .ok (.invokevirtual 253, 3) := bdX11_ring_32.1
theorem dX11_ring_35 : decode cX11_ring 35 = .ok (.ifCond .eq 5, 3) := bdX11_ring_32.2.1
theorem dX11_ring_38 : decode cX11_ring 38 = .ok (.iload_n 2, 1) := bdX11_ring_32.2.2.1
theorem dX11_ring_39 : decode cX11_ring 39 = .ok (.ireturn, 1) := bdX11_ring_32.2.2.2.1
theorem dX11_ring_40 : decode cX11_ring 40 = .ok (.iinc 3 1, 3) := bdX11_ring_32.2.2.2.2.1
theorem dX11_ring_43 : decode cX11_ring 43 = .ok (.goto (-19), 3) := bdX11_ring_32.2.2.2.2.2.1
theorem dX11_ring_46 : decode cX11_ring 46 = .ok (.iinc 2 1, 3) := bdX11_ring_32.2.2.2.2.2.2.1
theorem dX11_ring_49 : decode cX11_ring 49 = .ok (.goto (-32), 3) := bdX11_ring_32.2.2.2.2.2.2.2.1
theorem dX11_ring_52 : decode cX11_ring 52 = .ok (.iconst (-1), 1) := bdX11_ring_32.2.2.2.2.2.2.2.2.1
theorem dX11_ring_53 : decode cX11_ring 53 = .ok (.ireturn, 1) := bdX11_ring_32.2.2.2.2.2.2.2.2.2
theorem bdX11_envied_0 : (decode cX11_envied 0 = .ok (.aload_n 0, 1)) ∧ (decode cX11_envied 1 = .ok (.iload_n 1, 1)) ∧ (decode cX11_envied 2 = .ok (.iconst 2, 1)) ∧ (decode cX11_envied 3 = .ok (.invokevirtual 257, 3)) ∧ (decode cX11_envied 6 = .ok (.aload_n 0, 1)) ∧ (decode cX11_envied 7 = .ok (.invokevirtual 250, 3)) ∧ (decode cX11_envied 10 = .ok (.iconst (-1), 1)) ∧ (decode cX11_envied 11 = .ok (.istore_n 2, 1)) ∧ (decode cX11_envied 12 = .ok (.iconst 0, 1)) ∧ (decode cX11_envied 13 = .ok (.istore_n 3, 1)) := by decide +kernel
theorem dX11_envied_0 : decode cX11_envied 0 = .ok (.aload_n 0, 1) := bdX11_envied_0.1
theorem dX11_envied_1 : decode cX11_envied 1 = .ok (.iload_n 1, 1) := bdX11_envied_0.2.1
theorem dX11_envied_2 : decode cX11_envied 2 = .ok (.iconst 2, 1) := bdX11_envied_0.2.2.1
theorem dX11_envied_3 : decode cX11_envied 3 = .ok (.invokevirtual 257, 3) := bdX11_envied_0.2.2.2.1
theorem dX11_envied_6 : decode cX11_envied 6 = .ok (.aload_n 0, 1) := bdX11_envied_0.2.2.2.2.1
theorem dX11_envied_7 : decode cX11_envied 7 = .ok (.invokevirtual 250, 3) := bdX11_envied_0.2.2.2.2.2.1
theorem dX11_envied_10 : decode cX11_envied 10 = .ok (.iconst (-1), 1) := bdX11_envied_0.2.2.2.2.2.2.1
theorem dX11_envied_11 : decode cX11_envied 11 = .ok (.istore_n 2, 1) := bdX11_envied_0.2.2.2.2.2.2.2.1
theorem dX11_envied_12 : decode cX11_envied 12 = .ok (.iconst 0, 1) := bdX11_envied_0.2.2.2.2.2.2.2.2.1
theorem dX11_envied_13 : decode cX11_envied 13 = .ok (.istore_n 3, 1) := bdX11_envied_0.2.2.2.2.2.2.2.2.2
theorem bdX11_envied_14 : (decode cX11_envied 14 = .ok (.iconst 0, 1)) ∧ (decode cX11_envied 15 = .ok (.istore 4, 2)) ∧ (decode cX11_envied 17 = .ok (.iload 4, 2)) ∧ (decode cX11_envied 19 = .ok (.aload_n 0, 1)) ∧ (decode cX11_envied 20 = .ok (.getfield 35, 3)) ∧ (decode cX11_envied 23 = .ok (.getfield 89, 3)) ∧ (decode cX11_envied 26 = .ok (.getfield 106, 3)) ∧ (decode cX11_envied 29 = .ok (.if_icmp .ge 29, 3)) ∧ (decode cX11_envied 32 = .ok (.aload_n 0, 1)) ∧ (decode cX11_envied 33 = .ok (.iload 4, 2)) := by decide +kernel
theorem dX11_envied_14 : decode cX11_envied 14 = .ok (.iconst 0, 1) := bdX11_envied_14.1
theorem dX11_envied_15 : decode cX11_envied 15 = .ok (.istore 4, 2) := bdX11_envied_14.2.1
theorem dX11_envied_17 : decode cX11_envied 17 = .ok (.iload 4, 2) := bdX11_envied_14.2.2.1
theorem dX11_envied_19 : decode cX11_envied 19 = .ok (.aload_n 0, 1) := bdX11_envied_14.2.2.2.1
theorem dX11_envied_20 : decode cX11_envied 20 = .ok (.getfield 35, 3) := bdX11_envied_14.2.2.2.2.1
theorem dX11_envied_23 : decode cX11_envied 23 = .ok (.getfield 89, 3) := bdX11_envied_14.2.2.2.2.2.1
theorem dX11_envied_26 : decode cX11_envied 26 = .ok (.getfield 106, 3) := bdX11_envied_14.2.2.2.2.2.2.1
theorem dX11_envied_29 : decode cX11_envied 29 = .ok (.if_icmp .ge 29, 3) := bdX11_envied_14.2.2.2.2.2.2.2.1
theorem dX11_envied_32 : decode cX11_envied 32 = .ok (.aload_n 0, 1) := bdX11_envied_14.2.2.2.2.2.2.2.2.1
theorem dX11_envied_33 : decode cX11_envied 33 = .ok (.iload 4, 2) := bdX11_envied_14.2.2.2.2.2.2.2.2.2
theorem bdX11_envied_35 : (decode cX11_envied 35 = .ok (.invokevirtual 260, 3)) ∧ (decode cX11_envied 38 = .ok (.istore 5, 2)) ∧ (decode cX11_envied 40 = .ok (.iload 5, 2)) ∧ (decode cX11_envied 42 = .ok (.iload_n 3, 1)) ∧ (decode cX11_envied 43 = .ok (.if_icmp .le 9, 3)) ∧ (decode cX11_envied 46 = .ok (.iload 5, 2)) ∧ (decode cX11_envied 48 = .ok (.istore_n 3, 1)) ∧ (decode cX11_envied 49 = .ok (.iload 4, 2)) ∧ (decode cX11_envied 51 = .ok (.istore_n 2, 1)) ∧ (decode cX11_envied 52 = .ok (.iinc 4 1, 3)) := by decide +kernel
theorem dX11_envied_35 : decode cX11_envied 35 = .ok (.invokevirtual 260, 3) := bdX11_envied_35.1
theorem dX11_envied_38 : decode cX11_envied 38 = .ok (.istore 5, 2) := bdX11_envied_35.2.1
theorem dX11_envied_40 : decode cX11_envied 40 = .ok (.iload 5, 2) := bdX11_envied_35.2.2.1
theorem dX11_envied_42 : decode cX11_envied 42 = .ok (.iload_n 3, 1) := bdX11_envied_35.2.2.2.1
theorem dX11_envied_43 : decode cX11_envied 43 = .ok (.if_icmp .le 9, 3) := bdX11_envied_35.2.2.2.2.1
theorem dX11_envied_46 : decode cX11_envied 46 = .ok (.iload 5, 2) := bdX11_envied_35.2.2.2.2.2.1
theorem dX11_envied_48 : decode cX11_envied 48 = .ok (.istore_n 3, 1) := bdX11_envied_35.2.2.2.2.2.2.1
theorem dX11_envied_49 : decode cX11_envied 49 = .ok (.iload 4, 2) := bdX11_envied_35.2.2.2.2.2.2.2.1
theorem dX11_envied_51 : decode cX11_envied 51 = .ok (.istore_n 2, 1) := bdX11_envied_35.2.2.2.2.2.2.2.2.1
theorem dX11_envied_52 : decode cX11_envied 52 = .ok (.iinc 4 1, 3) := bdX11_envied_35.2.2.2.2.2.2.2.2.2
theorem bdX11_envied_55 : (decode cX11_envied 55 = .ok (.goto (-38), 3)) ∧ (decode cX11_envied 58 = .ok (.iload_n 1, 1)) ∧ (decode cX11_envied 59 = .ok (.ifCond .ne 7, 3)) ∧ (decode cX11_envied 62 = .ok (.iload_n 2, 1)) ∧ (decode cX11_envied 63 = .ok (.goto 4, 3)) ∧ (decode cX11_envied 66 = .ok (.iload_n 3, 1)) ∧ (decode cX11_envied 67 = .ok (.ireturn, 1)) := by decide +kernel
theorem dX11_envied_55 : decode cX11_envied 55 = .ok (.goto (-38), 3) := bdX11_envied_55.1
theorem dX11_envied_58 : decode cX11_envied 58 = .ok (.iload_n 1, 1) := bdX11_envied_55.2.1
theorem dX11_envied_59 : decode cX11_envied 59 = .ok (.ifCond .ne 7, 3) := bdX11_envied_55.2.2.1
theorem dX11_envied_62 : decode cX11_envied 62 = .ok (.iload_n 2, 1) := bdX11_envied_55.2.2.2.1
theorem dX11_envied_63 : decode cX11_envied 63 = .ok (.goto 4, 3) := bdX11_envied_55.2.2.2.2.1
theorem dX11_envied_66 : decode cX11_envied 66 = .ok (.iload_n 3, 1) := bdX11_envied_55.2.2.2.2.2.1
theorem dX11_envied_67 : decode cX11_envied 67 = .ok (.ireturn, 1) := bdX11_envied_55.2.2.2.2.2.2
theorem bdX11_findEnvy_0 : (decode cX11_findEnvy 0 = .ok (.iconst 0, 1)) ∧ (decode cX11_findEnvy 1 = .ok (.istore_n 1, 1)) ∧ (decode cX11_findEnvy 2 = .ok (.iload_n 1, 1)) ∧ (decode cX11_findEnvy 3 = .ok (.aload_n 0, 1)) ∧ (decode cX11_findEnvy 4 = .ok (.getfield 35, 3)) ∧ (decode cX11_findEnvy 7 = .ok (.getfield 89, 3)) ∧ (decode cX11_findEnvy 10 = .ok (.getfield 106, 3)) ∧ (decode cX11_findEnvy 13 = .ok (.if_icmp .ge 30, 3)) ∧ (decode cX11_findEnvy 16 = .ok (.aload_n 0, 1)) ∧ (decode cX11_findEnvy 17 = .ok (.getfield 63, 3)) := by decide +kernel
theorem dX11_findEnvy_0 : decode cX11_findEnvy 0 = .ok (.iconst 0, 1) := bdX11_findEnvy_0.1
theorem dX11_findEnvy_1 : decode cX11_findEnvy 1 = .ok (.istore_n 1, 1) := bdX11_findEnvy_0.2.1
theorem dX11_findEnvy_2 : decode cX11_findEnvy 2 = .ok (.iload_n 1, 1) := bdX11_findEnvy_0.2.2.1
theorem dX11_findEnvy_3 : decode cX11_findEnvy 3 = .ok (.aload_n 0, 1) := bdX11_findEnvy_0.2.2.2.1
theorem dX11_findEnvy_4 : decode cX11_findEnvy 4 = .ok (.getfield 35, 3) := bdX11_findEnvy_0.2.2.2.2.1
theorem dX11_findEnvy_7 : decode cX11_findEnvy 7 = .ok (.getfield 89, 3) := bdX11_findEnvy_0.2.2.2.2.2.1
theorem dX11_findEnvy_10 : decode cX11_findEnvy 10 = .ok (.getfield 106, 3) := bdX11_findEnvy_0.2.2.2.2.2.2.1
theorem dX11_findEnvy_13 : decode cX11_findEnvy 13 = .ok (.if_icmp .ge 30, 3) := bdX11_findEnvy_0.2.2.2.2.2.2.2.1
theorem dX11_findEnvy_16 : decode cX11_findEnvy 16 = .ok (.aload_n 0, 1) := bdX11_findEnvy_0.2.2.2.2.2.2.2.2.1
theorem dX11_findEnvy_17 : decode cX11_findEnvy 17 = .ok (.getfield 63, 3) := bdX11_findEnvy_0.2.2.2.2.2.2.2.2.2
theorem bdX11_findEnvy_20 : (decode cX11_findEnvy 20 = .ok (.iload_n 1, 1)) ∧ (decode cX11_findEnvy 21 = .ok (.aload_n 0, 1)) ∧ (decode cX11_findEnvy 22 = .ok (.getfield 35, 3)) ∧ (decode cX11_findEnvy 25 = .ok (.aload_n 0, 1)) ∧ (decode cX11_findEnvy 26 = .ok (.getfield 42, 3)) ∧ (decode cX11_findEnvy 29 = .ok (.getfield 96, 3)) ∧ (decode cX11_findEnvy 32 = .ok (.iload_n 1, 1)) ∧ (decode cX11_findEnvy 33 = .ok (.invokevirtual 180, 3)) ∧ (decode cX11_findEnvy 36 = .ok (.iastore, 1)) ∧ (decode cX11_findEnvy 37 = .ok (.iinc 1 1, 3)) := by decide +kernel
theorem dX11_findEnvy_20 : decode cX11_findEnvy 20 = .ok (.iload_n 1, 1) := bdX11_findEnvy_20.1
theorem dX11_findEnvy_21 : decode cX11_findEnvy 21 = .ok (.aload_n 0, 1) := bdX11_findEnvy_20.2.1
theorem dX11_findEnvy_22 : decode cX11_findEnvy 22 = .ok (.getfield 35, 3) := bdX11_findEnvy_20.2.2.1
theorem dX11_findEnvy_25 : decode cX11_findEnvy 25 = .ok (.aload_n 0, 1) := bdX11_findEnvy_20.2.2.2.1
theorem dX11_findEnvy_26 : decode cX11_findEnvy 26 = .ok (.getfield 42, 3) := bdX11_findEnvy_20.2.2.2.2.1
theorem dX11_findEnvy_29 : decode cX11_findEnvy 29 = .ok (.getfield 96, 3) := bdX11_findEnvy_20.2.2.2.2.2.1
theorem dX11_findEnvy_32 : decode cX11_findEnvy 32 = .ok (.iload_n 1, 1) := bdX11_findEnvy_20.2.2.2.2.2.2.1
theorem dX11_findEnvy_33 : decode cX11_findEnvy 33 = .ok (.invokevirtual 180, 3) := bdX11_findEnvy_20.2.2.2.2.2.2.2.1
theorem dX11_findEnvy_36 : decode cX11_findEnvy 36 = .ok (.iastore, 1) := bdX11_findEnvy_20.2.2.2.2.2.2.2.2.1
theorem dX11_findEnvy_37 : decode cX11_findEnvy 37 = .ok (.iinc 1 1, 3) := bdX11_findEnvy_20.2.2.2.2.2.2.2.2.2
theorem bdX11_findEnvy_40 : (decode cX11_findEnvy 40 = .ok (.goto (-38), 3)) ∧ (decode cX11_findEnvy 43 = .ok (.return_, 1)) := by decide +kernel
theorem dX11_findEnvy_40 : decode cX11_findEnvy 40 = .ok (.goto (-38), 3) := bdX11_findEnvy_40.1
theorem dX11_findEnvy_43 : decode cX11_findEnvy 43 = .ok (.return_, 1) := bdX11_findEnvy_40.2
theorem bdX11_comesBack_0 : (decode cX11_comesBack 0 = .ok (.iconst 1, 1)) ∧ (decode cX11_comesBack 1 = .ok (.iload_n 1, 1)) ∧ (decode cX11_comesBack 2 = .ok (.ishl, 1)) ∧ (decode cX11_comesBack 3 = .ok (.istore_n 3, 1)) ∧ (decode cX11_comesBack 4 = .ok (.iconst 0, 1)) ∧ (decode cX11_comesBack 5 = .ok (.istore 4, 2)) ∧ (decode cX11_comesBack 7 = .ok (.iload 4, 2)) ∧ (decode cX11_comesBack 9 = .ok (.iload_n 2, 1)) ∧ (decode cX11_comesBack 10 = .ok (.if_icmp .ge 60, 3)) ∧ (decode cX11_comesBack 13 = .ok (.iconst 0, 1)) := by decide +kernel
theorem dX11_comesBack_0 : decode cX11_comesBack 0 = .ok (.iconst 1, 1) := bdX11_comesBack_0.1
theorem dX11_comesBack_1 : decode cX11_comesBack 1 = .ok (.iload_n 1, 1) := bdX11_comesBack_0.2.1
theorem dX11_comesBack_2 : decode cX11_comesBack 2 = .ok (.ishl, 1) := bdX11_comesBack_0.2.2.1
theorem dX11_comesBack_3 : decode cX11_comesBack 3 = .ok (.istore_n 3, 1) := bdX11_comesBack_0.2.2.2.1
theorem dX11_comesBack_4 : decode cX11_comesBack 4 = .ok (.iconst 0, 1) := bdX11_comesBack_0.2.2.2.2.1
theorem dX11_comesBack_5 : decode cX11_comesBack 5 = .ok (.istore 4, 2) := bdX11_comesBack_0.2.2.2.2.2.1
theorem dX11_comesBack_7 : decode cX11_comesBack 7 = .ok (.iload 4, 2) := bdX11_comesBack_0.2.2.2.2.2.2.1
theorem dX11_comesBack_9 : decode cX11_comesBack 9 = .ok (.iload_n 2, 1) := bdX11_comesBack_0.2.2.2.2.2.2.2.1
theorem dX11_comesBack_10 : decode cX11_comesBack 10 = .ok (.if_icmp .ge 60, 3) := bdX11_comesBack_0.2.2.2.2.2.2.2.2.1
theorem dX11_comesBack_13 : decode cX11_comesBack 13 = .ok (.iconst 0, 1) := bdX11_comesBack_0.2.2.2.2.2.2.2.2.2
theorem bdX11_comesBack_14 : (decode cX11_comesBack 14 = .ok (.istore 5, 2)) ∧ (decode cX11_comesBack 16 = .ok (.iconst 0, 1)) ∧ (decode cX11_comesBack 17 = .ok (.istore 6, 2)) ∧ (decode cX11_comesBack 19 = .ok (.iload 6, 2)) ∧ (decode cX11_comesBack 21 = .ok (.aload_n 0, 1)) ∧ (decode cX11_comesBack 22 = .ok (.getfield 35, 3)) ∧ (decode cX11_comesBack 25 = .ok (.getfield 89, 3)) ∧ (decode cX11_comesBack 28 = .ok (.getfield 106, 3)) ∧ (decode cX11_comesBack 31 = .ok (.if_icmp .ge 30, 3)) ∧ (decode cX11_comesBack 34 = .ok (.iload_n 3, 1)) := by decide +kernel
theorem dX11_comesBack_14 : decode cX11_comesBack 14 = .ok (.istore 5, 2) := bdX11_comesBack_14.1
theorem dX11_comesBack_16 : decode cX11_comesBack 16 = .ok (.iconst 0, 1) := bdX11_comesBack_14.2.1
theorem dX11_comesBack_17 : decode cX11_comesBack 17 = .ok (.istore 6, 2) := bdX11_comesBack_14.2.2.1
theorem dX11_comesBack_19 : decode cX11_comesBack 19 = .ok (.iload 6, 2) := bdX11_comesBack_14.2.2.2.1
theorem dX11_comesBack_21 : decode cX11_comesBack 21 = .ok (.aload_n 0, 1) := bdX11_comesBack_14.2.2.2.2.1
theorem dX11_comesBack_22 : decode cX11_comesBack 22 = .ok (.getfield 35, 3) := bdX11_comesBack_14.2.2.2.2.2.1
theorem dX11_comesBack_25 : decode cX11_comesBack 25 = .ok (.getfield 89, 3) := bdX11_comesBack_14.2.2.2.2.2.2.1
theorem dX11_comesBack_28 : decode cX11_comesBack 28 = .ok (.getfield 106, 3) := bdX11_comesBack_14.2.2.2.2.2.2.2.1
theorem dX11_comesBack_31 : decode cX11_comesBack 31 = .ok (.if_icmp .ge 30, 3) := bdX11_comesBack_14.2.2.2.2.2.2.2.2.1
theorem dX11_comesBack_34 : decode cX11_comesBack 34 = .ok (.iload_n 3, 1) := bdX11_comesBack_14.2.2.2.2.2.2.2.2.2
theorem bdX11_comesBack_35 : (decode cX11_comesBack 35 = .ok (.iload 6, 2)) ∧ (decode cX11_comesBack 37 = .ok (.ishr, 1)) ∧ (decode cX11_comesBack 38 = .ok (.iconst 1, 1)) ∧ (decode cX11_comesBack 39 = .ok (.iand, 1)) ∧ (decode cX11_comesBack 40 = .ok (.ifCond .eq 15, 3)) ∧ (decode cX11_comesBack 43 = .ok (.iload 5, 2)) ∧ (decode cX11_comesBack 45 = .ok (.aload_n 0, 1)) ∧ (decode cX11_comesBack 46 = .ok (.getfield 63, 3)) ∧ (decode cX11_comesBack 49 = .ok (.iload 6, 2)) ∧ (decode cX11_comesBack 51 = .ok (.iaload, 1)) := by decide +kernel
theorem dX11_comesBack_35 : decode cX11_comesBack 35 = .ok (.iload 6, 2) := bdX11_comesBack_35.1
theorem dX11_comesBack_37 : decode cX11_comesBack 37 = .ok (.ishr, 1) := bdX11_comesBack_35.2.1
theorem dX11_comesBack_38 : decode cX11_comesBack 38 = .ok (.iconst 1, 1) := bdX11_comesBack_35.2.2.1
theorem dX11_comesBack_39 : decode cX11_comesBack 39 = .ok (.iand, 1) := bdX11_comesBack_35.2.2.2.1
theorem dX11_comesBack_40 : decode cX11_comesBack 40 = .ok (.ifCond .eq 15, 3) := bdX11_comesBack_35.2.2.2.2.1
theorem dX11_comesBack_43 : decode cX11_comesBack 43 = .ok (.iload 5, 2) := bdX11_comesBack_35.2.2.2.2.2.1
theorem dX11_comesBack_45 : decode cX11_comesBack 45 = .ok (.aload_n 0, 1) := bdX11_comesBack_35.2.2.2.2.2.2.1
theorem dX11_comesBack_46 : decode cX11_comesBack 46 = .ok (.getfield 63, 3) := bdX11_comesBack_35.2.2.2.2.2.2.2.1
theorem dX11_comesBack_49 : decode cX11_comesBack 49 = .ok (.iload 6, 2) := bdX11_comesBack_35.2.2.2.2.2.2.2.2.1
theorem dX11_comesBack_51 : decode cX11_comesBack 51 = .ok (.iaload, 1) := bdX11_comesBack_35.2.2.2.2.2.2.2.2.2
theorem bdX11_comesBack_52 : (decode cX11_comesBack 52 = .ok (.ior, 1)) ∧ (decode cX11_comesBack 53 = .ok (.istore 5, 2)) ∧ (decode cX11_comesBack 55 = .ok (.iinc 6 1, 3)) ∧ (decode cX11_comesBack 58 = .ok (.goto (-39), 3)) ∧ (decode cX11_comesBack 61 = .ok (.iload 5, 2)) ∧ (decode cX11_comesBack 63 = .ok (.istore_n 3, 1)) ∧ (decode cX11_comesBack 64 = .ok (.iinc 4 1, 3)) ∧ (decode cX11_comesBack 67 = .ok (.goto (-60), 3)) ∧ (decode cX11_comesBack 70 = .ok (.iload_n 3, 1)) ∧ (decode cX11_comesBack 71 = .ok (.iload_n 1, 1)) := by decide +kernel
theorem dX11_comesBack_52 : decode cX11_comesBack 52 = .ok (.ior, 1) := bdX11_comesBack_52.1
theorem dX11_comesBack_53 : decode cX11_comesBack 53 = .ok (.istore 5, 2) := bdX11_comesBack_52.2.1
theorem dX11_comesBack_55 : decode cX11_comesBack 55 = .ok (.iinc 6 1, 3) := bdX11_comesBack_52.2.2.1
theorem dX11_comesBack_58 : decode cX11_comesBack 58 = .ok (.goto (-39), 3) := bdX11_comesBack_52.2.2.2.1
theorem dX11_comesBack_61 : decode cX11_comesBack 61 = .ok (.iload 5, 2) := bdX11_comesBack_52.2.2.2.2.1
theorem dX11_comesBack_63 : decode cX11_comesBack 63 = .ok (.istore_n 3, 1) := bdX11_comesBack_52.2.2.2.2.2.1
theorem dX11_comesBack_64 : decode cX11_comesBack 64 = .ok (.iinc 4 1, 3) := bdX11_comesBack_52.2.2.2.2.2.2.1
theorem dX11_comesBack_67 : decode cX11_comesBack 67 = .ok (.goto (-60), 3) := bdX11_comesBack_52.2.2.2.2.2.2.2.1
theorem dX11_comesBack_70 : decode cX11_comesBack 70 = .ok (.iload_n 3, 1) := bdX11_comesBack_52.2.2.2.2.2.2.2.2.1
theorem dX11_comesBack_71 : decode cX11_comesBack 71 = .ok (.iload_n 1, 1) := bdX11_comesBack_52.2.2.2.2.2.2.2.2.2
theorem bdX11_comesBack_72 : (decode cX11_comesBack 72 = .ok (.ishr, 1)) ∧ (decode cX11_comesBack 73 = .ok (.iconst 1, 1)) ∧ (decode cX11_comesBack 74 = .ok (.iand, 1)) ∧ (decode cX11_comesBack 75 = .ok (.ifCond .eq 7, 3)) ∧ (decode cX11_comesBack 78 = .ok (.iconst 1, 1)) ∧ (decode cX11_comesBack 79 = .ok (.goto 4, 3)) ∧ (decode cX11_comesBack 82 = .ok (.iconst 0, 1)) ∧ (decode cX11_comesBack 83 = .ok (.ireturn, 1)) := by decide +kernel
theorem dX11_comesBack_72 : decode cX11_comesBack 72 = .ok (.ishr, 1) := bdX11_comesBack_72.1
theorem dX11_comesBack_73 : decode cX11_comesBack 73 = .ok (.iconst 1, 1) := bdX11_comesBack_72.2.1
theorem dX11_comesBack_74 : decode cX11_comesBack 74 = .ok (.iand, 1) := bdX11_comesBack_72.2.2.1
theorem dX11_comesBack_75 : decode cX11_comesBack 75 = .ok (.ifCond .eq 7, 3) := bdX11_comesBack_72.2.2.2.1
theorem dX11_comesBack_78 : decode cX11_comesBack 78 = .ok (.iconst 1, 1) := bdX11_comesBack_72.2.2.2.2.1
theorem dX11_comesBack_79 : decode cX11_comesBack 79 = .ok (.goto 4, 3) := bdX11_comesBack_72.2.2.2.2.2.1
theorem dX11_comesBack_82 : decode cX11_comesBack 82 = .ok (.iconst 0, 1) := bdX11_comesBack_72.2.2.2.2.2.2.1
theorem dX11_comesBack_83 : decode cX11_comesBack 83 = .ok (.ireturn, 1) := bdX11_comesBack_72.2.2.2.2.2.2.2
theorem bdX11_howManyEnvy_0 : (decode cX11_howManyEnvy 0 = .ok (.iconst 0, 1)) ∧ (decode cX11_howManyEnvy 1 = .ok (.istore_n 2, 1)) ∧ (decode cX11_howManyEnvy 2 = .ok (.iconst 0, 1)) ∧ (decode cX11_howManyEnvy 3 = .ok (.istore_n 3, 1)) ∧ (decode cX11_howManyEnvy 4 = .ok (.iload_n 3, 1)) ∧ (decode cX11_howManyEnvy 5 = .ok (.aload_n 0, 1)) ∧ (decode cX11_howManyEnvy 6 = .ok (.getfield 35, 3)) ∧ (decode cX11_howManyEnvy 9 = .ok (.getfield 89, 3)) ∧ (decode cX11_howManyEnvy 12 = .ok (.getfield 106, 3)) ∧ (decode cX11_howManyEnvy 15 = .ok (.if_icmp .ge 22, 3)) := by decide +kernel
theorem dX11_howManyEnvy_0 : decode cX11_howManyEnvy 0 = .ok (.iconst 0, 1) := bdX11_howManyEnvy_0.1
theorem dX11_howManyEnvy_1 : decode cX11_howManyEnvy 1 = .ok (.istore_n 2, 1) := bdX11_howManyEnvy_0.2.1
theorem dX11_howManyEnvy_2 : decode cX11_howManyEnvy 2 = .ok (.iconst 0, 1) := bdX11_howManyEnvy_0.2.2.1
theorem dX11_howManyEnvy_3 : decode cX11_howManyEnvy 3 = .ok (.istore_n 3, 1) := bdX11_howManyEnvy_0.2.2.2.1
theorem dX11_howManyEnvy_4 : decode cX11_howManyEnvy 4 = .ok (.iload_n 3, 1) := bdX11_howManyEnvy_0.2.2.2.2.1
theorem dX11_howManyEnvy_5 : decode cX11_howManyEnvy 5 = .ok (.aload_n 0, 1) := bdX11_howManyEnvy_0.2.2.2.2.2.1
theorem dX11_howManyEnvy_6 : decode cX11_howManyEnvy 6 = .ok (.getfield 35, 3) := bdX11_howManyEnvy_0.2.2.2.2.2.2.1
theorem dX11_howManyEnvy_9 : decode cX11_howManyEnvy 9 = .ok (.getfield 89, 3) := bdX11_howManyEnvy_0.2.2.2.2.2.2.2.1
theorem dX11_howManyEnvy_12 : decode cX11_howManyEnvy 12 = .ok (.getfield 106, 3) := bdX11_howManyEnvy_0.2.2.2.2.2.2.2.2.1
theorem dX11_howManyEnvy_15 : decode cX11_howManyEnvy 15 = .ok (.if_icmp .ge 22, 3) := bdX11_howManyEnvy_0.2.2.2.2.2.2.2.2.2
theorem bdX11_howManyEnvy_18 : (decode cX11_howManyEnvy 18 = .ok (.iload_n 2, 1)) ∧ (decode cX11_howManyEnvy 19 = .ok (.aload_n 0, 1)) ∧ (decode cX11_howManyEnvy 20 = .ok (.getfield 63, 3)) ∧ (decode cX11_howManyEnvy 23 = .ok (.iload_n 3, 1)) ∧ (decode cX11_howManyEnvy 24 = .ok (.iaload, 1)) ∧ (decode cX11_howManyEnvy 25 = .ok (.iload_n 1, 1)) ∧ (decode cX11_howManyEnvy 26 = .ok (.ishr, 1)) ∧ (decode cX11_howManyEnvy 27 = .ok (.iconst 1, 1)) ∧ (decode cX11_howManyEnvy 28 = .ok (.iand, 1)) ∧ (decode cX11_howManyEnvy 29 = .ok (.iadd, 1)) := by decide +kernel
theorem dX11_howManyEnvy_18 : decode cX11_howManyEnvy 18 = .ok (.iload_n 2, 1) := bdX11_howManyEnvy_18.1
theorem dX11_howManyEnvy_19 : decode cX11_howManyEnvy 19 = .ok (.aload_n 0, 1) := bdX11_howManyEnvy_18.2.1
theorem dX11_howManyEnvy_20 : decode cX11_howManyEnvy 20 = .ok (.getfield 63, 3) := bdX11_howManyEnvy_18.2.2.1
theorem dX11_howManyEnvy_23 : decode cX11_howManyEnvy 23 = .ok (.iload_n 3, 1) := bdX11_howManyEnvy_18.2.2.2.1
theorem dX11_howManyEnvy_24 : decode cX11_howManyEnvy 24 = .ok (.iaload, 1) := bdX11_howManyEnvy_18.2.2.2.2.1
theorem dX11_howManyEnvy_25 : decode cX11_howManyEnvy 25 = .ok (.iload_n 1, 1) := bdX11_howManyEnvy_18.2.2.2.2.2.1
theorem dX11_howManyEnvy_26 : decode cX11_howManyEnvy 26 = .ok (.ishr, 1) := bdX11_howManyEnvy_18.2.2.2.2.2.2.1
theorem dX11_howManyEnvy_27 : decode cX11_howManyEnvy 27 = .ok (.iconst 1, 1) := bdX11_howManyEnvy_18.2.2.2.2.2.2.2.1
theorem dX11_howManyEnvy_28 : decode cX11_howManyEnvy 28 = .ok (.iand, 1) := bdX11_howManyEnvy_18.2.2.2.2.2.2.2.2.1
theorem dX11_howManyEnvy_29 : decode cX11_howManyEnvy 29 = .ok (.iadd, 1) := bdX11_howManyEnvy_18.2.2.2.2.2.2.2.2.2
theorem bdX11_howManyEnvy_30 : (decode cX11_howManyEnvy 30 = .ok (.istore_n 2, 1)) ∧ (decode cX11_howManyEnvy 31 = .ok (.iinc 3 1, 3)) ∧ (decode cX11_howManyEnvy 34 = .ok (.goto (-30), 3)) ∧ (decode cX11_howManyEnvy 37 = .ok (.iload_n 2, 1)) ∧ (decode cX11_howManyEnvy 38 = .ok (.ireturn, 1)) := by decide +kernel
theorem dX11_howManyEnvy_30 : decode cX11_howManyEnvy 30 = .ok (.istore_n 2, 1) := bdX11_howManyEnvy_30.1
theorem dX11_howManyEnvy_31 : decode cX11_howManyEnvy 31 = .ok (.iinc 3 1, 3) := bdX11_howManyEnvy_30.2.1
theorem dX11_howManyEnvy_34 : decode cX11_howManyEnvy 34 = .ok (.goto (-30), 3) := bdX11_howManyEnvy_30.2.2.1
theorem dX11_howManyEnvy_37 : decode cX11_howManyEnvy 37 = .ok (.iload_n 2, 1) := bdX11_howManyEnvy_30.2.2.2.1
theorem dX11_howManyEnvy_38 : decode cX11_howManyEnvy 38 = .ok (.ireturn, 1) := bdX11_howManyEnvy_30.2.2.2.2
theorem bdX11_best_0 : (decode cX11_best 0 = .ok (.iload_n 1, 1)) ∧ (decode cX11_best 1 = .ok (.iconst (-1), 1)) ∧ (decode cX11_best 2 = .ok (.if_icmp .eq 8, 3)) ∧ (decode cX11_best 5 = .ok (.aload_n 0, 1)) ∧ (decode cX11_best 6 = .ok (.iload_n 1, 1)) ∧ (decode cX11_best 7 = .ok (.invokevirtual 157, 3)) ∧ (decode cX11_best 10 = .ok (.aload_n 0, 1)) ∧ (decode cX11_best 11 = .ok (.getfield 59, 3)) ∧ (decode cX11_best 14 = .ok (.aload_n 0, 1)) ∧ (decode cX11_best 15 = .ok (.getfield 35, 3)) := by decide +kernel
theorem dX11_best_0 : decode cX11_best 0 = .ok (.iload_n 1, 1) := bdX11_best_0.1
theorem dX11_best_1 : decode cX11_best 1 = .ok (.iconst (-1), 1) := bdX11_best_0.2.1
theorem dX11_best_2 : decode cX11_best 2 = .ok (.if_icmp .eq 8, 3) := bdX11_best_0.2.2.1
theorem dX11_best_5 : decode cX11_best 5 = .ok (.aload_n 0, 1) := bdX11_best_0.2.2.2.1
theorem dX11_best_6 : decode cX11_best 6 = .ok (.iload_n 1, 1) := bdX11_best_0.2.2.2.2.1
theorem dX11_best_7 : decode cX11_best 7 = .ok (.invokevirtual 157, 3) := bdX11_best_0.2.2.2.2.2.1
theorem dX11_best_10 : decode cX11_best 10 = .ok (.aload_n 0, 1) := bdX11_best_0.2.2.2.2.2.2.1
theorem dX11_best_11 : decode cX11_best 11 = .ok (.getfield 59, 3) := bdX11_best_0.2.2.2.2.2.2.2.1
theorem dX11_best_14 : decode cX11_best 14 = .ok (.aload_n 0, 1) := bdX11_best_0.2.2.2.2.2.2.2.2.1
theorem dX11_best_15 : decode cX11_best 15 = .ok (.getfield 35, 3) := bdX11_best_0.2.2.2.2.2.2.2.2.2
theorem bdX11_best_18 : (decode cX11_best 18 = .ok (.aload_n 0, 1)) ∧ (decode cX11_best 19 = .ok (.getfield 42, 3)) ∧ (decode cX11_best 22 = .ok (.getfield 96, 3)) ∧ (decode cX11_best 25 = .ok (.invokevirtual 263, 3)) ∧ (decode cX11_best 28 = .ok (.aload_n 0, 1)) ∧ (decode cX11_best 29 = .ok (.getfield 59, 3)) ∧ (decode cX11_best 32 = .ok (.invokevirtual 267, 3)) ∧ (decode cX11_best 35 = .ok (.lstore_n 2, 1)) ∧ (decode cX11_best 36 = .ok (.iload_n 1, 1)) ∧ (decode cX11_best 37 = .ok (.iconst (-1), 1)) := by decide +kernel
theorem dX11_best_18 : decode cX11_best 18 = .ok (.aload_n 0, 1) := bdX11_best_18.1
theorem dX11_best_19 : decode cX11_best 19 = .ok (.getfield 42, 3) := bdX11_best_18.2.1
theorem dX11_best_22 : decode cX11_best 22 = .ok (.getfield 96, 3) := bdX11_best_18.2.2.1
theorem dX11_best_25 : decode cX11_best 25 = .ok (.invokevirtual 263, 3) := bdX11_best_18.2.2.2.1
theorem dX11_best_28 : decode cX11_best 28 = .ok (.aload_n 0, 1) := bdX11_best_18.2.2.2.2.1
theorem dX11_best_29 : decode cX11_best 29 = .ok (.getfield 59, 3) := bdX11_best_18.2.2.2.2.2.1
theorem dX11_best_32 : decode cX11_best 32 = .ok (.invokevirtual 267, 3) := bdX11_best_18.2.2.2.2.2.2.1
theorem dX11_best_35 : decode cX11_best 35 = .ok (.lstore_n 2, 1) := bdX11_best_18.2.2.2.2.2.2.2.1
theorem dX11_best_36 : decode cX11_best 36 = .ok (.iload_n 1, 1) := bdX11_best_18.2.2.2.2.2.2.2.2.1
theorem dX11_best_37 : decode cX11_best 37 = .ok (.iconst (-1), 1) := bdX11_best_18.2.2.2.2.2.2.2.2.2
theorem bdX11_best_38 : (decode cX11_best 38 = .ok (.if_icmp .ne 7, 3)) ∧ (decode cX11_best 41 = .ok (.lload_n 2, 1)) ∧ (decode cX11_best 42 = .ok (.goto 12, 3)) ∧ (decode cX11_best 45 = .ok (.aload_n 0, 1)) ∧ (decode cX11_best 46 = .ok (.getfield 59, 3)) ∧ (decode cX11_best 49 = .ok (.iload_n 1, 1)) ∧ (decode cX11_best 50 = .ok (.invokevirtual 271, 3)) ∧ (decode cX11_best 53 = .ok (.i2l, 1)) ∧ (decode cX11_best 54 = .ok (.lreturn, 1)) := by decide +kernel
theorem dX11_best_38 : decode cX11_best 38 = .ok (.if_icmp .ne 7, 3) := bdX11_best_38.1
theorem dX11_best_41 : decode cX11_best 41 = .ok (.lload_n 2, 1) := bdX11_best_38.2.1
theorem dX11_best_42 : decode cX11_best 42 = .ok (.goto 12, 3) := bdX11_best_38.2.2.1
theorem dX11_best_45 : decode cX11_best 45 = .ok (.aload_n 0, 1) := bdX11_best_38.2.2.2.1
theorem dX11_best_46 : decode cX11_best 46 = .ok (.getfield 59, 3) := bdX11_best_38.2.2.2.2.1
theorem dX11_best_49 : decode cX11_best 49 = .ok (.iload_n 1, 1) := bdX11_best_38.2.2.2.2.2.1
theorem dX11_best_50 : decode cX11_best 50 = .ok (.invokevirtual 271, 3) := bdX11_best_38.2.2.2.2.2.2.1
theorem dX11_best_53 : decode cX11_best 53 = .ok (.i2l, 1) := bdX11_best_38.2.2.2.2.2.2.2.1
theorem dX11_best_54 : decode cX11_best 54 = .ok (.lreturn, 1) := bdX11_best_38.2.2.2.2.2.2.2.2
theorem bdX11_fairest_0 : (decode cX11_fairest 0 = .ok (.aload_n 0, 1)) ∧ (decode cX11_fairest 1 = .ok (.iload_n 1, 1)) ∧ (decode cX11_fairest 2 = .ok (.iconst 2, 1)) ∧ (decode cX11_fairest 3 = .ok (.invokevirtual 257, 3)) ∧ (decode cX11_fairest 6 = .ok (.aload_n 0, 1)) ∧ (decode cX11_fairest 7 = .ok (.getfield 35, 3)) ∧ (decode cX11_fairest 10 = .ok (.getfield 89, 3)) ∧ (decode cX11_fairest 13 = .ok (.getfield 106, 3)) ∧ (decode cX11_fairest 16 = .ok (.ifCond .eq 26, 3)) ∧ (decode cX11_fairest 19 = .ok (.aload_n 0, 1)) := by decide +kernel
theorem dX11_fairest_0 : decode cX11_fairest 0 = .ok (.aload_n 0, 1) := bdX11_fairest_0.1
theorem dX11_fairest_1 : decode cX11_fairest 1 = .ok (.iload_n 1, 1) := bdX11_fairest_0.2.1
theorem dX11_fairest_2 : decode cX11_fairest 2 = .ok (.iconst 2, 1) := bdX11_fairest_0.2.2.1
theorem dX11_fairest_3 : decode cX11_fairest 3 = .ok (.invokevirtual 257, 3) := bdX11_fairest_0.2.2.2.1
theorem dX11_fairest_6 : decode cX11_fairest 6 = .ok (.aload_n 0, 1) := bdX11_fairest_0.2.2.2.2.1
theorem dX11_fairest_7 : decode cX11_fairest 7 = .ok (.getfield 35, 3) := bdX11_fairest_0.2.2.2.2.2.1
theorem dX11_fairest_10 : decode cX11_fairest 10 = .ok (.getfield 89, 3) := bdX11_fairest_0.2.2.2.2.2.2.1
theorem dX11_fairest_13 : decode cX11_fairest 13 = .ok (.getfield 106, 3) := bdX11_fairest_0.2.2.2.2.2.2.2.1
theorem dX11_fairest_16 : decode cX11_fairest 16 = .ok (.ifCond .eq 26, 3) := bdX11_fairest_0.2.2.2.2.2.2.2.2.1
theorem dX11_fairest_19 : decode cX11_fairest 19 = .ok (.aload_n 0, 1) := bdX11_fairest_0.2.2.2.2.2.2.2.2.2
theorem bdX11_fairest_20 : (decode cX11_fairest 20 = .ok (.getfield 35, 3)) ∧ (decode cX11_fairest 23 = .ok (.getfield 89, 3)) ∧ (decode cX11_fairest 26 = .ok (.getfield 109, 3)) ∧ (decode cX11_fairest 29 = .ok (.aload_n 0, 1)) ∧ (decode cX11_fairest 30 = .ok (.getfield 35, 3)) ∧ (decode cX11_fairest 33 = .ok (.getfield 89, 3)) ∧ (decode cX11_fairest 36 = .ok (.getfield 106, 3)) ∧ (decode cX11_fairest 39 = .ok (.if_icmp .ge 5, 3)) ∧ (decode cX11_fairest 42 = .ok (.iconst 0, 1)) ∧ (decode cX11_fairest 43 = .ok (.ireturn, 1)) := by decide +kernel
theorem dX11_fairest_20 : decode cX11_fairest 20 = .ok (.getfield 35, 3) := bdX11_fairest_20.1
theorem dX11_fairest_23 : decode cX11_fairest 23 = .ok (.getfield 89, 3) := bdX11_fairest_20.2.1
theorem dX11_fairest_26 : decode cX11_fairest 26 = .ok (.getfield 109, 3) := bdX11_fairest_20.2.2.1
theorem dX11_fairest_29 : decode cX11_fairest 29 = .ok (.aload_n 0, 1) := bdX11_fairest_20.2.2.2.1
theorem dX11_fairest_30 : decode cX11_fairest 30 = .ok (.getfield 35, 3) := bdX11_fairest_20.2.2.2.2.1
theorem dX11_fairest_33 : decode cX11_fairest 33 = .ok (.getfield 89, 3) := bdX11_fairest_20.2.2.2.2.2.1
theorem dX11_fairest_36 : decode cX11_fairest 36 = .ok (.getfield 106, 3) := bdX11_fairest_20.2.2.2.2.2.2.1
theorem dX11_fairest_39 : decode cX11_fairest 39 = .ok (.if_icmp .ge 5, 3) := bdX11_fairest_20.2.2.2.2.2.2.2.1
theorem dX11_fairest_42 : decode cX11_fairest 42 = .ok (.iconst 0, 1) := bdX11_fairest_20.2.2.2.2.2.2.2.2.1
theorem dX11_fairest_43 : decode cX11_fairest 43 = .ok (.ireturn, 1) := bdX11_fairest_20.2.2.2.2.2.2.2.2.2
theorem bdX11_fairest_44 : (decode cX11_fairest 44 = .ok (.iload_n 1, 1)) ∧ (decode cX11_fairest 45 = .ok (.ifCond .ne 5, 3)) ∧ (decode cX11_fairest 48 = .ok (.iconst 1, 1)) ∧ (decode cX11_fairest 49 = .ok (.ireturn, 1)) ∧ (decode cX11_fairest 50 = .ok (.aload_n 0, 1)) ∧ (decode cX11_fairest 51 = .ok (.getfield 59, 3)) ∧ (decode cX11_fairest 54 = .ok (.aload_n 0, 1)) ∧ (decode cX11_fairest 55 = .ok (.getfield 35, 3)) ∧ (decode cX11_fairest 58 = .ok (.aload_n 0, 1)) ∧ (decode cX11_fairest 59 = .ok (.getfield 42, 3)) := by decide +kernel
theorem dX11_fairest_44 : decode cX11_fairest 44 = .ok (.iload_n 1, 1) := bdX11_fairest_44.1
theorem dX11_fairest_45 : decode cX11_fairest 45 = .ok (.ifCond .ne 5, 3) := bdX11_fairest_44.2.1
theorem dX11_fairest_48 : decode cX11_fairest 48 = .ok (.iconst 1, 1) := bdX11_fairest_44.2.2.1
theorem dX11_fairest_49 : decode cX11_fairest 49 = .ok (.ireturn, 1) := bdX11_fairest_44.2.2.2.1
theorem dX11_fairest_50 : decode cX11_fairest 50 = .ok (.aload_n 0, 1) := bdX11_fairest_44.2.2.2.2.1
theorem dX11_fairest_51 : decode cX11_fairest 51 = .ok (.getfield 59, 3) := bdX11_fairest_44.2.2.2.2.2.1
theorem dX11_fairest_54 : decode cX11_fairest 54 = .ok (.aload_n 0, 1) := bdX11_fairest_44.2.2.2.2.2.2.1
theorem dX11_fairest_55 : decode cX11_fairest 55 = .ok (.getfield 35, 3) := bdX11_fairest_44.2.2.2.2.2.2.2.1
theorem dX11_fairest_58 : decode cX11_fairest 58 = .ok (.aload_n 0, 1) := bdX11_fairest_44.2.2.2.2.2.2.2.2.1
theorem dX11_fairest_59 : decode cX11_fairest 59 = .ok (.getfield 42, 3) := bdX11_fairest_44.2.2.2.2.2.2.2.2.2
theorem bdX11_fairest_62 : (decode cX11_fairest 62 = .ok (.getfield 96, 3)) ∧ (decode cX11_fairest 65 = .ok (.invokevirtual 263, 3)) ∧ (decode cX11_fairest 68 = .ok (.aload_n 0, 1)) ∧ (decode cX11_fairest 69 = .ok (.getfield 59, 3)) ∧ (decode cX11_fairest 72 = .ok (.invokevirtual 274, 3)) ∧ (decode cX11_fairest 75 = .ok (.ireturn, 1)) := by decide +kernel
theorem dX11_fairest_62 : decode cX11_fairest 62 = .ok (.getfield 96, 3) := bdX11_fairest_62.1
theorem dX11_fairest_65 : decode cX11_fairest 65 = .ok (.invokevirtual 263, 3) := bdX11_fairest_62.2.1
theorem dX11_fairest_68 : decode cX11_fairest 68 = .ok (.aload_n 0, 1) := bdX11_fairest_62.2.2.1
theorem dX11_fairest_69 : decode cX11_fairest 69 = .ok (.getfield 59, 3) := bdX11_fairest_62.2.2.2.1
theorem dX11_fairest_72 : decode cX11_fairest 72 = .ok (.invokevirtual 274, 3) := bdX11_fairest_62.2.2.2.2.1
theorem dX11_fairest_75 : decode cX11_fairest 75 = .ok (.ireturn, 1) := bdX11_fairest_62.2.2.2.2.2
theorem bdX11_tribes_0 : (decode cX11_tribes 0 = .ok (.aload_n 0, 1)) ∧ (decode cX11_tribes 1 = .ok (.iconst 0, 1)) ∧ (decode cX11_tribes 2 = .ok (.iconst 0, 1)) ∧ (decode cX11_tribes 3 = .ok (.iconst 0, 1)) ∧ (decode cX11_tribes 4 = .ok (.iconst 0, 1)) ∧ (decode cX11_tribes 5 = .ok (.invokevirtual 277, 3)) ∧ (decode cX11_tribes 8 = .ok (.ireturn, 1)) := by decide +kernel
theorem dX11_tribes_0 : decode cX11_tribes 0 = .ok (.aload_n 0, 1) := bdX11_tribes_0.1
theorem dX11_tribes_1 : decode cX11_tribes 1 = .ok (.iconst 0, 1) := bdX11_tribes_0.2.1
theorem dX11_tribes_2 : decode cX11_tribes 2 = .ok (.iconst 0, 1) := bdX11_tribes_0.2.2.1
theorem dX11_tribes_3 : decode cX11_tribes 3 = .ok (.iconst 0, 1) := bdX11_tribes_0.2.2.2.1
theorem dX11_tribes_4 : decode cX11_tribes 4 = .ok (.iconst 0, 1) := bdX11_tribes_0.2.2.2.2.1
theorem dX11_tribes_5 : decode cX11_tribes 5 = .ok (.invokevirtual 277, 3) := bdX11_tribes_0.2.2.2.2.2.1
theorem dX11_tribes_8 : decode cX11_tribes 8 = .ok (.ireturn, 1) := bdX11_tribes_0.2.2.2.2.2.2
theorem bdX11_leastSpread_0 : (decode cX11_leastSpread 0 = .ok (.iload_n 1, 1)) ∧ (decode cX11_leastSpread 1 = .ok (.aload_n 0, 1)) ∧ (decode cX11_leastSpread 2 = .ok (.getfield 35, 3)) ∧ (decode cX11_leastSpread 5 = .ok (.getfield 89, 3)) ∧ (decode cX11_leastSpread 8 = .ok (.getfield 106, 3)) ∧ (decode cX11_leastSpread 11 = .ok (.if_icmp .ge 9, 3)) ∧ (decode cX11_leastSpread 14 = .ok (.iload_n 1, 1)) ∧ (decode cX11_leastSpread 15 = .ok (.bipush 8, 2)) ∧ (decode cX11_leastSpread 17 = .ok (.if_icmp .lt 25, 3)) ∧ (decode cX11_leastSpread 20 = .ok (.iload_n 2, 1)) := by decide +kernel
theorem dX11_leastSpread_0 : decode cX11_leastSpread 0 = .ok (.iload_n 1, 1) := bdX11_leastSpread_0.1
theorem dX11_leastSpread_1 : decode cX11_leastSpread 1 = .ok (.aload_n 0, 1) := bdX11_leastSpread_0.2.1
theorem dX11_leastSpread_2 : decode cX11_leastSpread 2 = .ok (.getfield 35, 3) := bdX11_leastSpread_0.2.2.1
theorem dX11_leastSpread_5 : decode cX11_leastSpread 5 = .ok (.getfield 89, 3) := bdX11_leastSpread_0.2.2.2.1
theorem dX11_leastSpread_8 : decode cX11_leastSpread 8 = .ok (.getfield 106, 3) := bdX11_leastSpread_0.2.2.2.2.1
theorem dX11_leastSpread_11 : decode cX11_leastSpread 11 = .ok (.if_icmp .ge 9, 3) := bdX11_leastSpread_0.2.2.2.2.2.1
theorem dX11_leastSpread_14 : decode cX11_leastSpread 14 = .ok (.iload_n 1, 1) := bdX11_leastSpread_0.2.2.2.2.2.2.1
theorem dX11_leastSpread_15 : decode cX11_leastSpread 15 = .ok (.bipush 8, 2) := bdX11_leastSpread_0.2.2.2.2.2.2.2.1
theorem dX11_leastSpread_17 : decode cX11_leastSpread 17 = .ok (.if_icmp .lt 25, 3) := bdX11_leastSpread_0.2.2.2.2.2.2.2.2.1
theorem dX11_leastSpread_20 : decode cX11_leastSpread 20 = .ok (.iload_n 2, 1) := bdX11_leastSpread_0.2.2.2.2.2.2.2.2.2
theorem bdX11_leastSpread_21 : (decode cX11_leastSpread 21 = .ok (.iload_n 3, 1)) ∧ (decode cX11_leastSpread 22 = .ok (.iload 4, 2)) ∧ (decode cX11_leastSpread 24 = .ok (.invokestatic 281, 3)) ∧ (decode cX11_leastSpread 27 = .ok (.invokestatic 281, 3)) ∧ (decode cX11_leastSpread 30 = .ok (.iload_n 2, 1)) ∧ (decode cX11_leastSpread 31 = .ok (.iload_n 3, 1)) ∧ (decode cX11_leastSpread 32 = .ok (.iload 4, 2)) ∧ (decode cX11_leastSpread 34 = .ok (.invokestatic 287, 3)) ∧ (decode cX11_leastSpread 37 = .ok (.invokestatic 287, 3)) ∧ (decode cX11_leastSpread 40 = .ok (.isub, 1)) := by decide +kernel
theorem dX11_leastSpread_21 : decode cX11_leastSpread 21 = .ok (.iload_n 3, 1) := bdX11_leastSpread_21.1
theorem dX11_leastSpread_22 : decode cX11_leastSpread 22 = .ok (.iload 4, 2) := bdX11_leastSpread_21.2.1
theorem dX11_leastSpread_24 : decode cX11_leastSpread 24 = .ok (.invokestatic 281, 3) := bdX11_leastSpread_21.2.2.1
theorem dX11_leastSpread_27 : decode cX11_leastSpread 27 = .ok (.invokestatic 281, 3) := bdX11_leastSpread_21.2.2.2.1
theorem dX11_leastSpread_30 : decode cX11_leastSpread 30 = .ok (.iload_n 2, 1) := bdX11_leastSpread_21.2.2.2.2.1
theorem dX11_leastSpread_31 : decode cX11_leastSpread 31 = .ok (.iload_n 3, 1) := bdX11_leastSpread_21.2.2.2.2.2.1
theorem dX11_leastSpread_32 : decode cX11_leastSpread 32 = .ok (.iload 4, 2) := bdX11_leastSpread_21.2.2.2.2.2.2.1
theorem dX11_leastSpread_34 : decode cX11_leastSpread 34 = .ok (.invokestatic 287, 3) := bdX11_leastSpread_21.2.2.2.2.2.2.2.1
theorem dX11_leastSpread_37 : decode cX11_leastSpread 37 = .ok (.invokestatic 287, 3) := bdX11_leastSpread_21.2.2.2.2.2.2.2.2.1
theorem dX11_leastSpread_40 : decode cX11_leastSpread 40 = .ok (.isub, 1) := bdX11_leastSpread_21.2.2.2.2.2.2.2.2.2
theorem bdX11_leastSpread_41 : (decode cX11_leastSpread 41 = .ok (.ireturn, 1)) ∧ (decode cX11_leastSpread 42 = .ok (.aload_n 0, 1)) ∧ (decode cX11_leastSpread 43 = .ok (.getfield 35, 3)) ∧ (decode cX11_leastSpread 46 = .ok (.aload_n 0, 1)) ∧ (decode cX11_leastSpread 47 = .ok (.getfield 42, 3)) ∧ (decode cX11_leastSpread 50 = .ok (.getfield 96, 3)) ∧ (decode cX11_leastSpread 53 = .ok (.iload_n 1, 1)) ∧ (decode cX11_leastSpread 54 = .ok (.invokevirtual 290, 3)) ∧ (decode cX11_leastSpread 57 = .ok (.istore 5, 2)) ∧ (decode cX11_leastSpread 59 = .ok (.aload_n 0, 1)) := by decide +kernel
theorem dX11_leastSpread_41 : decode cX11_leastSpread 41 = .ok (.ireturn, 1) := bdX11_leastSpread_41.1
theorem dX11_leastSpread_42 : decode cX11_leastSpread 42 = .ok (.aload_n 0, 1) := bdX11_leastSpread_41.2.1
theorem dX11_leastSpread_43 : decode cX11_leastSpread 43 = .ok (.getfield 35, 3) := bdX11_leastSpread_41.2.2.1
theorem dX11_leastSpread_46 : decode cX11_leastSpread 46 = .ok (.aload_n 0, 1) := bdX11_leastSpread_41.2.2.2.1
theorem dX11_leastSpread_47 : decode cX11_leastSpread 47 = .ok (.getfield 42, 3) := bdX11_leastSpread_41.2.2.2.2.1
theorem dX11_leastSpread_50 : decode cX11_leastSpread 50 = .ok (.getfield 96, 3) := bdX11_leastSpread_41.2.2.2.2.2.1
theorem dX11_leastSpread_53 : decode cX11_leastSpread 53 = .ok (.iload_n 1, 1) := bdX11_leastSpread_41.2.2.2.2.2.2.1
theorem dX11_leastSpread_54 : decode cX11_leastSpread 54 = .ok (.invokevirtual 290, 3) := bdX11_leastSpread_41.2.2.2.2.2.2.2.1
theorem dX11_leastSpread_57 : decode cX11_leastSpread 57 = .ok (.istore 5, 2) := bdX11_leastSpread_41.2.2.2.2.2.2.2.2.1
theorem dX11_leastSpread_59 : decode cX11_leastSpread 59 = .ok (.aload_n 0, 1) := bdX11_leastSpread_41.2.2.2.2.2.2.2.2.2
theorem bdX11_leastSpread_60 : (decode cX11_leastSpread 60 = .ok (.iload_n 1, 1)) ∧ (decode cX11_leastSpread 61 = .ok (.iconst 1, 1)) ∧ (decode cX11_leastSpread 62 = .ok (.iadd, 1)) ∧ (decode cX11_leastSpread 63 = .ok (.iload_n 2, 1)) ∧ (decode cX11_leastSpread 64 = .ok (.iload 5, 2)) ∧ (decode cX11_leastSpread 66 = .ok (.iadd, 1)) ∧ (decode cX11_leastSpread 67 = .ok (.iload_n 3, 1)) ∧ (decode cX11_leastSpread 68 = .ok (.iload 4, 2)) ∧ (decode cX11_leastSpread 70 = .ok (.invokevirtual 277, 3)) ∧ (decode cX11_leastSpread 73 = .ok (.istore 6, 2)) := by decide +kernel
theorem dX11_leastSpread_60 : decode cX11_leastSpread 60 = .ok (.iload_n 1, 1) := bdX11_leastSpread_60.1
theorem dX11_leastSpread_61 : decode cX11_leastSpread 61 = .ok (.iconst 1, 1) := bdX11_leastSpread_60.2.1
theorem dX11_leastSpread_62 : decode cX11_leastSpread 62 = .ok (.iadd, 1) := bdX11_leastSpread_60.2.2.1
theorem dX11_leastSpread_63 : decode cX11_leastSpread 63 = .ok (.iload_n 2, 1) := bdX11_leastSpread_60.2.2.2.1
theorem dX11_leastSpread_64 : decode cX11_leastSpread 64 = .ok (.iload 5, 2) := bdX11_leastSpread_60.2.2.2.2.1
theorem dX11_leastSpread_66 : decode cX11_leastSpread 66 = .ok (.iadd, 1) := bdX11_leastSpread_60.2.2.2.2.2.1
theorem dX11_leastSpread_67 : decode cX11_leastSpread 67 = .ok (.iload_n 3, 1) := bdX11_leastSpread_60.2.2.2.2.2.2.1
theorem dX11_leastSpread_68 : decode cX11_leastSpread 68 = .ok (.iload 4, 2) := bdX11_leastSpread_60.2.2.2.2.2.2.2.1
theorem dX11_leastSpread_70 : decode cX11_leastSpread 70 = .ok (.invokevirtual 277, 3) := bdX11_leastSpread_60.2.2.2.2.2.2.2.2.1
theorem dX11_leastSpread_73 : decode cX11_leastSpread 73 = .ok (.istore 6, 2) := bdX11_leastSpread_60.2.2.2.2.2.2.2.2.2
theorem bdX11_leastSpread_75 : (decode cX11_leastSpread 75 = .ok (.aload_n 0, 1)) ∧ (decode cX11_leastSpread 76 = .ok (.iload_n 1, 1)) ∧ (decode cX11_leastSpread 77 = .ok (.iconst 1, 1)) ∧ (decode cX11_leastSpread 78 = .ok (.iadd, 1)) ∧ (decode cX11_leastSpread 79 = .ok (.iload_n 2, 1)) ∧ (decode cX11_leastSpread 80 = .ok (.iload_n 3, 1)) ∧ (decode cX11_leastSpread 81 = .ok (.iload 5, 2)) ∧ (decode cX11_leastSpread 83 = .ok (.iadd, 1)) ∧ (decode cX11_leastSpread 84 = .ok (.iload 4, 2)) ∧ (decode cX11_leastSpread 86 = .ok (.invokevirtual 277, 3)) := by decide +kernel
theorem dX11_leastSpread_75 : decode cX11_leastSpread 75 = .ok (.aload_n 0, 1) := bdX11_leastSpread_75.1
theorem dX11_leastSpread_76 : decode cX11_leastSpread 76 = .ok (.iload_n 1, 1) := bdX11_leastSpread_75.2.1
theorem dX11_leastSpread_77 : decode cX11_leastSpread 77 = .ok (.iconst 1, 1) := bdX11_leastSpread_75.2.2.1
theorem dX11_leastSpread_78 : decode cX11_leastSpread 78 = .ok (.iadd, 1) := bdX11_leastSpread_75.2.2.2.1
theorem dX11_leastSpread_79 : decode cX11_leastSpread 79 = .ok (.iload_n 2, 1) := bdX11_leastSpread_75.2.2.2.2.1
theorem dX11_leastSpread_80 : decode cX11_leastSpread 80 = .ok (.iload_n 3, 1) := bdX11_leastSpread_75.2.2.2.2.2.1
theorem dX11_leastSpread_81 : decode cX11_leastSpread 81 = .ok (.iload 5, 2) := bdX11_leastSpread_75.2.2.2.2.2.2.1
theorem dX11_leastSpread_83 : decode cX11_leastSpread 83 = .ok (.iadd, 1) := bdX11_leastSpread_75.2.2.2.2.2.2.2.1
theorem dX11_leastSpread_84 : decode cX11_leastSpread 84 = .ok (.iload 4, 2) := bdX11_leastSpread_75.2.2.2.2.2.2.2.2.1
theorem dX11_leastSpread_86 : decode cX11_leastSpread 86 = .ok (.invokevirtual 277, 3) := bdX11_leastSpread_75.2.2.2.2.2.2.2.2.2
theorem bdX11_leastSpread_89 : (decode cX11_leastSpread 89 = .ok (.istore 7, 2)) ∧ (decode cX11_leastSpread 91 = .ok (.aload_n 0, 1)) ∧ (decode cX11_leastSpread 92 = .ok (.iload_n 1, 1)) ∧ (decode cX11_leastSpread 93 = .ok (.iconst 1, 1)) ∧ (decode cX11_leastSpread 94 = .ok (.iadd, 1)) ∧ (decode cX11_leastSpread 95 = .ok (.iload_n 2, 1)) ∧ (decode cX11_leastSpread 96 = .ok (.iload_n 3, 1)) ∧ (decode cX11_leastSpread 97 = .ok (.iload 4, 2)) ∧ (decode cX11_leastSpread 99 = .ok (.iload 5, 2)) ∧ (decode cX11_leastSpread 101 = .ok (.iadd, 1)) := by decide +kernel
theorem dX11_leastSpread_89 : decode cX11_leastSpread 89 = .ok (.istore 7, 2) := bdX11_leastSpread_89.1
theorem dX11_leastSpread_91 : decode cX11_leastSpread 91 = .ok (.aload_n 0, 1) := bdX11_leastSpread_89.2.1
theorem dX11_leastSpread_92 : decode cX11_leastSpread 92 = .ok (.iload_n 1, 1) := bdX11_leastSpread_89.2.2.1
theorem dX11_leastSpread_93 : decode cX11_leastSpread 93 = .ok (.iconst 1, 1) := bdX11_leastSpread_89.2.2.2.1
theorem dX11_leastSpread_94 : decode cX11_leastSpread 94 = .ok (.iadd, 1) := bdX11_leastSpread_89.2.2.2.2.1
theorem dX11_leastSpread_95 : decode cX11_leastSpread 95 = .ok (.iload_n 2, 1) := bdX11_leastSpread_89.2.2.2.2.2.1
theorem dX11_leastSpread_96 : decode cX11_leastSpread 96 = .ok (.iload_n 3, 1) := bdX11_leastSpread_89.2.2.2.2.2.2.1
theorem dX11_leastSpread_97 : decode cX11_leastSpread 97 = .ok (.iload 4, 2) := bdX11_leastSpread_89.2.2.2.2.2.2.2.1
theorem dX11_leastSpread_99 : decode cX11_leastSpread 99 = .ok (.iload 5, 2) := bdX11_leastSpread_89.2.2.2.2.2.2.2.2.1
theorem dX11_leastSpread_101 : decode cX11_leastSpread 101 = .ok (.iadd, 1) := bdX11_leastSpread_89.2.2.2.2.2.2.2.2.2
theorem bdX11_leastSpread_102 : (decode cX11_leastSpread 102 = .ok (.invokevirtual 277, 3)) ∧ (decode cX11_leastSpread 105 = .ok (.istore 8, 2)) ∧ (decode cX11_leastSpread 107 = .ok (.iload 6, 2)) ∧ (decode cX11_leastSpread 109 = .ok (.iload 7, 2)) ∧ (decode cX11_leastSpread 111 = .ok (.iload 8, 2)) ∧ (decode cX11_leastSpread 113 = .ok (.invokestatic 287, 3)) ∧ (decode cX11_leastSpread 116 = .ok (.invokestatic 287, 3)) ∧ (decode cX11_leastSpread 119 = .ok (.ireturn, 1)) := by decide +kernel
theorem dX11_leastSpread_102 : decode cX11_leastSpread 102 = .ok (.invokevirtual 277, 3) := bdX11_leastSpread_102.1
theorem dX11_leastSpread_105 : decode cX11_leastSpread 105 = .ok (.istore 8, 2) := bdX11_leastSpread_102.2.1
theorem dX11_leastSpread_107 : decode cX11_leastSpread 107 = .ok (.iload 6, 2) := bdX11_leastSpread_102.2.2.1
theorem dX11_leastSpread_109 : decode cX11_leastSpread 109 = .ok (.iload 7, 2) := bdX11_leastSpread_102.2.2.2.1
theorem dX11_leastSpread_111 : decode cX11_leastSpread 111 = .ok (.iload 8, 2) := bdX11_leastSpread_102.2.2.2.2.1
theorem dX11_leastSpread_113 : decode cX11_leastSpread 113 = .ok (.invokestatic 287, 3) := bdX11_leastSpread_102.2.2.2.2.2.1
theorem dX11_leastSpread_116 : decode cX11_leastSpread 116 = .ok (.invokestatic 287, 3) := bdX11_leastSpread_102.2.2.2.2.2.2.1
theorem dX11_leastSpread_119 : decode cX11_leastSpread 119 = .ok (.ireturn, 1) := bdX11_leastSpread_102.2.2.2.2.2.2.2
theorem bdX11_middle_0 : (decode cX11_middle 0 = .ok (.iconst 0, 1)) ∧ (decode cX11_middle 1 = .ok (.istore_n 1, 1)) ∧ (decode cX11_middle 2 = .ok (.ldc_w 295, 3)) ∧ (decode cX11_middle 5 = .ok (.istore_n 2, 1)) ∧ (decode cX11_middle 6 = .ok (.iconst 0, 1)) ∧ (decode cX11_middle 7 = .ok (.istore_n 3, 1)) ∧ (decode cX11_middle 8 = .ok (.iload_n 3, 1)) ∧ (decode cX11_middle 9 = .ok (.bipush 20, 2)) ∧ (decode cX11_middle 11 = .ok (.if_icmp .gt 61, 3)) ∧ (decode cX11_middle 14 = .ok (.iconst 0, 1)) := by decide +kernel
theorem dX11_middle_0 : decode cX11_middle 0 = .ok (.iconst 0, 1) := bdX11_middle_0.1
theorem dX11_middle_1 : decode cX11_middle 1 = .ok (.istore_n 1, 1) := bdX11_middle_0.2.1
theorem dX11_middle_2 : decode cX11_middle 2 = .ok (.ldc_w 295, 3) := bdX11_middle_0.2.2.1
theorem dX11_middle_5 : decode cX11_middle 5 = .ok (.istore_n 2, 1) := bdX11_middle_0.2.2.2.1
theorem dX11_middle_6 : decode cX11_middle 6 = .ok (.iconst 0, 1) := bdX11_middle_0.2.2.2.2.1
theorem dX11_middle_7 : decode cX11_middle 7 = .ok (.istore_n 3, 1) := bdX11_middle_0.2.2.2.2.2.1
theorem dX11_middle_8 : decode cX11_middle 8 = .ok (.iload_n 3, 1) := bdX11_middle_0.2.2.2.2.2.2.1
theorem dX11_middle_9 : decode cX11_middle 9 = .ok (.bipush 20, 2) := bdX11_middle_0.2.2.2.2.2.2.2.1
theorem dX11_middle_11 : decode cX11_middle 11 = .ok (.if_icmp .gt 61, 3) := bdX11_middle_0.2.2.2.2.2.2.2.2.1
theorem dX11_middle_14 : decode cX11_middle 14 = .ok (.iconst 0, 1) := bdX11_middle_0.2.2.2.2.2.2.2.2.2
theorem bdX11_middle_15 : (decode cX11_middle 15 = .ok (.istore 4, 2)) ∧ (decode cX11_middle 17 = .ok (.iload 4, 2)) ∧ (decode cX11_middle 19 = .ok (.bipush 20, 2)) ∧ (decode cX11_middle 21 = .ok (.if_icmp .gt 45, 3)) ∧ (decode cX11_middle 24 = .ok (.aload_n 0, 1)) ∧ (decode cX11_middle 25 = .ok (.getfield 35, 3)) ∧ (decode cX11_middle 28 = .ok (.aload_n 0, 1)) ∧ (decode cX11_middle 29 = .ok (.getfield 42, 3)) ∧ (decode cX11_middle 32 = .ok (.getfield 96, 3)) ∧ (decode cX11_middle 35 = .ok (.iload 4, 2)) := by decide +kernel
theorem dX11_middle_15 : decode cX11_middle 15 = .ok (.istore 4, 2) := bdX11_middle_15.1
theorem dX11_middle_17 : decode cX11_middle 17 = .ok (.iload 4, 2) := bdX11_middle_15.2.1
theorem dX11_middle_19 : decode cX11_middle 19 = .ok (.bipush 20, 2) := bdX11_middle_15.2.2.1
theorem dX11_middle_21 : decode cX11_middle 21 = .ok (.if_icmp .gt 45, 3) := bdX11_middle_15.2.2.2.1
theorem dX11_middle_24 : decode cX11_middle 24 = .ok (.aload_n 0, 1) := bdX11_middle_15.2.2.2.2.1
theorem dX11_middle_25 : decode cX11_middle 25 = .ok (.getfield 35, 3) := bdX11_middle_15.2.2.2.2.2.1
theorem dX11_middle_28 : decode cX11_middle 28 = .ok (.aload_n 0, 1) := bdX11_middle_15.2.2.2.2.2.2.1
theorem dX11_middle_29 : decode cX11_middle 29 = .ok (.getfield 42, 3) := bdX11_middle_15.2.2.2.2.2.2.2.1
theorem dX11_middle_32 : decode cX11_middle 32 = .ok (.getfield 96, 3) := bdX11_middle_15.2.2.2.2.2.2.2.2.1
theorem dX11_middle_35 : decode cX11_middle 35 = .ok (.iload 4, 2) := bdX11_middle_15.2.2.2.2.2.2.2.2.2
theorem bdX11_middle_37 : (decode cX11_middle 37 = .ok (.iload_n 3, 1)) ∧ (decode cX11_middle 38 = .ok (.invokevirtual 296, 3)) ∧ (decode cX11_middle 41 = .ok (.istore 5, 2)) ∧ (decode cX11_middle 43 = .ok (.iload 5, 2)) ∧ (decode cX11_middle 45 = .ok (.iload_n 2, 1)) ∧ (decode cX11_middle 46 = .ok (.if_icmp .ge 14, 3)) ∧ (decode cX11_middle 49 = .ok (.iload 5, 2)) ∧ (decode cX11_middle 51 = .ok (.istore_n 2, 1)) ∧ (decode cX11_middle 52 = .ok (.bipush 100, 2)) ∧ (decode cX11_middle 54 = .ok (.iload_n 3, 1)) := by decide +kernel
theorem dX11_middle_37 : decode cX11_middle 37 = .ok (.iload_n 3, 1) := bdX11_middle_37.1
theorem dX11_middle_38 : decode cX11_middle 38 = .ok (.invokevirtual 296, 3) := bdX11_middle_37.2.1
theorem dX11_middle_41 : decode cX11_middle 41 = .ok (.istore 5, 2) := bdX11_middle_37.2.2.1
theorem dX11_middle_43 : decode cX11_middle 43 = .ok (.iload 5, 2) := bdX11_middle_37.2.2.2.1
theorem dX11_middle_45 : decode cX11_middle 45 = .ok (.iload_n 2, 1) := bdX11_middle_37.2.2.2.2.1
theorem dX11_middle_46 : decode cX11_middle 46 = .ok (.if_icmp .ge 14, 3) := bdX11_middle_37.2.2.2.2.2.1
theorem dX11_middle_49 : decode cX11_middle 49 = .ok (.iload 5, 2) := bdX11_middle_37.2.2.2.2.2.2.1
theorem dX11_middle_51 : decode cX11_middle 51 = .ok (.istore_n 2, 1) := bdX11_middle_37.2.2.2.2.2.2.2.1
theorem dX11_middle_52 : decode cX11_middle 52 = .ok (.bipush 100, 2) := bdX11_middle_37.2.2.2.2.2.2.2.2.1
theorem dX11_middle_54 : decode cX11_middle 54 = .ok (.iload_n 3, 1) := bdX11_middle_37.2.2.2.2.2.2.2.2.2
theorem bdX11_middle_55 : (decode cX11_middle 55 = .ok (.imul, 1)) ∧ (decode cX11_middle 56 = .ok (.iload 4, 2)) ∧ (decode cX11_middle 58 = .ok (.iadd, 1)) ∧ (decode cX11_middle 59 = .ok (.istore_n 1, 1)) ∧ (decode cX11_middle 60 = .ok (.iinc 4 1, 3)) ∧ (decode cX11_middle 63 = .ok (.goto (-46), 3)) ∧ (decode cX11_middle 66 = .ok (.iinc 3 1, 3)) ∧ (decode cX11_middle 69 = .ok (.goto (-61), 3)) ∧ (decode cX11_middle 72 = .ok (.iload_n 1, 1)) ∧ (decode cX11_middle 73 = .ok (.ireturn, 1)) := by decide +kernel
theorem dX11_middle_55 : decode cX11_middle 55 = .ok (.imul, 1) := bdX11_middle_55.1
theorem dX11_middle_56 : decode cX11_middle 56 = .ok (.iload 4, 2) := bdX11_middle_55.2.1
theorem dX11_middle_58 : decode cX11_middle 58 = .ok (.iadd, 1) := bdX11_middle_55.2.2.1
theorem dX11_middle_59 : decode cX11_middle 59 = .ok (.istore_n 1, 1) := bdX11_middle_55.2.2.2.1
theorem dX11_middle_60 : decode cX11_middle 60 = .ok (.iinc 4 1, 3) := bdX11_middle_55.2.2.2.2.1
theorem dX11_middle_63 : decode cX11_middle 63 = .ok (.goto (-46), 3) := bdX11_middle_55.2.2.2.2.2.1
theorem dX11_middle_66 : decode cX11_middle 66 = .ok (.iinc 3 1, 3) := bdX11_middle_55.2.2.2.2.2.2.1
theorem dX11_middle_69 : decode cX11_middle 69 = .ok (.goto (-61), 3) := bdX11_middle_55.2.2.2.2.2.2.2.1
theorem dX11_middle_72 : decode cX11_middle 72 = .ok (.iload_n 1, 1) := bdX11_middle_55.2.2.2.2.2.2.2.2.1
theorem dX11_middle_73 : decode cX11_middle 73 = .ok (.ireturn, 1) := bdX11_middle_55.2.2.2.2.2.2.2.2.2
theorem bdX11_without_0 : (decode cX11_without 0 = .ok (.aload_n 0, 1)) ∧ (decode cX11_without 1 = .ok (.iload_n 1, 1)) ∧ (decode cX11_without 2 = .ok (.invokevirtual 157, 3)) ∧ (decode cX11_without 5 = .ok (.aload_n 0, 1)) ∧ (decode cX11_without 6 = .ok (.iload_n 2, 1)) ∧ (decode cX11_without 7 = .ok (.invokevirtual 157, 3)) ∧ (decode cX11_without 10 = .ok (.iload_n 1, 1)) ∧ (decode cX11_without 11 = .ok (.iload_n 2, 1)) ∧ (decode cX11_without 12 = .ok (.if_icmp .ne 11, 3)) ∧ (decode cX11_without 15 = .ok (.new 79, 3)) := by decide +kernel
theorem dX11_without_0 : decode cX11_without 0 = .ok (.aload_n 0, 1) := bdX11_without_0.1
theorem dX11_without_1 : decode cX11_without 1 = .ok (.iload_n 1, 1) := bdX11_without_0.2.1
theorem dX11_without_2 : decode cX11_without 2 = .ok (.invokevirtual 157, 3) := bdX11_without_0.2.2.1
theorem dX11_without_5 : decode cX11_without 5 = .ok (.aload_n 0, 1) := bdX11_without_0.2.2.2.1
theorem dX11_without_6 : decode cX11_without 6 = .ok (.iload_n 2, 1) := bdX11_without_0.2.2.2.2.1
theorem dX11_without_7 : decode cX11_without 7 = .ok (.invokevirtual 157, 3) := bdX11_without_0.2.2.2.2.2.1
theorem dX11_without_10 : decode cX11_without 10 = .ok (.iload_n 1, 1) := bdX11_without_0.2.2.2.2.2.2.1
theorem dX11_without_11 : decode cX11_without 11 = .ok (.iload_n 2, 1) := bdX11_without_0.2.2.2.2.2.2.2.1
theorem dX11_without_12 : decode cX11_without 12 = .ok (.if_icmp .ne 11, 3) := bdX11_without_0.2.2.2.2.2.2.2.2.1
theorem dX11_without_15 : decode cX11_without 15 = .ok (.new 79, 3) := bdX11_without_0.2.2.2.2.2.2.2.2.2
theorem bdX11_without_18 : (decode cX11_without 18 = .ok (.dup, 1)) ∧ (decode cX11_without 19 = .ok (.invokespecial 81, 3)) ∧ (decode cX11_without 22 = .ok (.athrow, 1)) ∧ (decode cX11_without 23 = .ok (.aload_n 0, 1)) ∧ (decode cX11_without 24 = .ok (.getfield 52, 3)) ∧ (decode cX11_without 27 = .ok (.aload_n 0, 1)) ∧ (decode cX11_without 28 = .ok (.getfield 42, 3)) ∧ (decode cX11_without 31 = .ok (.getfield 96, 3)) ∧ (decode cX11_without 34 = .ok (.invokevirtual 299, 3)) ∧ (decode cX11_without 37 = .ok (.aload_n 0, 1)) := by decide +kernel
theorem dX11_without_18 : decode cX11_without 18 = .ok (.dup, 1) := bdX11_without_18.1
theorem dX11_without_19 : decode cX11_without 19 = .ok (.invokespecial 81, 3) := bdX11_without_18.2.1
theorem dX11_without_22 : decode cX11_without 22 = .ok (.athrow, 1) := bdX11_without_18.2.2.1
theorem dX11_without_23 : decode cX11_without 23 = .ok (.aload_n 0, 1) := bdX11_without_18.2.2.2.1
theorem dX11_without_24 : decode cX11_without 24 = .ok (.getfield 52, 3) := bdX11_without_18.2.2.2.2.1
theorem dX11_without_27 : decode cX11_without 27 = .ok (.aload_n 0, 1) := bdX11_without_18.2.2.2.2.2.1
theorem dX11_without_28 : decode cX11_without 28 = .ok (.getfield 42, 3) := bdX11_without_18.2.2.2.2.2.2.1
theorem dX11_without_31 : decode cX11_without 31 = .ok (.getfield 96, 3) := bdX11_without_18.2.2.2.2.2.2.2.1
theorem dX11_without_34 : decode cX11_without 34 = .ok (.invokevirtual 299, 3) := bdX11_without_18.2.2.2.2.2.2.2.2.1
theorem dX11_without_37 : decode cX11_without 37 = .ok (.aload_n 0, 1) := bdX11_without_18.2.2.2.2.2.2.2.2.2
theorem bdX11_without_38 : (decode cX11_without 38 = .ok (.getfield 35, 3)) ∧ (decode cX11_without 41 = .ok (.aload_n 0, 1)) ∧ (decode cX11_without 42 = .ok (.getfield 52, 3)) ∧ (decode cX11_without 45 = .ok (.iload_n 1, 1)) ∧ (decode cX11_without 46 = .ok (.invokevirtual 99, 3)) ∧ (decode cX11_without 49 = .ok (.aload_n 0, 1)) ∧ (decode cX11_without 50 = .ok (.getfield 52, 3)) ∧ (decode cX11_without 53 = .ok (.getfield 172, 3)) ∧ (decode cX11_without 56 = .ok (.iload_n 2, 1)) ∧ (decode cX11_without 57 = .ok (.iaload, 1)) := by decide +kernel
theorem dX11_without_38 : decode cX11_without 38 = .ok (.getfield 35, 3) := bdX11_without_38.1
theorem dX11_without_41 : decode cX11_without 41 = .ok (.aload_n 0, 1) := bdX11_without_38.2.1
theorem dX11_without_42 : decode cX11_without 42 = .ok (.getfield 52, 3) := bdX11_without_38.2.2.1
theorem dX11_without_45 : decode cX11_without 45 = .ok (.iload_n 1, 1) := bdX11_without_38.2.2.2.1
theorem dX11_without_46 : decode cX11_without 46 = .ok (.invokevirtual 99, 3) := bdX11_without_38.2.2.2.2.1
theorem dX11_without_49 : decode cX11_without 49 = .ok (.aload_n 0, 1) := bdX11_without_38.2.2.2.2.2.1
theorem dX11_without_50 : decode cX11_without 50 = .ok (.getfield 52, 3) := bdX11_without_38.2.2.2.2.2.2.1
theorem dX11_without_53 : decode cX11_without 53 = .ok (.getfield 172, 3) := bdX11_without_38.2.2.2.2.2.2.2.1
theorem dX11_without_56 : decode cX11_without 56 = .ok (.iload_n 2, 1) := bdX11_without_38.2.2.2.2.2.2.2.2.1
theorem dX11_without_57 : decode cX11_without 57 = .ok (.iaload, 1) := bdX11_without_38.2.2.2.2.2.2.2.2.2
theorem bdX11_without_58 : (decode cX11_without 58 = .ok (.ireturn, 1)) := by decide +kernel
theorem dX11_without_58 : decode cX11_without 58 = .ok (.ireturn, 1) := bdX11_without_58
theorem bdX11_lastPlace_0 : (decode cX11_lastPlace 0 = .ok (.aload_n 0, 1)) ∧ (decode cX11_lastPlace 1 = .ok (.iload_n 1, 1)) ∧ (decode cX11_lastPlace 2 = .ok (.invokevirtual 157, 3)) ∧ (decode cX11_lastPlace 5 = .ok (.aload_n 0, 1)) ∧ (decode cX11_lastPlace 6 = .ok (.getfield 35, 3)) ∧ (decode cX11_lastPlace 9 = .ok (.aload_n 0, 1)) ∧ (decode cX11_lastPlace 10 = .ok (.getfield 42, 3)) ∧ (decode cX11_lastPlace 13 = .ok (.getfield 96, 3)) ∧ (decode cX11_lastPlace 16 = .ok (.iload_n 1, 1)) ∧ (decode cX11_lastPlace 17 = .ok (.ldc2_w 304, 3)) := by decide +kernel
theorem dX11_lastPlace_0 : decode cX11_lastPlace 0 = .ok (.aload_n 0, 1) := bdX11_lastPlace_0.1
theorem dX11_lastPlace_1 : decode cX11_lastPlace 1 = .ok (.iload_n 1, 1) := bdX11_lastPlace_0.2.1
theorem dX11_lastPlace_2 : decode cX11_lastPlace 2 = .ok (.invokevirtual 157, 3) := bdX11_lastPlace_0.2.2.1
theorem dX11_lastPlace_5 : decode cX11_lastPlace 5 = .ok (.aload_n 0, 1) := bdX11_lastPlace_0.2.2.2.1
theorem dX11_lastPlace_6 : decode cX11_lastPlace 6 = .ok (.getfield 35, 3) := bdX11_lastPlace_0.2.2.2.2.1
theorem dX11_lastPlace_9 : decode cX11_lastPlace 9 = .ok (.aload_n 0, 1) := bdX11_lastPlace_0.2.2.2.2.2.1
theorem dX11_lastPlace_10 : decode cX11_lastPlace 10 = .ok (.getfield 42, 3) := bdX11_lastPlace_0.2.2.2.2.2.2.1
theorem dX11_lastPlace_13 : decode cX11_lastPlace 13 = .ok (.getfield 96, 3) := bdX11_lastPlace_0.2.2.2.2.2.2.2.1
theorem dX11_lastPlace_16 : decode cX11_lastPlace 16 = .ok (.iload_n 1, 1) := bdX11_lastPlace_0.2.2.2.2.2.2.2.2.1
theorem dX11_lastPlace_17 : decode cX11_lastPlace 17 = .ok (.ldc2_w 304, 3) := bdX11_lastPlace_0.2.2.2.2.2.2.2.2.2
theorem bdX11_lastPlace_20 : (decode cX11_lastPlace 20 = .ok (.invokevirtual 306, 3)) ∧ (decode cX11_lastPlace 23 = .ok (.lstore_n 2, 1)) ∧ (decode cX11_lastPlace 24 = .ok (.aload_n 0, 1)) ∧ (decode cX11_lastPlace 25 = .ok (.getfield 35, 3)) ∧ (decode cX11_lastPlace 28 = .ok (.getfield 89, 3)) ∧ (decode cX11_lastPlace 31 = .ok (.getfield 106, 3)) ∧ (decode cX11_lastPlace 34 = .ok (.iconst 1, 1)) ∧ (decode cX11_lastPlace 35 = .ok (.isub, 1)) ∧ (decode cX11_lastPlace 36 = .ok (.istore 4, 2)) ∧ (decode cX11_lastPlace 38 = .ok (.iload 4, 2)) := by decide +kernel
theorem dX11_lastPlace_20 : decode cX11_lastPlace 20 = .ok (.invokevirtual 306, 3) := bdX11_lastPlace_20.1
theorem dX11_lastPlace_23 : decode cX11_lastPlace 23 = .ok (.lstore_n 2, 1) := bdX11_lastPlace_20.2.1
theorem dX11_lastPlace_24 : decode cX11_lastPlace 24 = .ok (.aload_n 0, 1) := bdX11_lastPlace_20.2.2.1
theorem dX11_lastPlace_25 : decode cX11_lastPlace 25 = .ok (.getfield 35, 3) := bdX11_lastPlace_20.2.2.2.1
theorem dX11_lastPlace_28 : decode cX11_lastPlace 28 = .ok (.getfield 89, 3) := bdX11_lastPlace_20.2.2.2.2.1
theorem dX11_lastPlace_31 : decode cX11_lastPlace 31 = .ok (.getfield 106, 3) := bdX11_lastPlace_20.2.2.2.2.2.1
theorem dX11_lastPlace_34 : decode cX11_lastPlace 34 = .ok (.iconst 1, 1) := bdX11_lastPlace_20.2.2.2.2.2.2.1
theorem dX11_lastPlace_35 : decode cX11_lastPlace 35 = .ok (.isub, 1) := bdX11_lastPlace_20.2.2.2.2.2.2.2.1
theorem dX11_lastPlace_36 : decode cX11_lastPlace 36 = .ok (.istore 4, 2) := bdX11_lastPlace_20.2.2.2.2.2.2.2.2.1
theorem dX11_lastPlace_38 : decode cX11_lastPlace 38 = .ok (.iload 4, 2) := bdX11_lastPlace_20.2.2.2.2.2.2.2.2.2
theorem bdX11_lastPlace_40 : (decode cX11_lastPlace 40 = .ok (.ifCond .lt 68, 3)) ∧ (decode cX11_lastPlace 43 = .ok (.aload_n 0, 1)) ∧ (decode cX11_lastPlace 44 = .ok (.getfield 52, 3)) ∧ (decode cX11_lastPlace 47 = .ok (.aload_n 0, 1)) ∧ (decode cX11_lastPlace 48 = .ok (.getfield 42, 3)) ∧ (decode cX11_lastPlace 51 = .ok (.getfield 96, 3)) ∧ (decode cX11_lastPlace 54 = .ok (.invokevirtual 299, 3)) ∧ (decode cX11_lastPlace 57 = .ok (.aload_n 0, 1)) ∧ (decode cX11_lastPlace 58 = .ok (.getfield 52, 3)) ∧ (decode cX11_lastPlace 61 = .ok (.iload_n 1, 1)) := by decide +kernel
theorem dX11_lastPlace_40 : decode cX11_lastPlace 40 = .ok (.ifCond .lt 68, 3) := bdX11_lastPlace_40.1
theorem dX11_lastPlace_43 : decode cX11_lastPlace 43 = .ok (.aload_n 0, 1) := bdX11_lastPlace_40.2.1
theorem dX11_lastPlace_44 : decode cX11_lastPlace 44 = .ok (.getfield 52, 3) := bdX11_lastPlace_40.2.2.1
theorem dX11_lastPlace_47 : decode cX11_lastPlace 47 = .ok (.aload_n 0, 1) := bdX11_lastPlace_40.2.2.2.1
theorem dX11_lastPlace_48 : decode cX11_lastPlace 48 = .ok (.getfield 42, 3) := bdX11_lastPlace_40.2.2.2.2.1
theorem dX11_lastPlace_51 : decode cX11_lastPlace 51 = .ok (.getfield 96, 3) := bdX11_lastPlace_40.2.2.2.2.2.1
theorem dX11_lastPlace_54 : decode cX11_lastPlace 54 = .ok (.invokevirtual 299, 3) := bdX11_lastPlace_40.2.2.2.2.2.2.1
theorem dX11_lastPlace_57 : decode cX11_lastPlace 57 = .ok (.aload_n 0, 1) := bdX11_lastPlace_40.2.2.2.2.2.2.2.1
theorem dX11_lastPlace_58 : decode cX11_lastPlace 58 = .ok (.getfield 52, 3) := bdX11_lastPlace_40.2.2.2.2.2.2.2.2.1
theorem dX11_lastPlace_61 : decode cX11_lastPlace 61 = .ok (.iload_n 1, 1) := bdX11_lastPlace_40.2.2.2.2.2.2.2.2.2
theorem bdX11_lastPlace_62 : (decode cX11_lastPlace 62 = .ok (.iload 4, 2)) ∧ (decode cX11_lastPlace 64 = .ok (.invokevirtual 236, 3)) ∧ (decode cX11_lastPlace 67 = .ok (.aload_n 0, 1)) ∧ (decode cX11_lastPlace 68 = .ok (.getfield 35, 3)) ∧ (decode cX11_lastPlace 71 = .ok (.aload_n 0, 1)) ∧ (decode cX11_lastPlace 72 = .ok (.getfield 52, 3)) ∧ (decode cX11_lastPlace 75 = .ok (.iconst (-1), 1)) ∧ (decode cX11_lastPlace 76 = .ok (.invokevirtual 99, 3)) ∧ (decode cX11_lastPlace 79 = .ok (.aload_n 0, 1)) ∧ (decode cX11_lastPlace 80 = .ok (.getfield 35, 3)) := by decide +kernel
theorem dX11_lastPlace_62 : decode cX11_lastPlace 62 = .ok (.iload 4, 2) := bdX11_lastPlace_62.1
theorem dX11_lastPlace_64 : decode cX11_lastPlace 64 = .ok (.invokevirtual 236, 3) := bdX11_lastPlace_62.2.1
theorem dX11_lastPlace_67 : decode cX11_lastPlace 67 = .ok (.aload_n 0, 1) := bdX11_lastPlace_62.2.2.1
theorem dX11_lastPlace_68 : decode cX11_lastPlace 68 = .ok (.getfield 35, 3) := bdX11_lastPlace_62.2.2.2.1
theorem dX11_lastPlace_71 : decode cX11_lastPlace 71 = .ok (.aload_n 0, 1) := bdX11_lastPlace_62.2.2.2.2.1
theorem dX11_lastPlace_72 : decode cX11_lastPlace 72 = .ok (.getfield 52, 3) := bdX11_lastPlace_62.2.2.2.2.2.1
theorem dX11_lastPlace_75 : decode cX11_lastPlace 75 = .ok (.iconst (-1), 1) := bdX11_lastPlace_62.2.2.2.2.2.2.1
theorem dX11_lastPlace_76 : decode cX11_lastPlace 76 = .ok (.invokevirtual 99, 3) := bdX11_lastPlace_62.2.2.2.2.2.2.2.1
theorem dX11_lastPlace_79 : decode cX11_lastPlace 79 = .ok (.aload_n 0, 1) := bdX11_lastPlace_62.2.2.2.2.2.2.2.2.1
theorem dX11_lastPlace_80 : decode cX11_lastPlace 80 = .ok (.getfield 35, 3) := bdX11_lastPlace_62.2.2.2.2.2.2.2.2.2
theorem bdX11_lastPlace_83 : (decode cX11_lastPlace 83 = .ok (.aload_n 0, 1)) ∧ (decode cX11_lastPlace 84 = .ok (.getfield 52, 3)) ∧ (decode cX11_lastPlace 87 = .ok (.iload_n 1, 1)) ∧ (decode cX11_lastPlace 88 = .ok (.ldc2_w 304, 3)) ∧ (decode cX11_lastPlace 91 = .ok (.invokevirtual 306, 3)) ∧ (decode cX11_lastPlace 94 = .ok (.lload_n 2, 1)) ∧ (decode cX11_lastPlace 95 = .ok (.lcmp, 1)) ∧ (decode cX11_lastPlace 96 = .ok (.ifCond .lt 6, 3)) ∧ (decode cX11_lastPlace 99 = .ok (.iload 4, 2)) ∧ (decode cX11_lastPlace 101 = .ok (.ireturn, 1)) := by decide +kernel
theorem dX11_lastPlace_83 : decode cX11_lastPlace 83 = .ok (.aload_n 0, 1) := bdX11_lastPlace_83.1
theorem dX11_lastPlace_84 : decode cX11_lastPlace 84 = .ok (.getfield 52, 3) := bdX11_lastPlace_83.2.1
theorem dX11_lastPlace_87 : decode cX11_lastPlace 87 = .ok (.iload_n 1, 1) := bdX11_lastPlace_83.2.2.1
theorem dX11_lastPlace_88 : decode cX11_lastPlace 88 = .ok (.ldc2_w 304, 3) := bdX11_lastPlace_83.2.2.2.1
theorem dX11_lastPlace_91 : decode cX11_lastPlace 91 = .ok (.invokevirtual 306, 3) := bdX11_lastPlace_83.2.2.2.2.1
theorem dX11_lastPlace_94 : decode cX11_lastPlace 94 = .ok (.lload_n 2, 1) := bdX11_lastPlace_83.2.2.2.2.2.1
theorem dX11_lastPlace_95 : decode cX11_lastPlace 95 = .ok (.lcmp, 1) := bdX11_lastPlace_83.2.2.2.2.2.2.1
theorem dX11_lastPlace_96 : decode cX11_lastPlace 96 = .ok (.ifCond .lt 6, 3) := bdX11_lastPlace_83.2.2.2.2.2.2.2.1
theorem dX11_lastPlace_99 : decode cX11_lastPlace 99 = .ok (.iload 4, 2) := bdX11_lastPlace_83.2.2.2.2.2.2.2.2.1
theorem dX11_lastPlace_101 : decode cX11_lastPlace 101 = .ok (.ireturn, 1) := bdX11_lastPlace_83.2.2.2.2.2.2.2.2.2
theorem bdX11_lastPlace_102 : (decode cX11_lastPlace 102 = .ok (.iinc 4 (-1), 3)) ∧ (decode cX11_lastPlace 105 = .ok (.goto (-67), 3)) ∧ (decode cX11_lastPlace 108 = .ok (.iconst (-1), 1)) ∧ (decode cX11_lastPlace 109 = .ok (.ireturn, 1)) := by decide +kernel
theorem dX11_lastPlace_102 : decode cX11_lastPlace 102 = .ok (.iinc 4 (-1), 3) := bdX11_lastPlace_102.1
theorem dX11_lastPlace_105 : decode cX11_lastPlace 105 = .ok (.goto (-67), 3) := bdX11_lastPlace_102.2.1
theorem dX11_lastPlace_108 : decode cX11_lastPlace 108 = .ok (.iconst (-1), 1) := bdX11_lastPlace_102.2.2.1
theorem dX11_lastPlace_109 : decode cX11_lastPlace 109 = .ok (.ireturn, 1) := bdX11_lastPlace_102.2.2.2
theorem bdX11_then_0 : (decode cX11_then 0 = .ok (.aload_n 0, 1)) ∧ (decode cX11_then 1 = .ok (.iload_n 1, 1)) ∧ (decode cX11_then 2 = .ok (.invokevirtual 157, 3)) ∧ (decode cX11_then 5 = .ok (.aload_n 0, 1)) ∧ (decode cX11_then 6 = .ok (.iload_n 2, 1)) ∧ (decode cX11_then 7 = .ok (.iconst 0, 1)) ∧ (decode cX11_then 8 = .ok (.bipush 50, 2)) ∧ (decode cX11_then 10 = .ok (.invokevirtual 206, 3)) ∧ (decode cX11_then 13 = .ok (.aload_n 0, 1)) ∧ (decode cX11_then 14 = .ok (.iload_n 2, 1)) := by decide +kernel
theorem dX11_then_0 : decode cX11_then 0 = .ok (.aload_n 0, 1) := bdX11_then_0.1
theorem dX11_then_1 : decode cX11_then 1 = .ok (.iload_n 1, 1) := bdX11_then_0.2.1
theorem dX11_then_2 : decode cX11_then 2 = .ok (.invokevirtual 157, 3) := bdX11_then_0.2.2.1
theorem dX11_then_5 : decode cX11_then 5 = .ok (.aload_n 0, 1) := bdX11_then_0.2.2.2.1
theorem dX11_then_6 : decode cX11_then 6 = .ok (.iload_n 2, 1) := bdX11_then_0.2.2.2.2.1
theorem dX11_then_7 : decode cX11_then 7 = .ok (.iconst 0, 1) := bdX11_then_0.2.2.2.2.2.1
theorem dX11_then_8 : decode cX11_then 8 = .ok (.bipush 50, 2) := bdX11_then_0.2.2.2.2.2.2.1
theorem dX11_then_10 : decode cX11_then 10 = .ok (.invokevirtual 206, 3) := bdX11_then_0.2.2.2.2.2.2.2.1
theorem dX11_then_13 : decode cX11_then 13 = .ok (.aload_n 0, 1) := bdX11_then_0.2.2.2.2.2.2.2.2.1
theorem dX11_then_14 : decode cX11_then 14 = .ok (.iload_n 2, 1) := bdX11_then_0.2.2.2.2.2.2.2.2.2
theorem bdX11_then_15 : (decode cX11_then 15 = .ok (.invokevirtual 310, 3)) ∧ (decode cX11_then 18 = .ok (.aload_n 0, 1)) ∧ (decode cX11_then 19 = .ok (.getfield 52, 3)) ∧ (decode cX11_then 22 = .ok (.getfield 175, 3)) ∧ (decode cX11_then 25 = .ok (.iload_n 1, 1)) ∧ (decode cX11_then 26 = .ok (.iaload, 1)) ∧ (decode cX11_then 27 = .ok (.ireturn, 1)) := by decide +kernel
theorem dX11_then_15 : decode cX11_then 15 = .ok (.invokevirtual 310, 3) := bdX11_then_15.1
theorem dX11_then_18 : decode cX11_then 18 = .ok (.aload_n 0, 1) := bdX11_then_15.2.1
theorem dX11_then_19 : decode cX11_then 19 = .ok (.getfield 52, 3) := bdX11_then_15.2.2.1
theorem dX11_then_22 : decode cX11_then 22 = .ok (.getfield 175, 3) := bdX11_then_15.2.2.2.1
theorem dX11_then_25 : decode cX11_then 25 = .ok (.iload_n 1, 1) := bdX11_then_15.2.2.2.2.1
theorem dX11_then_26 : decode cX11_then 26 = .ok (.iaload, 1) := bdX11_then_15.2.2.2.2.2.1
theorem dX11_then_27 : decode cX11_then 27 = .ok (.ireturn, 1) := bdX11_then_15.2.2.2.2.2.2
theorem bdX11_starves_0 : (decode cX11_starves 0 = .ok (.aload_n 0, 1)) ∧ (decode cX11_starves 1 = .ok (.iload_n 1, 1)) ∧ (decode cX11_starves 2 = .ok (.invokevirtual 157, 3)) ∧ (decode cX11_starves 5 = .ok (.aload_n 0, 1)) ∧ (decode cX11_starves 6 = .ok (.getfield 52, 3)) ∧ (decode cX11_starves 9 = .ok (.aload_n 0, 1)) ∧ (decode cX11_starves 10 = .ok (.getfield 42, 3)) ∧ (decode cX11_starves 13 = .ok (.getfield 96, 3)) ∧ (decode cX11_starves 16 = .ok (.invokevirtual 299, 3)) ∧ (decode cX11_starves 19 = .ok (.iconst 0, 1)) := by decide +kernel
theorem dX11_starves_0 : decode cX11_starves 0 = .ok (.aload_n 0, 1) := bdX11_starves_0.1
theorem dX11_starves_1 : decode cX11_starves 1 = .ok (.iload_n 1, 1) := bdX11_starves_0.2.1
theorem dX11_starves_2 : decode cX11_starves 2 = .ok (.invokevirtual 157, 3) := bdX11_starves_0.2.2.1
theorem dX11_starves_5 : decode cX11_starves 5 = .ok (.aload_n 0, 1) := bdX11_starves_0.2.2.2.1
theorem dX11_starves_6 : decode cX11_starves 6 = .ok (.getfield 52, 3) := bdX11_starves_0.2.2.2.2.1
theorem dX11_starves_9 : decode cX11_starves 9 = .ok (.aload_n 0, 1) := bdX11_starves_0.2.2.2.2.2.1
theorem dX11_starves_10 : decode cX11_starves 10 = .ok (.getfield 42, 3) := bdX11_starves_0.2.2.2.2.2.2.1
theorem dX11_starves_13 : decode cX11_starves 13 = .ok (.getfield 96, 3) := bdX11_starves_0.2.2.2.2.2.2.2.1
theorem dX11_starves_16 : decode cX11_starves 16 = .ok (.invokevirtual 299, 3) := bdX11_starves_0.2.2.2.2.2.2.2.2.1
theorem dX11_starves_19 : decode cX11_starves 19 = .ok (.iconst 0, 1) := bdX11_starves_0.2.2.2.2.2.2.2.2.2
theorem bdX11_starves_20 : (decode cX11_starves 20 = .ok (.istore_n 2, 1)) ∧ (decode cX11_starves 21 = .ok (.iload_n 2, 1)) ∧ (decode cX11_starves 22 = .ok (.bipush 50, 2)) ∧ (decode cX11_starves 24 = .ok (.if_icmp .gt 34, 3)) ∧ (decode cX11_starves 27 = .ok (.aload_n 0, 1)) ∧ (decode cX11_starves 28 = .ok (.getfield 52, 3)) ∧ (decode cX11_starves 31 = .ok (.iload_n 1, 1)) ∧ (decode cX11_starves 32 = .ok (.invokevirtual 313, 3)) ∧ (decode cX11_starves 35 = .ok (.ifCond .eq 5, 3)) ∧ (decode cX11_starves 38 = .ok (.iload_n 2, 1)) := by decide +kernel
theorem dX11_starves_20 : decode cX11_starves 20 = .ok (.istore_n 2, 1) := bdX11_starves_20.1
theorem dX11_starves_21 : decode cX11_starves 21 = .ok (.iload_n 2, 1) := bdX11_starves_20.2.1
theorem dX11_starves_22 : decode cX11_starves 22 = .ok (.bipush 50, 2) := bdX11_starves_20.2.2.1
theorem dX11_starves_24 : decode cX11_starves 24 = .ok (.if_icmp .gt 34, 3) := bdX11_starves_20.2.2.2.1
theorem dX11_starves_27 : decode cX11_starves 27 = .ok (.aload_n 0, 1) := bdX11_starves_20.2.2.2.2.1
theorem dX11_starves_28 : decode cX11_starves 28 = .ok (.getfield 52, 3) := bdX11_starves_20.2.2.2.2.2.1
theorem dX11_starves_31 : decode cX11_starves 31 = .ok (.iload_n 1, 1) := bdX11_starves_20.2.2.2.2.2.2.1
theorem dX11_starves_32 : decode cX11_starves 32 = .ok (.invokevirtual 313, 3) := bdX11_starves_20.2.2.2.2.2.2.2.1
theorem dX11_starves_35 : decode cX11_starves 35 = .ok (.ifCond .eq 5, 3) := bdX11_starves_20.2.2.2.2.2.2.2.2.1
theorem dX11_starves_38 : decode cX11_starves 38 = .ok (.iload_n 2, 1) := bdX11_starves_20.2.2.2.2.2.2.2.2.2
theorem bdX11_starves_39 : (decode cX11_starves 39 = .ok (.ireturn, 1)) ∧ (decode cX11_starves 40 = .ok (.aload_n 0, 1)) ∧ (decode cX11_starves 41 = .ok (.getfield 35, 3)) ∧ (decode cX11_starves 44 = .ok (.aload_n 0, 1)) ∧ (decode cX11_starves 45 = .ok (.getfield 52, 3)) ∧ (decode cX11_starves 48 = .ok (.iconst 1, 1)) ∧ (decode cX11_starves 49 = .ok (.invokevirtual 240, 3)) ∧ (decode cX11_starves 52 = .ok (.iinc 2 1, 3)) ∧ (decode cX11_starves 55 = .ok (.goto (-34), 3)) ∧ (decode cX11_starves 58 = .ok (.iconst (-1), 1)) := by decide +kernel
theorem dX11_starves_39 : decode cX11_starves 39 = .ok (.ireturn, 1) := bdX11_starves_39.1
theorem dX11_starves_40 : decode cX11_starves 40 = .ok (.aload_n 0, 1) := bdX11_starves_39.2.1
theorem dX11_starves_41 : decode cX11_starves 41 = .ok (.getfield 35, 3) := bdX11_starves_39.2.2.1
theorem dX11_starves_44 : decode cX11_starves 44 = .ok (.aload_n 0, 1) := bdX11_starves_39.2.2.2.1
theorem dX11_starves_45 : decode cX11_starves 45 = .ok (.getfield 52, 3) := bdX11_starves_39.2.2.2.2.1
theorem dX11_starves_48 : decode cX11_starves 48 = .ok (.iconst 1, 1) := bdX11_starves_39.2.2.2.2.2.1
theorem dX11_starves_49 : decode cX11_starves 49 = .ok (.invokevirtual 240, 3) := bdX11_starves_39.2.2.2.2.2.2.1
theorem dX11_starves_52 : decode cX11_starves 52 = .ok (.iinc 2 1, 3) := bdX11_starves_39.2.2.2.2.2.2.2.1
theorem dX11_starves_55 : decode cX11_starves 55 = .ok (.goto (-34), 3) := bdX11_starves_39.2.2.2.2.2.2.2.2.1
theorem dX11_starves_58 : decode cX11_starves 58 = .ok (.iconst (-1), 1) := bdX11_starves_39.2.2.2.2.2.2.2.2.2
theorem bdX11_starves_59 : (decode cX11_starves 59 = .ok (.ireturn, 1)) := by decide +kernel
theorem dX11_starves_59 : decode cX11_starves 59 = .ok (.ireturn, 1) := bdX11_starves_59
theorem bdX11_tithes_0 : (decode cX11_tithes 0 = .ok (.aload_n 0, 1)) ∧ (decode cX11_tithes 1 = .ok (.iload_n 1, 1)) ∧ (decode cX11_tithes 2 = .ok (.iconst 0, 1)) ∧ (decode cX11_tithes 3 = .ok (.bipush 50, 2)) ∧ (decode cX11_tithes 5 = .ok (.invokevirtual 206, 3)) ∧ (decode cX11_tithes 8 = .ok (.aload_n 0, 1)) ∧ (decode cX11_tithes 9 = .ok (.iload_n 1, 1)) ∧ (decode cX11_tithes 10 = .ok (.invokevirtual 310, 3)) ∧ (decode cX11_tithes 13 = .ok (.aload_n 0, 1)) ∧ (decode cX11_tithes 14 = .ok (.getfield 52, 3)) := by decide +kernel
theorem dX11_tithes_0 : decode cX11_tithes 0 = .ok (.aload_n 0, 1) := bdX11_tithes_0.1
theorem dX11_tithes_1 : decode cX11_tithes 1 = .ok (.iload_n 1, 1) := bdX11_tithes_0.2.1
theorem dX11_tithes_2 : decode cX11_tithes 2 = .ok (.iconst 0, 1) := bdX11_tithes_0.2.2.1
theorem dX11_tithes_3 : decode cX11_tithes 3 = .ok (.bipush 50, 2) := bdX11_tithes_0.2.2.2.1
theorem dX11_tithes_5 : decode cX11_tithes 5 = .ok (.invokevirtual 206, 3) := bdX11_tithes_0.2.2.2.2.1
theorem dX11_tithes_8 : decode cX11_tithes 8 = .ok (.aload_n 0, 1) := bdX11_tithes_0.2.2.2.2.2.1
theorem dX11_tithes_9 : decode cX11_tithes 9 = .ok (.iload_n 1, 1) := bdX11_tithes_0.2.2.2.2.2.2.1
theorem dX11_tithes_10 : decode cX11_tithes 10 = .ok (.invokevirtual 310, 3) := bdX11_tithes_0.2.2.2.2.2.2.2.1
theorem dX11_tithes_13 : decode cX11_tithes 13 = .ok (.aload_n 0, 1) := bdX11_tithes_0.2.2.2.2.2.2.2.2.1
theorem dX11_tithes_14 : decode cX11_tithes 14 = .ok (.getfield 52, 3) := bdX11_tithes_0.2.2.2.2.2.2.2.2.2
theorem bdX11_tithes_17 : (decode cX11_tithes 17 = .ok (.getfield 129, 3)) ∧ (decode cX11_tithes 20 = .ok (.aload_n 0, 1)) ∧ (decode cX11_tithes 21 = .ok (.getfield 42, 3)) ∧ (decode cX11_tithes 24 = .ok (.getfield 96, 3)) ∧ (decode cX11_tithes 27 = .ok (.getfield 129, 3)) ∧ (decode cX11_tithes 30 = .ok (.isub, 1)) ∧ (decode cX11_tithes 31 = .ok (.ireturn, 1)) := by decide +kernel
theorem dX11_tithes_17 : decode cX11_tithes 17 = .ok (.getfield 129, 3) := bdX11_tithes_17.1
theorem dX11_tithes_20 : decode cX11_tithes 20 = .ok (.aload_n 0, 1) := bdX11_tithes_17.2.1
theorem dX11_tithes_21 : decode cX11_tithes 21 = .ok (.getfield 42, 3) := bdX11_tithes_17.2.2.1
theorem dX11_tithes_24 : decode cX11_tithes 24 = .ok (.getfield 96, 3) := bdX11_tithes_17.2.2.2.1
theorem dX11_tithes_27 : decode cX11_tithes 27 = .ok (.getfield 129, 3) := bdX11_tithes_17.2.2.2.2.1
theorem dX11_tithes_30 : decode cX11_tithes 30 = .ok (.isub, 1) := bdX11_tithes_17.2.2.2.2.2.1
theorem dX11_tithes_31 : decode cX11_tithes 31 = .ok (.ireturn, 1) := bdX11_tithes_17.2.2.2.2.2.2
theorem bdX11_holdsOut_0 : (decode cX11_holdsOut 0 = .ok (.aload_n 0, 1)) ∧ (decode cX11_holdsOut 1 = .ok (.getfield 52, 3)) ∧ (decode cX11_holdsOut 4 = .ok (.aload_n 0, 1)) ∧ (decode cX11_holdsOut 5 = .ok (.getfield 42, 3)) ∧ (decode cX11_holdsOut 8 = .ok (.getfield 96, 3)) ∧ (decode cX11_holdsOut 11 = .ok (.invokevirtual 299, 3)) ∧ (decode cX11_holdsOut 14 = .ok (.iconst 1, 1)) ∧ (decode cX11_holdsOut 15 = .ok (.istore_n 1, 1)) ∧ (decode cX11_holdsOut 16 = .ok (.iload_n 1, 1)) ∧ (decode cX11_holdsOut 17 = .ok (.bipush 50, 2)) := by decide +kernel
theorem dX11_holdsOut_0 : decode cX11_holdsOut 0 = .ok (.aload_n 0, 1) := bdX11_holdsOut_0.1
theorem dX11_holdsOut_1 : decode cX11_holdsOut 1 = .ok (.getfield 52, 3) := bdX11_holdsOut_0.2.1
theorem dX11_holdsOut_4 : decode cX11_holdsOut 4 = .ok (.aload_n 0, 1) := bdX11_holdsOut_0.2.2.1
theorem dX11_holdsOut_5 : decode cX11_holdsOut 5 = .ok (.getfield 42, 3) := bdX11_holdsOut_0.2.2.2.1
theorem dX11_holdsOut_8 : decode cX11_holdsOut 8 = .ok (.getfield 96, 3) := bdX11_holdsOut_0.2.2.2.2.1
theorem dX11_holdsOut_11 : decode cX11_holdsOut 11 = .ok (.invokevirtual 299, 3) := bdX11_holdsOut_0.2.2.2.2.2.1
theorem dX11_holdsOut_14 : decode cX11_holdsOut 14 = .ok (.iconst 1, 1) := bdX11_holdsOut_0.2.2.2.2.2.2.1
theorem dX11_holdsOut_15 : decode cX11_holdsOut 15 = .ok (.istore_n 1, 1) := bdX11_holdsOut_0.2.2.2.2.2.2.2.1
theorem dX11_holdsOut_16 : decode cX11_holdsOut 16 = .ok (.iload_n 1, 1) := bdX11_holdsOut_0.2.2.2.2.2.2.2.2.1
theorem dX11_holdsOut_17 : decode cX11_holdsOut 17 = .ok (.bipush 50, 2) := bdX11_holdsOut_0.2.2.2.2.2.2.2.2.2
theorem bdX11_holdsOut_19 : (decode cX11_holdsOut 19 = .ok (.if_icmp .gt 43, 3)) ∧ (decode cX11_holdsOut 22 = .ok (.aload_n 0, 1)) ∧ (decode cX11_holdsOut 23 = .ok (.getfield 35, 3)) ∧ (decode cX11_holdsOut 26 = .ok (.aload_n 0, 1)) ∧ (decode cX11_holdsOut 27 = .ok (.getfield 52, 3)) ∧ (decode cX11_holdsOut 30 = .ok (.iconst 1, 1)) ∧ (decode cX11_holdsOut 31 = .ok (.invokevirtual 240, 3)) ∧ (decode cX11_holdsOut 34 = .ok (.aload_n 0, 1)) ∧ (decode cX11_holdsOut 35 = .ok (.getfield 52, 3)) ∧ (decode cX11_holdsOut 38 = .ok (.getfield 126, 3)) := by decide +kernel
theorem dX11_holdsOut_19 : decode cX11_holdsOut 19 = .ok (.if_icmp .gt 43, 3) := bdX11_holdsOut_19.1
theorem dX11_holdsOut_22 : decode cX11_holdsOut 22 = .ok (.aload_n 0, 1) := bdX11_holdsOut_19.2.1
theorem dX11_holdsOut_23 : decode cX11_holdsOut 23 = .ok (.getfield 35, 3) := bdX11_holdsOut_19.2.2.1
theorem dX11_holdsOut_26 : decode cX11_holdsOut 26 = .ok (.aload_n 0, 1) := bdX11_holdsOut_19.2.2.2.1
theorem dX11_holdsOut_27 : decode cX11_holdsOut 27 = .ok (.getfield 52, 3) := bdX11_holdsOut_19.2.2.2.2.1
theorem dX11_holdsOut_30 : decode cX11_holdsOut 30 = .ok (.iconst 1, 1) := bdX11_holdsOut_19.2.2.2.2.2.1
theorem dX11_holdsOut_31 : decode cX11_holdsOut 31 = .ok (.invokevirtual 240, 3) := bdX11_holdsOut_19.2.2.2.2.2.2.1
theorem dX11_holdsOut_34 : decode cX11_holdsOut 34 = .ok (.aload_n 0, 1) := bdX11_holdsOut_19.2.2.2.2.2.2.2.1
theorem dX11_holdsOut_35 : decode cX11_holdsOut 35 = .ok (.getfield 52, 3) := bdX11_holdsOut_19.2.2.2.2.2.2.2.2.1
theorem dX11_holdsOut_38 : decode cX11_holdsOut 38 = .ok (.getfield 126, 3) := bdX11_holdsOut_19.2.2.2.2.2.2.2.2.2
theorem bdX11_holdsOut_41 : (decode cX11_holdsOut 41 = .ok (.aload_n 0, 1)) ∧ (decode cX11_holdsOut 42 = .ok (.getfield 42, 3)) ∧ (decode cX11_holdsOut 45 = .ok (.getfield 96, 3)) ∧ (decode cX11_holdsOut 48 = .ok (.getfield 126, 3)) ∧ (decode cX11_holdsOut 51 = .ok (.if_icmp .eq 5, 3)) ∧ (decode cX11_holdsOut 54 = .ok (.iload_n 1, 1)) ∧ (decode cX11_holdsOut 55 = .ok (.ireturn, 1)) ∧ (decode cX11_holdsOut 56 = .ok (.iinc 1 1, 3)) ∧ (decode cX11_holdsOut 59 = .ok (.goto (-43), 3)) ∧ (decode cX11_holdsOut 62 = .ok (.iconst (-1), 1)) := by decide +kernel
theorem dX11_holdsOut_41 : decode cX11_holdsOut 41 = .ok (.aload_n 0, 1) := bdX11_holdsOut_41.1
theorem dX11_holdsOut_42 : decode cX11_holdsOut 42 = .ok (.getfield 42, 3) := bdX11_holdsOut_41.2.1
theorem dX11_holdsOut_45 : decode cX11_holdsOut 45 = .ok (.getfield 96, 3) := bdX11_holdsOut_41.2.2.1
theorem dX11_holdsOut_48 : decode cX11_holdsOut 48 = .ok (.getfield 126, 3) := bdX11_holdsOut_41.2.2.2.1
theorem dX11_holdsOut_51 : decode cX11_holdsOut 51 = .ok (.if_icmp .eq 5, 3) := bdX11_holdsOut_41.2.2.2.2.1
theorem dX11_holdsOut_54 : decode cX11_holdsOut 54 = .ok (.iload_n 1, 1) := bdX11_holdsOut_41.2.2.2.2.2.1
theorem dX11_holdsOut_55 : decode cX11_holdsOut 55 = .ok (.ireturn, 1) := bdX11_holdsOut_41.2.2.2.2.2.2.1
theorem dX11_holdsOut_56 : decode cX11_holdsOut 56 = .ok (.iinc 1 1, 3) := bdX11_holdsOut_41.2.2.2.2.2.2.2.1
theorem dX11_holdsOut_59 : decode cX11_holdsOut 59 = .ok (.goto (-43), 3) := bdX11_holdsOut_41.2.2.2.2.2.2.2.2.1
theorem dX11_holdsOut_62 : decode cX11_holdsOut 62 = .ok (.iconst (-1), 1) := bdX11_holdsOut_41.2.2.2.2.2.2.2.2.2
theorem bdX11_holdsOut_63 : (decode cX11_holdsOut 63 = .ok (.ireturn, 1)) := by decide +kernel
theorem dX11_holdsOut_63 : decode cX11_holdsOut 63 = .ok (.ireturn, 1) := bdX11_holdsOut_63
theorem bdX11_famine_0 : (decode cX11_famine 0 = .ok (.aload_n 0, 1)) ∧ (decode cX11_famine 1 = .ok (.iload_n 1, 1)) ∧ (decode cX11_famine 2 = .ok (.iconst 0, 1)) ∧ (decode cX11_famine 3 = .ok (.bipush 50, 2)) ∧ (decode cX11_famine 5 = .ok (.invokevirtual 206, 3)) ∧ (decode cX11_famine 8 = .ok (.aload_n 0, 1)) ∧ (decode cX11_famine 9 = .ok (.iload_n 1, 1)) ∧ (decode cX11_famine 10 = .ok (.invokevirtual 310, 3)) ∧ (decode cX11_famine 13 = .ok (.aload_n 0, 1)) ∧ (decode cX11_famine 14 = .ok (.getfield 52, 3)) := by decide +kernel
theorem dX11_famine_0 : decode cX11_famine 0 = .ok (.aload_n 0, 1) := bdX11_famine_0.1
theorem dX11_famine_1 : decode cX11_famine 1 = .ok (.iload_n 1, 1) := bdX11_famine_0.2.1
theorem dX11_famine_2 : decode cX11_famine 2 = .ok (.iconst 0, 1) := bdX11_famine_0.2.2.1
theorem dX11_famine_3 : decode cX11_famine 3 = .ok (.bipush 50, 2) := bdX11_famine_0.2.2.2.1
theorem dX11_famine_5 : decode cX11_famine 5 = .ok (.invokevirtual 206, 3) := bdX11_famine_0.2.2.2.2.1
theorem dX11_famine_8 : decode cX11_famine 8 = .ok (.aload_n 0, 1) := bdX11_famine_0.2.2.2.2.2.1
theorem dX11_famine_9 : decode cX11_famine 9 = .ok (.iload_n 1, 1) := bdX11_famine_0.2.2.2.2.2.2.1
theorem dX11_famine_10 : decode cX11_famine 10 = .ok (.invokevirtual 310, 3) := bdX11_famine_0.2.2.2.2.2.2.2.1
theorem dX11_famine_13 : decode cX11_famine 13 = .ok (.aload_n 0, 1) := bdX11_famine_0.2.2.2.2.2.2.2.2.1
theorem dX11_famine_14 : decode cX11_famine 14 = .ok (.getfield 52, 3) := bdX11_famine_0.2.2.2.2.2.2.2.2.2
theorem bdX11_famine_17 : (decode cX11_famine 17 = .ok (.getfield 126, 3)) ∧ (decode cX11_famine 20 = .ok (.invokestatic 317, 3)) ∧ (decode cX11_famine 23 = .ok (.ireturn, 1)) := by decide +kernel
theorem dX11_famine_17 : decode cX11_famine 17 = .ok (.getfield 126, 3) := bdX11_famine_17.1
theorem dX11_famine_20 : decode cX11_famine 20 = .ok (.invokestatic 317, 3) := bdX11_famine_17.2.1
theorem dX11_famine_23 : decode cX11_famine 23 = .ok (.ireturn, 1) := bdX11_famine_17.2.2
theorem bdX11_bushels_0 : (decode cX11_bushels 0 = .ok (.aload_n 0, 1)) ∧ (decode cX11_bushels 1 = .ok (.iload_n 1, 1)) ∧ (decode cX11_bushels 2 = .ok (.invokevirtual 157, 3)) ∧ (decode cX11_bushels 5 = .ok (.aload_n 0, 1)) ∧ (decode cX11_bushels 6 = .ok (.iload_n 2, 1)) ∧ (decode cX11_bushels 7 = .ok (.iconst 0, 1)) ∧ (decode cX11_bushels 8 = .ok (.bipush 50, 2)) ∧ (decode cX11_bushels 10 = .ok (.invokevirtual 206, 3)) ∧ (decode cX11_bushels 13 = .ok (.aload_n 0, 1)) ∧ (decode cX11_bushels 14 = .ok (.getfield 52, 3)) := by decide +kernel
theorem dX11_bushels_0 : decode cX11_bushels 0 = .ok (.aload_n 0, 1) := bdX11_bushels_0.1
theorem dX11_bushels_1 : decode cX11_bushels 1 = .ok (.iload_n 1, 1) := bdX11_bushels_0.2.1
theorem dX11_bushels_2 : decode cX11_bushels 2 = .ok (.invokevirtual 157, 3) := bdX11_bushels_0.2.2.1
theorem dX11_bushels_5 : decode cX11_bushels 5 = .ok (.aload_n 0, 1) := bdX11_bushels_0.2.2.2.1
theorem dX11_bushels_6 : decode cX11_bushels 6 = .ok (.iload_n 2, 1) := bdX11_bushels_0.2.2.2.2.1
theorem dX11_bushels_7 : decode cX11_bushels 7 = .ok (.iconst 0, 1) := bdX11_bushels_0.2.2.2.2.2.1
theorem dX11_bushels_8 : decode cX11_bushels 8 = .ok (.bipush 50, 2) := bdX11_bushels_0.2.2.2.2.2.2.1
theorem dX11_bushels_10 : decode cX11_bushels 10 = .ok (.invokevirtual 206, 3) := bdX11_bushels_0.2.2.2.2.2.2.2.1
theorem dX11_bushels_13 : decode cX11_bushels 13 = .ok (.aload_n 0, 1) := bdX11_bushels_0.2.2.2.2.2.2.2.2.1
theorem dX11_bushels_14 : decode cX11_bushels 14 = .ok (.getfield 52, 3) := bdX11_bushels_0.2.2.2.2.2.2.2.2.2
theorem bdX11_bushels_17 : (decode cX11_bushels 17 = .ok (.aload_n 0, 1)) ∧ (decode cX11_bushels 18 = .ok (.getfield 42, 3)) ∧ (decode cX11_bushels 21 = .ok (.getfield 96, 3)) ∧ (decode cX11_bushels 24 = .ok (.invokevirtual 299, 3)) ∧ (decode cX11_bushels 27 = .ok (.iconst 0, 1)) ∧ (decode cX11_bushels 28 = .ok (.istore_n 3, 1)) ∧ (decode cX11_bushels 29 = .ok (.iconst 0, 1)) ∧ (decode cX11_bushels 30 = .ok (.istore 4, 2)) ∧ (decode cX11_bushels 32 = .ok (.iload 4, 2)) ∧ (decode cX11_bushels 34 = .ok (.iload_n 2, 1)) := by decide +kernel
theorem dX11_bushels_17 : decode cX11_bushels 17 = .ok (.aload_n 0, 1) := bdX11_bushels_17.1
theorem dX11_bushels_18 : decode cX11_bushels 18 = .ok (.getfield 42, 3) := bdX11_bushels_17.2.1
theorem dX11_bushels_21 : decode cX11_bushels 21 = .ok (.getfield 96, 3) := bdX11_bushels_17.2.2.1
theorem dX11_bushels_24 : decode cX11_bushels 24 = .ok (.invokevirtual 299, 3) := bdX11_bushels_17.2.2.2.1
theorem dX11_bushels_27 : decode cX11_bushels 27 = .ok (.iconst 0, 1) := bdX11_bushels_17.2.2.2.2.1
theorem dX11_bushels_28 : decode cX11_bushels 28 = .ok (.istore_n 3, 1) := bdX11_bushels_17.2.2.2.2.2.1
theorem dX11_bushels_29 : decode cX11_bushels 29 = .ok (.iconst 0, 1) := bdX11_bushels_17.2.2.2.2.2.2.1
theorem dX11_bushels_30 : decode cX11_bushels 30 = .ok (.istore 4, 2) := bdX11_bushels_17.2.2.2.2.2.2.2.1
theorem dX11_bushels_32 : decode cX11_bushels 32 = .ok (.iload 4, 2) := bdX11_bushels_17.2.2.2.2.2.2.2.2.1
theorem dX11_bushels_34 : decode cX11_bushels 34 = .ok (.iload_n 2, 1) := bdX11_bushels_17.2.2.2.2.2.2.2.2.2
theorem bdX11_bushels_35 : (decode cX11_bushels 35 = .ok (.if_icmp .ge 47, 3)) ∧ (decode cX11_bushels 38 = .ok (.aload_n 0, 1)) ∧ (decode cX11_bushels 39 = .ok (.getfield 52, 3)) ∧ (decode cX11_bushels 42 = .ok (.iload_n 1, 1)) ∧ (decode cX11_bushels 43 = .ok (.invokevirtual 313, 3)) ∧ (decode cX11_bushels 46 = .ok (.ifCond .ne 36, 3)) ∧ (decode cX11_bushels 49 = .ok (.iload_n 3, 1)) ∧ (decode cX11_bushels 50 = .ok (.aload_n 0, 1)) ∧ (decode cX11_bushels 51 = .ok (.getfield 35, 3)) ∧ (decode cX11_bushels 54 = .ok (.aload_n 0, 1)) := by decide +kernel
theorem dX11_bushels_35 : decode cX11_bushels 35 = .ok (.if_icmp .ge 47, 3) := bdX11_bushels_35.1
theorem dX11_bushels_38 : decode cX11_bushels 38 = .ok (.aload_n 0, 1) := bdX11_bushels_35.2.1
theorem dX11_bushels_39 : decode cX11_bushels 39 = .ok (.getfield 52, 3) := bdX11_bushels_35.2.2.1
theorem dX11_bushels_42 : decode cX11_bushels 42 = .ok (.iload_n 1, 1) := bdX11_bushels_35.2.2.2.1
theorem dX11_bushels_43 : decode cX11_bushels 43 = .ok (.invokevirtual 313, 3) := bdX11_bushels_35.2.2.2.2.1
theorem dX11_bushels_46 : decode cX11_bushels 46 = .ok (.ifCond .ne 36, 3) := bdX11_bushels_35.2.2.2.2.2.1
theorem dX11_bushels_49 : decode cX11_bushels 49 = .ok (.iload_n 3, 1) := bdX11_bushels_35.2.2.2.2.2.2.1
theorem dX11_bushels_50 : decode cX11_bushels 50 = .ok (.aload_n 0, 1) := bdX11_bushels_35.2.2.2.2.2.2.2.1
theorem dX11_bushels_51 : decode cX11_bushels 51 = .ok (.getfield 35, 3) := bdX11_bushels_35.2.2.2.2.2.2.2.2.1
theorem dX11_bushels_54 : decode cX11_bushels 54 = .ok (.aload_n 0, 1) := bdX11_bushels_35.2.2.2.2.2.2.2.2.2
theorem bdX11_bushels_55 : (decode cX11_bushels 55 = .ok (.getfield 52, 3)) ∧ (decode cX11_bushels 58 = .ok (.iload_n 1, 1)) ∧ (decode cX11_bushels 59 = .ok (.invokevirtual 320, 3)) ∧ (decode cX11_bushels 62 = .ok (.iadd, 1)) ∧ (decode cX11_bushels 63 = .ok (.istore_n 3, 1)) ∧ (decode cX11_bushels 64 = .ok (.aload_n 0, 1)) ∧ (decode cX11_bushels 65 = .ok (.getfield 35, 3)) ∧ (decode cX11_bushels 68 = .ok (.aload_n 0, 1)) ∧ (decode cX11_bushels 69 = .ok (.getfield 52, 3)) ∧ (decode cX11_bushels 72 = .ok (.iconst 1, 1)) := by decide +kernel
theorem dX11_bushels_55 : decode cX11_bushels 55 = .ok (.getfield 52, 3) := bdX11_bushels_55.1
theorem dX11_bushels_58 : decode cX11_bushels 58 = .ok (.iload_n 1, 1) := bdX11_bushels_55.2.1
theorem dX11_bushels_59 : decode cX11_bushels 59 = .ok (.invokevirtual 320, 3) := bdX11_bushels_55.2.2.1
theorem dX11_bushels_62 : decode cX11_bushels 62 = .ok (.iadd, 1) := bdX11_bushels_55.2.2.2.1
theorem dX11_bushels_63 : decode cX11_bushels 63 = .ok (.istore_n 3, 1) := bdX11_bushels_55.2.2.2.2.1
theorem dX11_bushels_64 : decode cX11_bushels 64 = .ok (.aload_n 0, 1) := bdX11_bushels_55.2.2.2.2.2.1
theorem dX11_bushels_65 : decode cX11_bushels 65 = .ok (.getfield 35, 3) := bdX11_bushels_55.2.2.2.2.2.2.1
theorem dX11_bushels_68 : decode cX11_bushels 68 = .ok (.aload_n 0, 1) := bdX11_bushels_55.2.2.2.2.2.2.2.1
theorem dX11_bushels_69 : decode cX11_bushels 69 = .ok (.getfield 52, 3) := bdX11_bushels_55.2.2.2.2.2.2.2.2.1
theorem dX11_bushels_72 : decode cX11_bushels 72 = .ok (.iconst 1, 1) := bdX11_bushels_55.2.2.2.2.2.2.2.2.2
theorem bdX11_bushels_73 : (decode cX11_bushels 73 = .ok (.invokevirtual 240, 3)) ∧ (decode cX11_bushels 76 = .ok (.iinc 4 1, 3)) ∧ (decode cX11_bushels 79 = .ok (.goto (-47), 3)) ∧ (decode cX11_bushels 82 = .ok (.iload_n 3, 1)) ∧ (decode cX11_bushels 83 = .ok (.ireturn, 1)) := by decide +kernel
theorem dX11_bushels_73 : decode cX11_bushels 73 = .ok (.invokevirtual 240, 3) := bdX11_bushels_73.1
theorem dX11_bushels_76 : decode cX11_bushels 76 = .ok (.iinc 4 1, 3) := bdX11_bushels_73.2.1
theorem dX11_bushels_79 : decode cX11_bushels 79 = .ok (.goto (-47), 3) := bdX11_bushels_73.2.2.1
theorem dX11_bushels_82 : decode cX11_bushels 82 = .ok (.iload_n 3, 1) := bdX11_bushels_73.2.2.2.1
theorem dX11_bushels_83 : decode cX11_bushels 83 = .ok (.ireturn, 1) := bdX11_bushels_73.2.2.2.2
theorem bdX11_richest_0 : (decode cX11_richest 0 = .ok (.aload_n 0, 1)) ∧ (decode cX11_richest 1 = .ok (.iload_n 1, 1)) ∧ (decode cX11_richest 2 = .ok (.iconst 0, 1)) ∧ (decode cX11_richest 3 = .ok (.bipush 50, 2)) ∧ (decode cX11_richest 5 = .ok (.invokevirtual 206, 3)) ∧ (decode cX11_richest 8 = .ok (.aload_n 0, 1)) ∧ (decode cX11_richest 9 = .ok (.iload_n 1, 1)) ∧ (decode cX11_richest 10 = .ok (.invokevirtual 310, 3)) ∧ (decode cX11_richest 13 = .ok (.iconst (-1), 1)) ∧ (decode cX11_richest 14 = .ok (.istore_n 2, 1)) := by decide +kernel
theorem dX11_richest_0 : decode cX11_richest 0 = .ok (.aload_n 0, 1) := bdX11_richest_0.1
theorem dX11_richest_1 : decode cX11_richest 1 = .ok (.iload_n 1, 1) := bdX11_richest_0.2.1
theorem dX11_richest_2 : decode cX11_richest 2 = .ok (.iconst 0, 1) := bdX11_richest_0.2.2.1
theorem dX11_richest_3 : decode cX11_richest 3 = .ok (.bipush 50, 2) := bdX11_richest_0.2.2.2.1
theorem dX11_richest_5 : decode cX11_richest 5 = .ok (.invokevirtual 206, 3) := bdX11_richest_0.2.2.2.2.1
theorem dX11_richest_8 : decode cX11_richest 8 = .ok (.aload_n 0, 1) := bdX11_richest_0.2.2.2.2.2.1
theorem dX11_richest_9 : decode cX11_richest 9 = .ok (.iload_n 1, 1) := bdX11_richest_0.2.2.2.2.2.2.1
theorem dX11_richest_10 : decode cX11_richest 10 = .ok (.invokevirtual 310, 3) := bdX11_richest_0.2.2.2.2.2.2.2.1
theorem dX11_richest_13 : decode cX11_richest 13 = .ok (.iconst (-1), 1) := bdX11_richest_0.2.2.2.2.2.2.2.2.1
theorem dX11_richest_14 : decode cX11_richest 14 = .ok (.istore_n 2, 1) := bdX11_richest_0.2.2.2.2.2.2.2.2.2
theorem bdX11_richest_15 : (decode cX11_richest 15 = .ok (.iconst (-1), 1)) ∧ (decode cX11_richest 16 = .ok (.istore_n 3, 1)) ∧ (decode cX11_richest 17 = .ok (.iconst 0, 1)) ∧ (decode cX11_richest 18 = .ok (.istore 4, 2)) ∧ (decode cX11_richest 20 = .ok (.iload 4, 2)) ∧ (decode cX11_richest 22 = .ok (.aload_n 0, 1)) ∧ (decode cX11_richest 23 = .ok (.getfield 35, 3)) ∧ (decode cX11_richest 26 = .ok (.getfield 89, 3)) ∧ (decode cX11_richest 29 = .ok (.getfield 106, 3)) ∧ (decode cX11_richest 32 = .ok (.if_icmp .ge 37, 3)) := by decide +kernel
theorem dX11_richest_15 : decode cX11_richest 15 = .ok (.iconst (-1), 1) := bdX11_richest_15.1
theorem dX11_richest_16 : decode cX11_richest 16 = .ok (.istore_n 3, 1) := bdX11_richest_15.2.1
theorem dX11_richest_17 : decode cX11_richest 17 = .ok (.iconst 0, 1) := bdX11_richest_15.2.2.1
theorem dX11_richest_18 : decode cX11_richest 18 = .ok (.istore 4, 2) := bdX11_richest_15.2.2.2.1
theorem dX11_richest_20 : decode cX11_richest 20 = .ok (.iload 4, 2) := bdX11_richest_15.2.2.2.2.1
theorem dX11_richest_22 : decode cX11_richest 22 = .ok (.aload_n 0, 1) := bdX11_richest_15.2.2.2.2.2.1
theorem dX11_richest_23 : decode cX11_richest 23 = .ok (.getfield 35, 3) := bdX11_richest_15.2.2.2.2.2.2.1
theorem dX11_richest_26 : decode cX11_richest 26 = .ok (.getfield 89, 3) := bdX11_richest_15.2.2.2.2.2.2.2.1
theorem dX11_richest_29 : decode cX11_richest 29 = .ok (.getfield 106, 3) := bdX11_richest_15.2.2.2.2.2.2.2.2.1
theorem dX11_richest_32 : decode cX11_richest 32 = .ok (.if_icmp .ge 37, 3) := bdX11_richest_15.2.2.2.2.2.2.2.2.2
theorem bdX11_richest_35 : (decode cX11_richest 35 = .ok (.aload_n 0, 1)) ∧ (decode cX11_richest 36 = .ok (.getfield 52, 3)) ∧ (decode cX11_richest 39 = .ok (.getfield 175, 3)) ∧ (decode cX11_richest 42 = .ok (.iload 4, 2)) ∧ (decode cX11_richest 44 = .ok (.iaload, 1)) ∧ (decode cX11_richest 45 = .ok (.iload_n 3, 1)) ∧ (decode cX11_richest 46 = .ok (.if_icmp .le 17, 3)) ∧ (decode cX11_richest 49 = .ok (.aload_n 0, 1)) ∧ (decode cX11_richest 50 = .ok (.getfield 52, 3)) ∧ (decode cX11_richest 53 = .ok (.getfield 175, 3)) := by decide +kernel
theorem dX11_richest_35 : decode cX11_richest 35 = .ok (.aload_n 0, 1) := bdX11_richest_35.1
theorem dX11_richest_36 : decode cX11_richest 36 = .ok (.getfield 52, 3) := bdX11_richest_35.2.1
theorem dX11_richest_39 : decode cX11_richest 39 = .ok (.getfield 175, 3) := bdX11_richest_35.2.2.1
theorem dX11_richest_42 : decode cX11_richest 42 = .ok (.iload 4, 2) := bdX11_richest_35.2.2.2.1
theorem dX11_richest_44 : decode cX11_richest 44 = .ok (.iaload, 1) := bdX11_richest_35.2.2.2.2.1
theorem dX11_richest_45 : decode cX11_richest 45 = .ok (.iload_n 3, 1) := bdX11_richest_35.2.2.2.2.2.1
theorem dX11_richest_46 : decode cX11_richest 46 = .ok (.if_icmp .le 17, 3) := bdX11_richest_35.2.2.2.2.2.2.1
theorem dX11_richest_49 : decode cX11_richest 49 = .ok (.aload_n 0, 1) := bdX11_richest_35.2.2.2.2.2.2.2.1
theorem dX11_richest_50 : decode cX11_richest 50 = .ok (.getfield 52, 3) := bdX11_richest_35.2.2.2.2.2.2.2.2.1
theorem dX11_richest_53 : decode cX11_richest 53 = .ok (.getfield 175, 3) := bdX11_richest_35.2.2.2.2.2.2.2.2.2
theorem bdX11_richest_56 : (decode cX11_richest 56 = .ok (.iload 4, 2)) ∧ (decode cX11_richest 58 = .ok (.iaload, 1)) ∧ (decode cX11_richest 59 = .ok (.istore_n 3, 1)) ∧ (decode cX11_richest 60 = .ok (.iload 4, 2)) ∧ (decode cX11_richest 62 = .ok (.istore_n 2, 1)) ∧ (decode cX11_richest 63 = .ok (.iinc 4 1, 3)) ∧ (decode cX11_richest 66 = .ok (.goto (-46), 3)) ∧ (decode cX11_richest 69 = .ok (.iload_n 2, 1)) ∧ (decode cX11_richest 70 = .ok (.ireturn, 1)) := by decide +kernel
theorem dX11_richest_56 : decode cX11_richest 56 = .ok (.iload 4, 2) := bdX11_richest_56.1
theorem dX11_richest_58 : decode cX11_richest 58 = .ok (.iaload, 1) := bdX11_richest_56.2.1
theorem dX11_richest_59 : decode cX11_richest 59 = .ok (.istore_n 3, 1) := bdX11_richest_56.2.2.1
theorem dX11_richest_60 : decode cX11_richest 60 = .ok (.iload 4, 2) := bdX11_richest_56.2.2.2.1
theorem dX11_richest_62 : decode cX11_richest 62 = .ok (.istore_n 2, 1) := bdX11_richest_56.2.2.2.2.1
theorem dX11_richest_63 : decode cX11_richest 63 = .ok (.iinc 4 1, 3) := bdX11_richest_56.2.2.2.2.2.1
theorem dX11_richest_66 : decode cX11_richest 66 = .ok (.goto (-46), 3) := bdX11_richest_56.2.2.2.2.2.2.1
theorem dX11_richest_69 : decode cX11_richest 69 = .ok (.iload_n 2, 1) := bdX11_richest_56.2.2.2.2.2.2.2.1
theorem dX11_richest_70 : decode cX11_richest 70 = .ok (.ireturn, 1) := bdX11_richest_56.2.2.2.2.2.2.2.2
theorem bdX11_change_0 : (decode cX11_change 0 = .ok (.aload_n 0, 1)) ∧ (decode cX11_change 1 = .ok (.iload_n 1, 1)) ∧ (decode cX11_change 2 = .ok (.iconst 1, 1)) ∧ (decode cX11_change 3 = .ok (.bipush 20, 2)) ∧ (decode cX11_change 5 = .ok (.invokevirtual 206, 3)) ∧ (decode cX11_change 8 = .ok (.aload_n 0, 1)) ∧ (decode cX11_change 9 = .ok (.iload_n 1, 1)) ∧ (decode cX11_change 10 = .ok (.invokevirtual 310, 3)) ∧ (decode cX11_change 13 = .ok (.aload_n 0, 1)) ∧ (decode cX11_change 14 = .ok (.getfield 52, 3)) := by decide +kernel
theorem dX11_change_0 : decode cX11_change 0 = .ok (.aload_n 0, 1) := bdX11_change_0.1
theorem dX11_change_1 : decode cX11_change 1 = .ok (.iload_n 1, 1) := bdX11_change_0.2.1
theorem dX11_change_2 : decode cX11_change 2 = .ok (.iconst 1, 1) := bdX11_change_0.2.2.1
theorem dX11_change_3 : decode cX11_change 3 = .ok (.bipush 20, 2) := bdX11_change_0.2.2.2.1
theorem dX11_change_5 : decode cX11_change 5 = .ok (.invokevirtual 206, 3) := bdX11_change_0.2.2.2.2.1
theorem dX11_change_8 : decode cX11_change 8 = .ok (.aload_n 0, 1) := bdX11_change_0.2.2.2.2.2.1
theorem dX11_change_9 : decode cX11_change 9 = .ok (.iload_n 1, 1) := bdX11_change_0.2.2.2.2.2.2.1
theorem dX11_change_10 : decode cX11_change 10 = .ok (.invokevirtual 310, 3) := bdX11_change_0.2.2.2.2.2.2.2.1
theorem dX11_change_13 : decode cX11_change 13 = .ok (.aload_n 0, 1) := bdX11_change_0.2.2.2.2.2.2.2.2.1
theorem dX11_change_14 : decode cX11_change 14 = .ok (.getfield 52, 3) := bdX11_change_0.2.2.2.2.2.2.2.2.2
theorem bdX11_change_17 : (decode cX11_change 17 = .ok (.invokevirtual 323, 3)) ∧ (decode cX11_change 20 = .ok (.istore_n 2, 1)) ∧ (decode cX11_change 21 = .ok (.iconst (-1), 1)) ∧ (decode cX11_change 22 = .ok (.istore_n 3, 1)) ∧ (decode cX11_change 23 = .ok (.iconst 0, 1)) ∧ (decode cX11_change 24 = .ok (.istore 4, 2)) ∧ (decode cX11_change 26 = .ok (.iload 4, 2)) ∧ (decode cX11_change 28 = .ok (.aload_n 0, 1)) ∧ (decode cX11_change 29 = .ok (.getfield 35, 3)) ∧ (decode cX11_change 32 = .ok (.getfield 89, 3)) := by decide +kernel
theorem dX11_change_17 : decode cX11_change 17 = .ok (.invokevirtual 323, 3) := bdX11_change_17.1
theorem dX11_change_20 : decode cX11_change 20 = .ok (.istore_n 2, 1) := bdX11_change_17.2.1
theorem dX11_change_21 : decode cX11_change 21 = .ok (.iconst (-1), 1) := bdX11_change_17.2.2.1
theorem dX11_change_22 : decode cX11_change 22 = .ok (.istore_n 3, 1) := bdX11_change_17.2.2.2.1
theorem dX11_change_23 : decode cX11_change 23 = .ok (.iconst 0, 1) := bdX11_change_17.2.2.2.2.1
theorem dX11_change_24 : decode cX11_change 24 = .ok (.istore 4, 2) := bdX11_change_17.2.2.2.2.2.1
theorem dX11_change_26 : decode cX11_change 26 = .ok (.iload 4, 2) := bdX11_change_17.2.2.2.2.2.2.1
theorem dX11_change_28 : decode cX11_change 28 = .ok (.aload_n 0, 1) := bdX11_change_17.2.2.2.2.2.2.2.1
theorem dX11_change_29 : decode cX11_change 29 = .ok (.getfield 35, 3) := bdX11_change_17.2.2.2.2.2.2.2.2.1
theorem dX11_change_32 : decode cX11_change 32 = .ok (.getfield 89, 3) := bdX11_change_17.2.2.2.2.2.2.2.2.2
theorem bdX11_change_35 : (decode cX11_change 35 = .ok (.getfield 106, 3)) ∧ (decode cX11_change 38 = .ok (.if_icmp .ge 78, 3)) ∧ (decode cX11_change 41 = .ok (.aload_n 0, 1)) ∧ (decode cX11_change 42 = .ok (.getfield 52, 3)) ∧ (decode cX11_change 45 = .ok (.aload_n 0, 1)) ∧ (decode cX11_change 46 = .ok (.getfield 42, 3)) ∧ (decode cX11_change 49 = .ok (.getfield 96, 3)) ∧ (decode cX11_change 52 = .ok (.invokevirtual 299, 3)) ∧ (decode cX11_change 55 = .ok (.aload_n 0, 1)) ∧ (decode cX11_change 56 = .ok (.getfield 52, 3)) := by decide +kernel
theorem dX11_change_35 : decode cX11_change 35 = .ok (.getfield 106, 3) := bdX11_change_35.1
theorem dX11_change_38 : decode cX11_change 38 = .ok (.if_icmp .ge 78, 3) := bdX11_change_35.2.1
theorem dX11_change_41 : decode cX11_change 41 = .ok (.aload_n 0, 1) := bdX11_change_35.2.2.1
theorem dX11_change_42 : decode cX11_change 42 = .ok (.getfield 52, 3) := bdX11_change_35.2.2.2.1
theorem dX11_change_45 : decode cX11_change 45 = .ok (.aload_n 0, 1) := bdX11_change_35.2.2.2.2.1
theorem dX11_change_46 : decode cX11_change 46 = .ok (.getfield 42, 3) := bdX11_change_35.2.2.2.2.2.1
theorem dX11_change_49 : decode cX11_change 49 = .ok (.getfield 96, 3) := bdX11_change_35.2.2.2.2.2.2.1
theorem dX11_change_52 : decode cX11_change 52 = .ok (.invokevirtual 299, 3) := bdX11_change_35.2.2.2.2.2.2.2.1
theorem dX11_change_55 : decode cX11_change 55 = .ok (.aload_n 0, 1) := bdX11_change_35.2.2.2.2.2.2.2.2.1
theorem dX11_change_56 : decode cX11_change 56 = .ok (.getfield 52, 3) := bdX11_change_35.2.2.2.2.2.2.2.2.2
theorem bdX11_change_59 : (decode cX11_change 59 = .ok (.iload 4, 2)) ∧ (decode cX11_change 61 = .ok (.invokevirtual 230, 3)) ∧ (decode cX11_change 64 = .ok (.aload_n 0, 1)) ∧ (decode cX11_change 65 = .ok (.getfield 35, 3)) ∧ (decode cX11_change 68 = .ok (.aload_n 0, 1)) ∧ (decode cX11_change 69 = .ok (.getfield 52, 3)) ∧ (decode cX11_change 72 = .ok (.iconst (-1), 1)) ∧ (decode cX11_change 73 = .ok (.invokevirtual 99, 3)) ∧ (decode cX11_change 76 = .ok (.aload_n 0, 1)) ∧ (decode cX11_change 77 = .ok (.getfield 35, 3)) := by decide +kernel
theorem dX11_change_59 : decode cX11_change 59 = .ok (.iload 4, 2) := bdX11_change_59.1
theorem dX11_change_61 : decode cX11_change 61 = .ok (.invokevirtual 230, 3) := bdX11_change_59.2.1
theorem dX11_change_64 : decode cX11_change 64 = .ok (.aload_n 0, 1) := bdX11_change_59.2.2.1
theorem dX11_change_65 : decode cX11_change 65 = .ok (.getfield 35, 3) := bdX11_change_59.2.2.2.1
theorem dX11_change_68 : decode cX11_change 68 = .ok (.aload_n 0, 1) := bdX11_change_59.2.2.2.2.1
theorem dX11_change_69 : decode cX11_change 69 = .ok (.getfield 52, 3) := bdX11_change_59.2.2.2.2.2.1
theorem dX11_change_72 : decode cX11_change 72 = .ok (.iconst (-1), 1) := bdX11_change_59.2.2.2.2.2.2.1
theorem dX11_change_73 : decode cX11_change 73 = .ok (.invokevirtual 99, 3) := bdX11_change_59.2.2.2.2.2.2.2.1
theorem dX11_change_76 : decode cX11_change 76 = .ok (.aload_n 0, 1) := bdX11_change_59.2.2.2.2.2.2.2.2.1
theorem dX11_change_77 : decode cX11_change 77 = .ok (.getfield 35, 3) := bdX11_change_59.2.2.2.2.2.2.2.2.2
theorem bdX11_change_80 : (decode cX11_change 80 = .ok (.aload_n 0, 1)) ∧ (decode cX11_change 81 = .ok (.getfield 52, 3)) ∧ (decode cX11_change 84 = .ok (.iload_n 1, 1)) ∧ (decode cX11_change 85 = .ok (.invokevirtual 240, 3)) ∧ (decode cX11_change 88 = .ok (.aload_n 0, 1)) ∧ (decode cX11_change 89 = .ok (.getfield 52, 3)) ∧ (decode cX11_change 92 = .ok (.invokevirtual 323, 3)) ∧ (decode cX11_change 95 = .ok (.iload_n 2, 1)) ∧ (decode cX11_change 96 = .ok (.if_icmp .le 14, 3)) ∧ (decode cX11_change 99 = .ok (.aload_n 0, 1)) := by decide +kernel
theorem dX11_change_80 : decode cX11_change 80 = .ok (.aload_n 0, 1) := bdX11_change_80.1
theorem dX11_change_81 : decode cX11_change 81 = .ok (.getfield 52, 3) := bdX11_change_80.2.1
theorem dX11_change_84 : decode cX11_change 84 = .ok (.iload_n 1, 1) := bdX11_change_80.2.2.1
theorem dX11_change_85 : decode cX11_change 85 = .ok (.invokevirtual 240, 3) := bdX11_change_80.2.2.2.1
theorem dX11_change_88 : decode cX11_change 88 = .ok (.aload_n 0, 1) := bdX11_change_80.2.2.2.2.1
theorem dX11_change_89 : decode cX11_change 89 = .ok (.getfield 52, 3) := bdX11_change_80.2.2.2.2.2.1
theorem dX11_change_92 : decode cX11_change 92 = .ok (.invokevirtual 323, 3) := bdX11_change_80.2.2.2.2.2.2.1
theorem dX11_change_95 : decode cX11_change 95 = .ok (.iload_n 2, 1) := bdX11_change_80.2.2.2.2.2.2.2.1
theorem dX11_change_96 : decode cX11_change 96 = .ok (.if_icmp .le 14, 3) := bdX11_change_80.2.2.2.2.2.2.2.2.1
theorem dX11_change_99 : decode cX11_change 99 = .ok (.aload_n 0, 1) := bdX11_change_80.2.2.2.2.2.2.2.2.2
theorem bdX11_change_100 : (decode cX11_change 100 = .ok (.getfield 52, 3)) ∧ (decode cX11_change 103 = .ok (.invokevirtual 323, 3)) ∧ (decode cX11_change 106 = .ok (.istore_n 2, 1)) ∧ (decode cX11_change 107 = .ok (.iload 4, 2)) ∧ (decode cX11_change 109 = .ok (.istore_n 3, 1)) ∧ (decode cX11_change 110 = .ok (.iinc 4 1, 3)) ∧ (decode cX11_change 113 = .ok (.goto (-87), 3)) ∧ (decode cX11_change 116 = .ok (.iload_n 3, 1)) ∧ (decode cX11_change 117 = .ok (.ireturn, 1)) := by decide +kernel
theorem dX11_change_100 : decode cX11_change 100 = .ok (.getfield 52, 3) := bdX11_change_100.1
theorem dX11_change_103 : decode cX11_change 103 = .ok (.invokevirtual 323, 3) := bdX11_change_100.2.1
theorem dX11_change_106 : decode cX11_change 106 = .ok (.istore_n 2, 1) := bdX11_change_100.2.2.1
theorem dX11_change_107 : decode cX11_change 107 = .ok (.iload 4, 2) := bdX11_change_100.2.2.2.1
theorem dX11_change_109 : decode cX11_change 109 = .ok (.istore_n 3, 1) := bdX11_change_100.2.2.2.2.1
theorem dX11_change_110 : decode cX11_change 110 = .ok (.iinc 4 1, 3) := bdX11_change_100.2.2.2.2.2.1
theorem dX11_change_113 : decode cX11_change 113 = .ok (.goto (-87), 3) := bdX11_change_100.2.2.2.2.2.2.1
theorem dX11_change_116 : decode cX11_change 116 = .ok (.iload_n 3, 1) := bdX11_change_100.2.2.2.2.2.2.2.1
theorem dX11_change_117 : decode cX11_change 117 = .ok (.ireturn, 1) := bdX11_change_100.2.2.2.2.2.2.2.2
theorem bdX11_foresee_0 : (decode cX11_foresee 0 = .ok (.aload_n 0, 1)) ∧ (decode cX11_foresee 1 = .ok (.getfield 52, 3)) ∧ (decode cX11_foresee 4 = .ok (.aload_n 0, 1)) ∧ (decode cX11_foresee 5 = .ok (.getfield 42, 3)) ∧ (decode cX11_foresee 8 = .ok (.getfield 96, 3)) ∧ (decode cX11_foresee 11 = .ok (.invokevirtual 299, 3)) ∧ (decode cX11_foresee 14 = .ok (.aload_n 0, 1)) ∧ (decode cX11_foresee 15 = .ok (.getfield 35, 3)) ∧ (decode cX11_foresee 18 = .ok (.aload_n 0, 1)) ∧ (decode cX11_foresee 19 = .ok (.getfield 52, 3)) := by decide +kernel
theorem dX11_foresee_0 : decode cX11_foresee 0 = .ok (.aload_n 0, 1) := bdX11_foresee_0.1
theorem dX11_foresee_1 : decode cX11_foresee 1 = .ok (.getfield 52, 3) := bdX11_foresee_0.2.1
theorem dX11_foresee_4 : decode cX11_foresee 4 = .ok (.aload_n 0, 1) := bdX11_foresee_0.2.2.1
theorem dX11_foresee_5 : decode cX11_foresee 5 = .ok (.getfield 42, 3) := bdX11_foresee_0.2.2.2.1
theorem dX11_foresee_8 : decode cX11_foresee 8 = .ok (.getfield 96, 3) := bdX11_foresee_0.2.2.2.2.1
theorem dX11_foresee_11 : decode cX11_foresee 11 = .ok (.invokevirtual 299, 3) := bdX11_foresee_0.2.2.2.2.2.1
theorem dX11_foresee_14 : decode cX11_foresee 14 = .ok (.aload_n 0, 1) := bdX11_foresee_0.2.2.2.2.2.2.1
theorem dX11_foresee_15 : decode cX11_foresee 15 = .ok (.getfield 35, 3) := bdX11_foresee_0.2.2.2.2.2.2.2.1
theorem dX11_foresee_18 : decode cX11_foresee 18 = .ok (.aload_n 0, 1) := bdX11_foresee_0.2.2.2.2.2.2.2.2.1
theorem dX11_foresee_19 : decode cX11_foresee 19 = .ok (.getfield 52, 3) := bdX11_foresee_0.2.2.2.2.2.2.2.2.2
theorem bdX11_foresee_22 : (decode cX11_foresee 22 = .ok (.iload_n 1, 1)) ∧ (decode cX11_foresee 23 = .ok (.invokevirtual 240, 3)) ∧ (decode cX11_foresee 26 = .ok (.return_, 1)) := by decide +kernel
theorem dX11_foresee_22 : decode cX11_foresee 22 = .ok (.iload_n 1, 1) := bdX11_foresee_22.1
theorem dX11_foresee_23 : decode cX11_foresee 23 = .ok (.invokevirtual 240, 3) := bdX11_foresee_22.2.1
theorem dX11_foresee_26 : decode cX11_foresee 26 = .ok (.return_, 1) := bdX11_foresee_22.2.2
theorem bdX11_lotsFor_0 : (decode cX11_lotsFor 0 = .ok (.iload_n 2, 1)) ∧ (decode cX11_lotsFor 1 = .ok (.iconst (-1), 1)) ∧ (decode cX11_lotsFor 2 = .ok (.if_icmp .eq 8, 3)) ∧ (decode cX11_lotsFor 5 = .ok (.aload_n 0, 1)) ∧ (decode cX11_lotsFor 6 = .ok (.iload_n 2, 1)) ∧ (decode cX11_lotsFor 7 = .ok (.invokevirtual 157, 3)) ∧ (decode cX11_lotsFor 10 = .ok (.aload_n 0, 1)) ∧ (decode cX11_lotsFor 11 = .ok (.iload_n 1, 1)) ∧ (decode cX11_lotsFor 12 = .ok (.iconst 0, 1)) ∧ (decode cX11_lotsFor 13 = .ok (.bipush 99, 2)) := by decide +kernel
theorem dX11_lotsFor_0 : decode cX11_lotsFor 0 = .ok (.iload_n 2, 1) := bdX11_lotsFor_0.1
theorem dX11_lotsFor_1 : decode cX11_lotsFor 1 = .ok (.iconst (-1), 1) := bdX11_lotsFor_0.2.1
theorem dX11_lotsFor_2 : decode cX11_lotsFor 2 = .ok (.if_icmp .eq 8, 3) := bdX11_lotsFor_0.2.2.1
theorem dX11_lotsFor_5 : decode cX11_lotsFor 5 = .ok (.aload_n 0, 1) := bdX11_lotsFor_0.2.2.2.1
theorem dX11_lotsFor_6 : decode cX11_lotsFor 6 = .ok (.iload_n 2, 1) := bdX11_lotsFor_0.2.2.2.2.1
theorem dX11_lotsFor_7 : decode cX11_lotsFor 7 = .ok (.invokevirtual 157, 3) := bdX11_lotsFor_0.2.2.2.2.2.1
theorem dX11_lotsFor_10 : decode cX11_lotsFor 10 = .ok (.aload_n 0, 1) := bdX11_lotsFor_0.2.2.2.2.2.2.1
theorem dX11_lotsFor_11 : decode cX11_lotsFor 11 = .ok (.iload_n 1, 1) := bdX11_lotsFor_0.2.2.2.2.2.2.2.1
theorem dX11_lotsFor_12 : decode cX11_lotsFor 12 = .ok (.iconst 0, 1) := bdX11_lotsFor_0.2.2.2.2.2.2.2.2.1
theorem dX11_lotsFor_13 : decode cX11_lotsFor 13 = .ok (.bipush 99, 2) := bdX11_lotsFor_0.2.2.2.2.2.2.2.2.2
theorem bdX11_lotsFor_15 : (decode cX11_lotsFor 15 = .ok (.invokevirtual 206, 3)) ∧ (decode cX11_lotsFor 18 = .ok (.iconst 0, 1)) ∧ (decode cX11_lotsFor 19 = .ok (.istore_n 3, 1)) ∧ (decode cX11_lotsFor 20 = .ok (.iconst 0, 1)) ∧ (decode cX11_lotsFor 21 = .ok (.istore 4, 2)) ∧ (decode cX11_lotsFor 23 = .ok (.iload 4, 2)) ∧ (decode cX11_lotsFor 25 = .ok (.iconst 1, 1)) ∧ (decode cX11_lotsFor 26 = .ok (.aload_n 0, 1)) ∧ (decode cX11_lotsFor 27 = .ok (.getfield 35, 3)) ∧ (decode cX11_lotsFor 30 = .ok (.getfield 89, 3)) := by decide +kernel
theorem dX11_lotsFor_15 : decode cX11_lotsFor 15 = .ok (.invokevirtual 206, 3) := bdX11_lotsFor_15.1
theorem dX11_lotsFor_18 : decode cX11_lotsFor 18 = .ok (.iconst 0, 1) := bdX11_lotsFor_15.2.1
theorem dX11_lotsFor_19 : decode cX11_lotsFor 19 = .ok (.istore_n 3, 1) := bdX11_lotsFor_15.2.2.1
theorem dX11_lotsFor_20 : decode cX11_lotsFor 20 = .ok (.iconst 0, 1) := bdX11_lotsFor_15.2.2.2.1
theorem dX11_lotsFor_21 : decode cX11_lotsFor 21 = .ok (.istore 4, 2) := bdX11_lotsFor_15.2.2.2.2.1
theorem dX11_lotsFor_23 : decode cX11_lotsFor 23 = .ok (.iload 4, 2) := bdX11_lotsFor_15.2.2.2.2.2.1
theorem dX11_lotsFor_25 : decode cX11_lotsFor 25 = .ok (.iconst 1, 1) := bdX11_lotsFor_15.2.2.2.2.2.2.1
theorem dX11_lotsFor_26 : decode cX11_lotsFor 26 = .ok (.aload_n 0, 1) := bdX11_lotsFor_15.2.2.2.2.2.2.2.1
theorem dX11_lotsFor_27 : decode cX11_lotsFor 27 = .ok (.getfield 35, 3) := bdX11_lotsFor_15.2.2.2.2.2.2.2.2.1
theorem dX11_lotsFor_30 : decode cX11_lotsFor 30 = .ok (.getfield 89, 3) := bdX11_lotsFor_15.2.2.2.2.2.2.2.2.2
theorem bdX11_lotsFor_33 : (decode cX11_lotsFor 33 = .ok (.getfield 106, 3)) ∧ (decode cX11_lotsFor 36 = .ok (.ishl, 1)) ∧ (decode cX11_lotsFor 37 = .ok (.if_icmp .ge 65, 3)) ∧ (decode cX11_lotsFor 40 = .ok (.aload_n 0, 1)) ∧ (decode cX11_lotsFor 41 = .ok (.getfield 52, 3)) ∧ (decode cX11_lotsFor 44 = .ok (.iload 4, 2)) ∧ (decode cX11_lotsFor 46 = .ok (.putfield 135, 3)) ∧ (decode cX11_lotsFor 49 = .ok (.iload_n 2, 1)) ∧ (decode cX11_lotsFor 50 = .ok (.iconst (-1), 1)) ∧ (decode cX11_lotsFor 51 = .ok (.if_icmp .eq 15, 3)) := by decide +kernel
theorem dX11_lotsFor_33 : decode cX11_lotsFor 33 = .ok (.getfield 106, 3) := bdX11_lotsFor_33.1
theorem dX11_lotsFor_36 : decode cX11_lotsFor 36 = .ok (.ishl, 1) := bdX11_lotsFor_33.2.1
theorem dX11_lotsFor_37 : decode cX11_lotsFor 37 = .ok (.if_icmp .ge 65, 3) := bdX11_lotsFor_33.2.2.1
theorem dX11_lotsFor_40 : decode cX11_lotsFor 40 = .ok (.aload_n 0, 1) := bdX11_lotsFor_33.2.2.2.1
theorem dX11_lotsFor_41 : decode cX11_lotsFor 41 = .ok (.getfield 52, 3) := bdX11_lotsFor_33.2.2.2.2.1
theorem dX11_lotsFor_44 : decode cX11_lotsFor 44 = .ok (.iload 4, 2) := bdX11_lotsFor_33.2.2.2.2.2.1
theorem dX11_lotsFor_46 : decode cX11_lotsFor 46 = .ok (.putfield 135, 3) := bdX11_lotsFor_33.2.2.2.2.2.2.1
theorem dX11_lotsFor_49 : decode cX11_lotsFor 49 = .ok (.iload_n 2, 1) := bdX11_lotsFor_33.2.2.2.2.2.2.2.1
theorem dX11_lotsFor_50 : decode cX11_lotsFor 50 = .ok (.iconst (-1), 1) := bdX11_lotsFor_33.2.2.2.2.2.2.2.2.1
theorem dX11_lotsFor_51 : decode cX11_lotsFor 51 = .ok (.if_icmp .eq 15, 3) := bdX11_lotsFor_33.2.2.2.2.2.2.2.2.2
theorem bdX11_lotsFor_54 : (decode cX11_lotsFor 54 = .ok (.aload_n 0, 1)) ∧ (decode cX11_lotsFor 55 = .ok (.getfield 52, 3)) ∧ (decode cX11_lotsFor 58 = .ok (.iload_n 2, 1)) ∧ (decode cX11_lotsFor 59 = .ok (.invokevirtual 169, 3)) ∧ (decode cX11_lotsFor 62 = .ok (.iconst 1, 1)) ∧ (decode cX11_lotsFor 63 = .ok (.if_icmp .ne 7, 3)) ∧ (decode cX11_lotsFor 66 = .ok (.iconst 1, 1)) ∧ (decode cX11_lotsFor 67 = .ok (.goto 4, 3)) ∧ (decode cX11_lotsFor 70 = .ok (.iconst 0, 1)) ∧ (decode cX11_lotsFor 71 = .ok (.istore 5, 2)) := by decide +kernel
theorem dX11_lotsFor_54 : decode cX11_lotsFor 54 = .ok (.aload_n 0, 1) := bdX11_lotsFor_54.1
theorem dX11_lotsFor_55 : decode cX11_lotsFor 55 = .ok (.getfield 52, 3) := bdX11_lotsFor_54.2.1
theorem dX11_lotsFor_58 : decode cX11_lotsFor 58 = .ok (.iload_n 2, 1) := bdX11_lotsFor_54.2.2.1
theorem dX11_lotsFor_59 : decode cX11_lotsFor 59 = .ok (.invokevirtual 169, 3) := bdX11_lotsFor_54.2.2.2.1
theorem dX11_lotsFor_62 : decode cX11_lotsFor 62 = .ok (.iconst 1, 1) := bdX11_lotsFor_54.2.2.2.2.1
theorem dX11_lotsFor_63 : decode cX11_lotsFor 63 = .ok (.if_icmp .ne 7, 3) := bdX11_lotsFor_54.2.2.2.2.2.1
theorem dX11_lotsFor_66 : decode cX11_lotsFor 66 = .ok (.iconst 1, 1) := bdX11_lotsFor_54.2.2.2.2.2.2.1
theorem dX11_lotsFor_67 : decode cX11_lotsFor 67 = .ok (.goto 4, 3) := bdX11_lotsFor_54.2.2.2.2.2.2.2.1
theorem dX11_lotsFor_70 : decode cX11_lotsFor 70 = .ok (.iconst 0, 1) := bdX11_lotsFor_54.2.2.2.2.2.2.2.2.1
theorem dX11_lotsFor_71 : decode cX11_lotsFor 71 = .ok (.istore 5, 2) := bdX11_lotsFor_54.2.2.2.2.2.2.2.2.2
theorem bdX11_lotsFor_73 : (decode cX11_lotsFor 73 = .ok (.iload 5, 2)) ∧ (decode cX11_lotsFor 75 = .ok (.ifCond .eq 21, 3)) ∧ (decode cX11_lotsFor 78 = .ok (.aload_n 0, 1)) ∧ (decode cX11_lotsFor 79 = .ok (.getfield 35, 3)) ∧ (decode cX11_lotsFor 82 = .ok (.aload_n 0, 1)) ∧ (decode cX11_lotsFor 83 = .ok (.getfield 52, 3)) ∧ (decode cX11_lotsFor 86 = .ok (.invokevirtual 326, 3)) ∧ (decode cX11_lotsFor 89 = .ok (.iload_n 1, 1)) ∧ (decode cX11_lotsFor 90 = .ok (.if_icmp .lt 6, 3)) ∧ (decode cX11_lotsFor 93 = .ok (.iinc 3 1, 3)) := by decide +kernel
theorem dX11_lotsFor_73 : decode cX11_lotsFor 73 = .ok (.iload 5, 2) := bdX11_lotsFor_73.1
theorem dX11_lotsFor_75 : decode cX11_lotsFor 75 = .ok (.ifCond .eq 21, 3) := bdX11_lotsFor_73.2.1
theorem dX11_lotsFor_78 : decode cX11_lotsFor 78 = .ok (.aload_n 0, 1) := bdX11_lotsFor_73.2.2.1
theorem dX11_lotsFor_79 : decode cX11_lotsFor 79 = .ok (.getfield 35, 3) := bdX11_lotsFor_73.2.2.2.1
theorem dX11_lotsFor_82 : decode cX11_lotsFor 82 = .ok (.aload_n 0, 1) := bdX11_lotsFor_73.2.2.2.2.1
theorem dX11_lotsFor_83 : decode cX11_lotsFor 83 = .ok (.getfield 52, 3) := bdX11_lotsFor_73.2.2.2.2.2.1
theorem dX11_lotsFor_86 : decode cX11_lotsFor 86 = .ok (.invokevirtual 326, 3) := bdX11_lotsFor_73.2.2.2.2.2.2.1
theorem dX11_lotsFor_89 : decode cX11_lotsFor 89 = .ok (.iload_n 1, 1) := bdX11_lotsFor_73.2.2.2.2.2.2.2.1
theorem dX11_lotsFor_90 : decode cX11_lotsFor 90 = .ok (.if_icmp .lt 6, 3) := bdX11_lotsFor_73.2.2.2.2.2.2.2.2.1
theorem dX11_lotsFor_93 : decode cX11_lotsFor 93 = .ok (.iinc 3 1, 3) := bdX11_lotsFor_73.2.2.2.2.2.2.2.2.2
theorem bdX11_lotsFor_96 : (decode cX11_lotsFor 96 = .ok (.iinc 4 1, 3)) ∧ (decode cX11_lotsFor 99 = .ok (.goto (-76), 3)) ∧ (decode cX11_lotsFor 102 = .ok (.iload_n 3, 1)) ∧ (decode cX11_lotsFor 103 = .ok (.ireturn, 1)) := by decide +kernel
theorem dX11_lotsFor_96 : decode cX11_lotsFor 96 = .ok (.iinc 4 1, 3) := bdX11_lotsFor_96.1
theorem dX11_lotsFor_99 : decode cX11_lotsFor 99 = .ok (.goto (-76), 3) := bdX11_lotsFor_96.2.1
theorem dX11_lotsFor_102 : decode cX11_lotsFor 102 = .ok (.iload_n 3, 1) := bdX11_lotsFor_96.2.2.1
theorem dX11_lotsFor_103 : decode cX11_lotsFor 103 = .ok (.ireturn, 1) := bdX11_lotsFor_96.2.2.2
theorem bdX11_founders_0 : (decode cX11_founders 0 = .ok (.aload_n 0, 1)) ∧ (decode cX11_founders 1 = .ok (.iload_n 3, 1)) ∧ (decode cX11_founders 2 = .ok (.iconst 3, 1)) ∧ (decode cX11_founders 3 = .ok (.invokevirtual 257, 3)) ∧ (decode cX11_founders 6 = .ok (.aload_n 0, 1)) ∧ (decode cX11_founders 7 = .ok (.iload_n 2, 1)) ∧ (decode cX11_founders 8 = .ok (.iconst 0, 1)) ∧ (decode cX11_founders 9 = .ok (.bipush 30, 2)) ∧ (decode cX11_founders 11 = .ok (.invokevirtual 206, 3)) ∧ (decode cX11_founders 14 = .ok (.aload_n 0, 1)) := by decide +kernel
theorem dX11_founders_0 : decode cX11_founders 0 = .ok (.aload_n 0, 1) := bdX11_founders_0.1
theorem dX11_founders_1 : decode cX11_founders 1 = .ok (.iload_n 3, 1) := bdX11_founders_0.2.1
theorem dX11_founders_2 : decode cX11_founders 2 = .ok (.iconst 3, 1) := bdX11_founders_0.2.2.1
theorem dX11_founders_3 : decode cX11_founders 3 = .ok (.invokevirtual 257, 3) := bdX11_founders_0.2.2.2.1
theorem dX11_founders_6 : decode cX11_founders 6 = .ok (.aload_n 0, 1) := bdX11_founders_0.2.2.2.2.1
theorem dX11_founders_7 : decode cX11_founders 7 = .ok (.iload_n 2, 1) := bdX11_founders_0.2.2.2.2.2.1
theorem dX11_founders_8 : decode cX11_founders 8 = .ok (.iconst 0, 1) := bdX11_founders_0.2.2.2.2.2.2.1
theorem dX11_founders_9 : decode cX11_founders 9 = .ok (.bipush 30, 2) := bdX11_founders_0.2.2.2.2.2.2.2.1
theorem dX11_founders_11 : decode cX11_founders 11 = .ok (.invokevirtual 206, 3) := bdX11_founders_0.2.2.2.2.2.2.2.2.1
theorem dX11_founders_14 : decode cX11_founders 14 = .ok (.aload_n 0, 1) := bdX11_founders_0.2.2.2.2.2.2.2.2.2
theorem bdX11_founders_15 : (decode cX11_founders 15 = .ok (.getfield 52, 3)) ∧ (decode cX11_founders 18 = .ok (.aload_n 0, 1)) ∧ (decode cX11_founders 19 = .ok (.getfield 42, 3)) ∧ (decode cX11_founders 22 = .ok (.getfield 96, 3)) ∧ (decode cX11_founders 25 = .ok (.invokevirtual 299, 3)) ∧ (decode cX11_founders 28 = .ok (.iconst 0, 1)) ∧ (decode cX11_founders 29 = .ok (.istore 4, 2)) ∧ (decode cX11_founders 31 = .ok (.iconst 0, 1)) ∧ (decode cX11_founders 32 = .ok (.istore 5, 2)) ∧ (decode cX11_founders 34 = .ok (.iconst 0, 1)) := by decide +kernel
theorem dX11_founders_15 : decode cX11_founders 15 = .ok (.getfield 52, 3) := bdX11_founders_15.1
theorem dX11_founders_18 : decode cX11_founders 18 = .ok (.aload_n 0, 1) := bdX11_founders_15.2.1
theorem dX11_founders_19 : decode cX11_founders 19 = .ok (.getfield 42, 3) := bdX11_founders_15.2.2.1
theorem dX11_founders_22 : decode cX11_founders 22 = .ok (.getfield 96, 3) := bdX11_founders_15.2.2.2.1
theorem dX11_founders_25 : decode cX11_founders 25 = .ok (.invokevirtual 299, 3) := bdX11_founders_15.2.2.2.2.1
theorem dX11_founders_28 : decode cX11_founders 28 = .ok (.iconst 0, 1) := bdX11_founders_15.2.2.2.2.2.1
theorem dX11_founders_29 : decode cX11_founders 29 = .ok (.istore 4, 2) := bdX11_founders_15.2.2.2.2.2.2.1
theorem dX11_founders_31 : decode cX11_founders 31 = .ok (.iconst 0, 1) := bdX11_founders_15.2.2.2.2.2.2.2.1
theorem dX11_founders_32 : decode cX11_founders 32 = .ok (.istore 5, 2) := bdX11_founders_15.2.2.2.2.2.2.2.2.1
theorem dX11_founders_34 : decode cX11_founders 34 = .ok (.iconst 0, 1) := bdX11_founders_15.2.2.2.2.2.2.2.2.2
theorem bdX11_founders_35 : (decode cX11_founders 35 = .ok (.istore 6, 2)) ∧ (decode cX11_founders 37 = .ok (.iload_n 1, 1)) ∧ (decode cX11_founders 38 = .ok (.istore 7, 2)) ∧ (decode cX11_founders 40 = .ok (.iconst 0, 1)) ∧ (decode cX11_founders 41 = .ok (.istore 8, 2)) ∧ (decode cX11_founders 43 = .ok (.iload 8, 2)) ∧ (decode cX11_founders 45 = .ok (.iload_n 2, 1)) ∧ (decode cX11_founders 46 = .ok (.if_icmp .ge 104, 3)) ∧ (decode cX11_founders 49 = .ok (.aload_n 0, 1)) ∧ (decode cX11_founders 50 = .ok (.getfield 52, 3)) := by decide +kernel
theorem dX11_founders_35 : decode cX11_founders 35 = .ok (.istore 6, 2) := bdX11_founders_35.1
theorem dX11_founders_37 : decode cX11_founders 37 = .ok (.iload_n 1, 1) := bdX11_founders_35.2.1
theorem dX11_founders_38 : decode cX11_founders 38 = .ok (.istore 7, 2) := bdX11_founders_35.2.2.1
theorem dX11_founders_40 : decode cX11_founders 40 = .ok (.iconst 0, 1) := bdX11_founders_35.2.2.2.1
theorem dX11_founders_41 : decode cX11_founders 41 = .ok (.istore 8, 2) := bdX11_founders_35.2.2.2.2.1
theorem dX11_founders_43 : decode cX11_founders 43 = .ok (.iload 8, 2) := bdX11_founders_35.2.2.2.2.2.1
theorem dX11_founders_45 : decode cX11_founders 45 = .ok (.iload_n 2, 1) := bdX11_founders_35.2.2.2.2.2.2.1
theorem dX11_founders_46 : decode cX11_founders 46 = .ok (.if_icmp .ge 104, 3) := bdX11_founders_35.2.2.2.2.2.2.2.1
theorem dX11_founders_49 : decode cX11_founders 49 = .ok (.aload_n 0, 1) := bdX11_founders_35.2.2.2.2.2.2.2.2.1
theorem dX11_founders_50 : decode cX11_founders 50 = .ok (.getfield 52, 3) := bdX11_founders_35.2.2.2.2.2.2.2.2.2
theorem bdX11_founders_53 : (decode cX11_founders 53 = .ok (.invokevirtual 329, 3)) ∧ (decode cX11_founders 56 = .ok (.aload_n 0, 1)) ∧ (decode cX11_founders 57 = .ok (.getfield 35, 3)) ∧ (decode cX11_founders 60 = .ok (.aload_n 0, 1)) ∧ (decode cX11_founders 61 = .ok (.getfield 52, 3)) ∧ (decode cX11_founders 64 = .ok (.iload 7, 2)) ∧ (decode cX11_founders 66 = .ok (.invokevirtual 227, 3)) ∧ (decode cX11_founders 69 = .ok (.istore 7, 2)) ∧ (decode cX11_founders 71 = .ok (.aload_n 0, 1)) ∧ (decode cX11_founders 72 = .ok (.getfield 35, 3)) := by decide +kernel
theorem dX11_founders_53 : decode cX11_founders 53 = .ok (.invokevirtual 329, 3) := bdX11_founders_53.1
theorem dX11_founders_56 : decode cX11_founders 56 = .ok (.aload_n 0, 1) := bdX11_founders_53.2.1
theorem dX11_founders_57 : decode cX11_founders 57 = .ok (.getfield 35, 3) := bdX11_founders_53.2.2.1
theorem dX11_founders_60 : decode cX11_founders 60 = .ok (.aload_n 0, 1) := bdX11_founders_53.2.2.2.1
theorem dX11_founders_61 : decode cX11_founders 61 = .ok (.getfield 52, 3) := bdX11_founders_53.2.2.2.2.1
theorem dX11_founders_64 : decode cX11_founders 64 = .ok (.iload 7, 2) := bdX11_founders_53.2.2.2.2.2.1
theorem dX11_founders_66 : decode cX11_founders 66 = .ok (.invokevirtual 227, 3) := bdX11_founders_53.2.2.2.2.2.2.1
theorem dX11_founders_69 : decode cX11_founders 69 = .ok (.istore 7, 2) := bdX11_founders_53.2.2.2.2.2.2.2.1
theorem dX11_founders_71 : decode cX11_founders 71 = .ok (.aload_n 0, 1) := bdX11_founders_53.2.2.2.2.2.2.2.2.1
theorem dX11_founders_72 : decode cX11_founders 72 = .ok (.getfield 35, 3) := bdX11_founders_53.2.2.2.2.2.2.2.2.2
theorem bdX11_founders_75 : (decode cX11_founders 75 = .ok (.aload_n 0, 1)) ∧ (decode cX11_founders 76 = .ok (.getfield 52, 3)) ∧ (decode cX11_founders 79 = .ok (.iconst (-1), 1)) ∧ (decode cX11_founders 80 = .ok (.invokevirtual 99, 3)) ∧ (decode cX11_founders 83 = .ok (.aload_n 0, 1)) ∧ (decode cX11_founders 84 = .ok (.getfield 35, 3)) ∧ (decode cX11_founders 87 = .ok (.aload_n 0, 1)) ∧ (decode cX11_founders 88 = .ok (.getfield 52, 3)) ∧ (decode cX11_founders 91 = .ok (.iconst 5, 1)) ∧ (decode cX11_founders 92 = .ok (.invokevirtual 240, 3)) := by decide +kernel
theorem dX11_founders_75 : decode cX11_founders 75 = .ok (.aload_n 0, 1) := bdX11_founders_75.1
theorem dX11_founders_76 : decode cX11_founders 76 = .ok (.getfield 52, 3) := bdX11_founders_75.2.1
theorem dX11_founders_79 : decode cX11_founders 79 = .ok (.iconst (-1), 1) := bdX11_founders_75.2.2.1
theorem dX11_founders_80 : decode cX11_founders 80 = .ok (.invokevirtual 99, 3) := bdX11_founders_75.2.2.2.1
theorem dX11_founders_83 : decode cX11_founders 83 = .ok (.aload_n 0, 1) := bdX11_founders_75.2.2.2.2.1
theorem dX11_founders_84 : decode cX11_founders 84 = .ok (.getfield 35, 3) := bdX11_founders_75.2.2.2.2.2.1
theorem dX11_founders_87 : decode cX11_founders 87 = .ok (.aload_n 0, 1) := bdX11_founders_75.2.2.2.2.2.2.1
theorem dX11_founders_88 : decode cX11_founders 88 = .ok (.getfield 52, 3) := bdX11_founders_75.2.2.2.2.2.2.2.1
theorem dX11_founders_91 : decode cX11_founders 91 = .ok (.iconst 5, 1) := bdX11_founders_75.2.2.2.2.2.2.2.2.1
theorem dX11_founders_92 : decode cX11_founders 92 = .ok (.invokevirtual 240, 3) := bdX11_founders_75.2.2.2.2.2.2.2.2.2
theorem bdX11_founders_95 : (decode cX11_founders 95 = .ok (.iload 4, 2)) ∧ (decode cX11_founders 97 = .ok (.aload_n 0, 1)) ∧ (decode cX11_founders 98 = .ok (.getfield 52, 3)) ∧ (decode cX11_founders 101 = .ok (.getfield 126, 3)) ∧ (decode cX11_founders 104 = .ok (.invokestatic 317, 3)) ∧ (decode cX11_founders 107 = .ok (.iadd, 1)) ∧ (decode cX11_founders 108 = .ok (.istore 4, 2)) ∧ (decode cX11_founders 110 = .ok (.iload 5, 2)) ∧ (decode cX11_founders 112 = .ok (.aload_n 0, 1)) ∧ (decode cX11_founders 113 = .ok (.getfield 52, 3)) := by decide +kernel
theorem dX11_founders_95 : decode cX11_founders 95 = .ok (.iload 4, 2) := bdX11_founders_95.1
theorem dX11_founders_97 : decode cX11_founders 97 = .ok (.aload_n 0, 1) := bdX11_founders_95.2.1
theorem dX11_founders_98 : decode cX11_founders 98 = .ok (.getfield 52, 3) := bdX11_founders_95.2.2.1
theorem dX11_founders_101 : decode cX11_founders 101 = .ok (.getfield 126, 3) := bdX11_founders_95.2.2.2.1
theorem dX11_founders_104 : decode cX11_founders 104 = .ok (.invokestatic 317, 3) := bdX11_founders_95.2.2.2.2.1
theorem dX11_founders_107 : decode cX11_founders 107 = .ok (.iadd, 1) := bdX11_founders_95.2.2.2.2.2.1
theorem dX11_founders_108 : decode cX11_founders 108 = .ok (.istore 4, 2) := bdX11_founders_95.2.2.2.2.2.2.1
theorem dX11_founders_110 : decode cX11_founders 110 = .ok (.iload 5, 2) := bdX11_founders_95.2.2.2.2.2.2.2.1
theorem dX11_founders_112 : decode cX11_founders 112 = .ok (.aload_n 0, 1) := bdX11_founders_95.2.2.2.2.2.2.2.2.1
theorem dX11_founders_113 : decode cX11_founders 113 = .ok (.getfield 52, 3) := bdX11_founders_95.2.2.2.2.2.2.2.2.2
theorem bdX11_founders_116 : (decode cX11_founders 116 = .ok (.invokevirtual 332, 3)) ∧ (decode cX11_founders 119 = .ok (.invokestatic 281, 3)) ∧ (decode cX11_founders 122 = .ok (.istore 5, 2)) ∧ (decode cX11_founders 124 = .ok (.iload 6, 2)) ∧ (decode cX11_founders 126 = .ok (.aload_n 0, 1)) ∧ (decode cX11_founders 127 = .ok (.getfield 52, 3)) ∧ (decode cX11_founders 130 = .ok (.getfield 126, 3)) ∧ (decode cX11_founders 133 = .ok (.ifCond .ne 7, 3)) ∧ (decode cX11_founders 136 = .ok (.iconst 1, 1)) ∧ (decode cX11_founders 137 = .ok (.goto 4, 3)) := by decide +kernel
theorem dX11_founders_116 : decode cX11_founders 116 = .ok (.invokevirtual 332, 3) := bdX11_founders_116.1
theorem dX11_founders_119 : decode cX11_founders 119 = .ok (.invokestatic 281, 3) := bdX11_founders_116.2.1
theorem dX11_founders_122 : decode cX11_founders 122 = .ok (.istore 5, 2) := bdX11_founders_116.2.2.1
theorem dX11_founders_124 : decode cX11_founders 124 = .ok (.iload 6, 2) := bdX11_founders_116.2.2.2.1
theorem dX11_founders_126 : decode cX11_founders 126 = .ok (.aload_n 0, 1) := bdX11_founders_116.2.2.2.2.1
theorem dX11_founders_127 : decode cX11_founders 127 = .ok (.getfield 52, 3) := bdX11_founders_116.2.2.2.2.2.1
theorem dX11_founders_130 : decode cX11_founders 130 = .ok (.getfield 126, 3) := bdX11_founders_116.2.2.2.2.2.2.1
theorem dX11_founders_133 : decode cX11_founders 133 = .ok (.ifCond .ne 7, 3) := bdX11_founders_116.2.2.2.2.2.2.2.1
theorem dX11_founders_136 : decode cX11_founders 136 = .ok (.iconst 1, 1) := bdX11_founders_116.2.2.2.2.2.2.2.2.1
theorem dX11_founders_137 : decode cX11_founders 137 = .ok (.goto 4, 3) := bdX11_founders_116.2.2.2.2.2.2.2.2.2
theorem bdX11_founders_140 : (decode cX11_founders 140 = .ok (.iconst 0, 1)) ∧ (decode cX11_founders 141 = .ok (.iadd, 1)) ∧ (decode cX11_founders 142 = .ok (.istore 6, 2)) ∧ (decode cX11_founders 144 = .ok (.iinc 8 1, 3)) ∧ (decode cX11_founders 147 = .ok (.goto (-104), 3)) ∧ (decode cX11_founders 150 = .ok (.iload_n 3, 1)) ∧ (decode cX11_founders 151 = .ok (.ifCond .ne 8, 3)) ∧ (decode cX11_founders 154 = .ok (.iload 4, 2)) ∧ (decode cX11_founders 156 = .ok (.goto 15, 3)) ∧ (decode cX11_founders 159 = .ok (.iload_n 3, 1)) := by decide +kernel
theorem dX11_founders_140 : decode cX11_founders 140 = .ok (.iconst 0, 1) := bdX11_founders_140.1
theorem dX11_founders_141 : decode cX11_founders 141 = .ok (.iadd, 1) := bdX11_founders_140.2.1
theorem dX11_founders_142 : decode cX11_founders 142 = .ok (.istore 6, 2) := bdX11_founders_140.2.2.1
theorem dX11_founders_144 : decode cX11_founders 144 = .ok (.iinc 8 1, 3) := bdX11_founders_140.2.2.2.1
theorem dX11_founders_147 : decode cX11_founders 147 = .ok (.goto (-104), 3) := bdX11_founders_140.2.2.2.2.1
theorem dX11_founders_150 : decode cX11_founders 150 = .ok (.iload_n 3, 1) := bdX11_founders_140.2.2.2.2.2.1
theorem dX11_founders_151 : decode cX11_founders 151 = .ok (.ifCond .ne 8, 3) := bdX11_founders_140.2.2.2.2.2.2.1
theorem dX11_founders_154 : decode cX11_founders 154 = .ok (.iload 4, 2) := bdX11_founders_140.2.2.2.2.2.2.2.1
theorem dX11_founders_156 : decode cX11_founders 156 = .ok (.goto 15, 3) := bdX11_founders_140.2.2.2.2.2.2.2.2.1
theorem dX11_founders_159 : decode cX11_founders 159 = .ok (.iload_n 3, 1) := bdX11_founders_140.2.2.2.2.2.2.2.2.2
theorem bdX11_founders_160 : (decode cX11_founders 160 = .ok (.iconst 1, 1)) ∧ (decode cX11_founders 161 = .ok (.if_icmp .ne 8, 3)) ∧ (decode cX11_founders 164 = .ok (.iload 5, 2)) ∧ (decode cX11_founders 166 = .ok (.goto 5, 3)) ∧ (decode cX11_founders 169 = .ok (.iload 6, 2)) ∧ (decode cX11_founders 171 = .ok (.ireturn, 1)) := by decide +kernel
theorem dX11_founders_160 : decode cX11_founders 160 = .ok (.iconst 1, 1) := bdX11_founders_160.1
theorem dX11_founders_161 : decode cX11_founders 161 = .ok (.if_icmp .ne 8, 3) := bdX11_founders_160.2.1
theorem dX11_founders_164 : decode cX11_founders 164 = .ok (.iload 5, 2) := bdX11_founders_160.2.2.1
theorem dX11_founders_166 : decode cX11_founders 166 = .ok (.goto 5, 3) := bdX11_founders_160.2.2.2.1
theorem dX11_founders_169 : decode cX11_founders 169 = .ok (.iload 6, 2) := bdX11_founders_160.2.2.2.2.1
theorem dX11_founders_171 : decode cX11_founders 171 = .ok (.ireturn, 1) := bdX11_founders_160.2.2.2.2.2
theorem bdX11_see_0 : (decode cX11_see 0 = .ok (.aload_n 0, 1)) ∧ (decode cX11_see 1 = .ok (.iload_n 1, 1)) ∧ (decode cX11_see 2 = .ok (.invokevirtual 157, 3)) ∧ (decode cX11_see 5 = .ok (.iload_n 2, 1)) ∧ (decode cX11_see 6 = .ok (.ifCond .lt 23, 3)) ∧ (decode cX11_see 9 = .ok (.iload_n 2, 1)) ∧ (decode cX11_see 10 = .ok (.bipush 99, 2)) ∧ (decode cX11_see 12 = .ok (.if_icmp .gt 17, 3)) ∧ (decode cX11_see 15 = .ok (.iload_n 3, 1)) ∧ (decode cX11_see 16 = .ok (.ifCond .lt 13, 3)) := by decide +kernel
theorem dX11_see_0 : decode cX11_see 0 = .ok (.aload_n 0, 1) := bdX11_see_0.1
theorem dX11_see_1 : decode cX11_see 1 = .ok (.iload_n 1, 1) := bdX11_see_0.2.1
theorem dX11_see_2 : decode cX11_see 2 = .ok (.invokevirtual 157, 3) := bdX11_see_0.2.2.1
theorem dX11_see_5 : decode cX11_see 5 = .ok (.iload_n 2, 1) := bdX11_see_0.2.2.2.1
theorem dX11_see_6 : decode cX11_see 6 = .ok (.ifCond .lt 23, 3) := bdX11_see_0.2.2.2.2.1
theorem dX11_see_9 : decode cX11_see 9 = .ok (.iload_n 2, 1) := bdX11_see_0.2.2.2.2.2.1
theorem dX11_see_10 : decode cX11_see 10 = .ok (.bipush 99, 2) := bdX11_see_0.2.2.2.2.2.2.1
theorem dX11_see_12 : decode cX11_see 12 = .ok (.if_icmp .gt 17, 3) := bdX11_see_0.2.2.2.2.2.2.2.1
theorem dX11_see_15 : decode cX11_see 15 = .ok (.iload_n 3, 1) := bdX11_see_0.2.2.2.2.2.2.2.2.1
theorem dX11_see_16 : decode cX11_see 16 = .ok (.ifCond .lt 13, 3) := bdX11_see_0.2.2.2.2.2.2.2.2.2
theorem bdX11_see_19 : (decode cX11_see 19 = .ok (.iload_n 3, 1)) ∧ (decode cX11_see 20 = .ok (.bipush 99, 2)) ∧ (decode cX11_see 22 = .ok (.if_icmp .gt 7, 3)) ∧ (decode cX11_see 25 = .ok (.iconst 1, 1)) ∧ (decode cX11_see 26 = .ok (.goto 4, 3)) ∧ (decode cX11_see 29 = .ok (.iconst 0, 1)) ∧ (decode cX11_see 30 = .ok (.istore 4, 2)) ∧ (decode cX11_see 32 = .ok (.iload 4, 2)) ∧ (decode cX11_see 34 = .ok (.ifCond .eq 18, 3)) ∧ (decode cX11_see 37 = .ok (.aload_n 0, 1)) := by decide +kernel
theorem dX11_see_19 : decode cX11_see 19 = .ok (.iload_n 3, 1) := bdX11_see_19.1
theorem dX11_see_20 : decode cX11_see 20 = .ok (.bipush 99, 2) := bdX11_see_19.2.1
theorem dX11_see_22 : decode cX11_see 22 = .ok (.if_icmp .gt 7, 3) := bdX11_see_19.2.2.1
theorem dX11_see_25 : decode cX11_see 25 = .ok (.iconst 1, 1) := bdX11_see_19.2.2.2.1
theorem dX11_see_26 : decode cX11_see 26 = .ok (.goto 4, 3) := bdX11_see_19.2.2.2.2.1
theorem dX11_see_29 : decode cX11_see 29 = .ok (.iconst 0, 1) := bdX11_see_19.2.2.2.2.2.1
theorem dX11_see_30 : decode cX11_see 30 = .ok (.istore 4, 2) := bdX11_see_19.2.2.2.2.2.2.1
theorem dX11_see_32 : decode cX11_see 32 = .ok (.iload 4, 2) := bdX11_see_19.2.2.2.2.2.2.2.1
theorem dX11_see_34 : decode cX11_see 34 = .ok (.ifCond .eq 18, 3) := bdX11_see_19.2.2.2.2.2.2.2.2.1
theorem dX11_see_37 : decode cX11_see 37 = .ok (.aload_n 0, 1) := bdX11_see_19.2.2.2.2.2.2.2.2.2
theorem bdX11_see_38 : (decode cX11_see 38 = .ok (.getfield 42, 3)) ∧ (decode cX11_see 41 = .ok (.getfield 147, 3)) ∧ (decode cX11_see 44 = .ok (.getfield 151, 3)) ∧ (decode cX11_see 47 = .ok (.bipush 8, 2)) ∧ (decode cX11_see 49 = .ok (.if_icmp .lt 9, 3)) ∧ (decode cX11_see 52 = .ok (.aload_n 0, 1)) ∧ (decode cX11_see 53 = .ok (.iconst 2, 1)) ∧ (decode cX11_see 54 = .ok (.invokevirtual 233, 3)) ∧ (decode cX11_see 57 = .ok (.ireturn, 1)) ∧ (decode cX11_see 58 = .ok (.aload_n 0, 1)) := by decide +kernel
theorem dX11_see_38 : decode cX11_see 38 = .ok (.getfield 42, 3) := bdX11_see_38.1
theorem dX11_see_41 : decode cX11_see 41 = .ok (.getfield 147, 3) := bdX11_see_38.2.1
theorem dX11_see_44 : decode cX11_see 44 = .ok (.getfield 151, 3) := bdX11_see_38.2.2.1
theorem dX11_see_47 : decode cX11_see 47 = .ok (.bipush 8, 2) := bdX11_see_38.2.2.2.1
theorem dX11_see_49 : decode cX11_see 49 = .ok (.if_icmp .lt 9, 3) := bdX11_see_38.2.2.2.2.1
theorem dX11_see_52 : decode cX11_see 52 = .ok (.aload_n 0, 1) := bdX11_see_38.2.2.2.2.2.1
theorem dX11_see_53 : decode cX11_see 53 = .ok (.iconst 2, 1) := bdX11_see_38.2.2.2.2.2.2.1
theorem dX11_see_54 : decode cX11_see 54 = .ok (.invokevirtual 233, 3) := bdX11_see_38.2.2.2.2.2.2.2.1
theorem dX11_see_57 : decode cX11_see 57 = .ok (.ireturn, 1) := bdX11_see_38.2.2.2.2.2.2.2.2.1
theorem dX11_see_58 : decode cX11_see 58 = .ok (.aload_n 0, 1) := bdX11_see_38.2.2.2.2.2.2.2.2.2
theorem bdX11_see_59 : (decode cX11_see 59 = .ok (.getfield 42, 3)) ∧ (decode cX11_see 62 = .ok (.getfield 147, 3)) ∧ (decode cX11_see 65 = .ok (.iload_n 1, 1)) ∧ (decode cX11_see 66 = .ok (.iload_n 2, 1)) ∧ (decode cX11_see 67 = .ok (.iload_n 3, 1)) ∧ (decode cX11_see 68 = .ok (.invokevirtual 335, 3)) ∧ (decode cX11_see 71 = .ok (.aload_n 0, 1)) ∧ (decode cX11_see 72 = .ok (.getfield 42, 3)) ∧ (decode cX11_see 75 = .ok (.getfield 147, 3)) ∧ (decode cX11_see 78 = .ok (.getfield 151, 3)) := by decide +kernel
theorem dX11_see_59 : decode cX11_see 59 = .ok (.getfield 42, 3) := bdX11_see_59.1
theorem dX11_see_62 : decode cX11_see 62 = .ok (.getfield 147, 3) := bdX11_see_59.2.1
theorem dX11_see_65 : decode cX11_see 65 = .ok (.iload_n 1, 1) := bdX11_see_59.2.2.1
theorem dX11_see_66 : decode cX11_see 66 = .ok (.iload_n 2, 1) := bdX11_see_59.2.2.2.1
theorem dX11_see_67 : decode cX11_see 67 = .ok (.iload_n 3, 1) := bdX11_see_59.2.2.2.2.1
theorem dX11_see_68 : decode cX11_see 68 = .ok (.invokevirtual 335, 3) := bdX11_see_59.2.2.2.2.2.1
theorem dX11_see_71 : decode cX11_see 71 = .ok (.aload_n 0, 1) := bdX11_see_59.2.2.2.2.2.2.1
theorem dX11_see_72 : decode cX11_see 72 = .ok (.getfield 42, 3) := bdX11_see_59.2.2.2.2.2.2.2.1
theorem dX11_see_75 : decode cX11_see 75 = .ok (.getfield 147, 3) := bdX11_see_59.2.2.2.2.2.2.2.2.1
theorem dX11_see_78 : decode cX11_see 78 = .ok (.getfield 151, 3) := bdX11_see_59.2.2.2.2.2.2.2.2.2
theorem bdX11_see_81 : (decode cX11_see 81 = .ok (.ireturn, 1)) := by decide +kernel
theorem dX11_see_81 : decode cX11_see 81 = .ok (.ireturn, 1) := bdX11_see_81
theorem bdX11_brothers_0 : (decode cX11_brothers 0 = .ok (.iconst 0, 1)) ∧ (decode cX11_brothers 1 = .ok (.istore_n 1, 1)) ∧ (decode cX11_brothers 2 = .ok (.iconst 0, 1)) ∧ (decode cX11_brothers 3 = .ok (.istore_n 2, 1)) ∧ (decode cX11_brothers 4 = .ok (.iconst 0, 1)) ∧ (decode cX11_brothers 5 = .ok (.istore_n 3, 1)) ∧ (decode cX11_brothers 6 = .ok (.iload_n 3, 1)) ∧ (decode cX11_brothers 7 = .ok (.aload_n 0, 1)) ∧ (decode cX11_brothers 8 = .ok (.getfield 35, 3)) ∧ (decode cX11_brothers 11 = .ok (.getfield 89, 3)) := by decide +kernel
theorem dX11_brothers_0 : decode cX11_brothers 0 = .ok (.iconst 0, 1) := bdX11_brothers_0.1
theorem dX11_brothers_1 : decode cX11_brothers 1 = .ok (.istore_n 1, 1) := bdX11_brothers_0.2.1
theorem dX11_brothers_2 : decode cX11_brothers 2 = .ok (.iconst 0, 1) := bdX11_brothers_0.2.2.1
theorem dX11_brothers_3 : decode cX11_brothers 3 = .ok (.istore_n 2, 1) := bdX11_brothers_0.2.2.2.1
theorem dX11_brothers_4 : decode cX11_brothers 4 = .ok (.iconst 0, 1) := bdX11_brothers_0.2.2.2.2.1
theorem dX11_brothers_5 : decode cX11_brothers 5 = .ok (.istore_n 3, 1) := bdX11_brothers_0.2.2.2.2.2.1
theorem dX11_brothers_6 : decode cX11_brothers 6 = .ok (.iload_n 3, 1) := bdX11_brothers_0.2.2.2.2.2.2.1
theorem dX11_brothers_7 : decode cX11_brothers 7 = .ok (.aload_n 0, 1) := bdX11_brothers_0.2.2.2.2.2.2.2.1
theorem dX11_brothers_8 : decode cX11_brothers 8 = .ok (.getfield 35, 3) := bdX11_brothers_0.2.2.2.2.2.2.2.2.1
theorem dX11_brothers_11 : decode cX11_brothers 11 = .ok (.getfield 89, 3) := bdX11_brothers_0.2.2.2.2.2.2.2.2.2
theorem bdX11_brothers_14 : (decode cX11_brothers 14 = .ok (.getfield 106, 3)) ∧ (decode cX11_brothers 17 = .ok (.if_icmp .ge 56, 3)) ∧ (decode cX11_brothers 20 = .ok (.aload_n 0, 1)) ∧ (decode cX11_brothers 21 = .ok (.getfield 42, 3)) ∧ (decode cX11_brothers 24 = .ok (.getfield 96, 3)) ∧ (decode cX11_brothers 27 = .ok (.iload_n 3, 1)) ∧ (decode cX11_brothers 28 = .ok (.invokevirtual 169, 3)) ∧ (decode cX11_brothers 31 = .ok (.istore 4, 2)) ∧ (decode cX11_brothers 33 = .ok (.aload_n 0, 1)) ∧ (decode cX11_brothers 34 = .ok (.iload_n 3, 1)) := by decide +kernel
theorem dX11_brothers_14 : decode cX11_brothers 14 = .ok (.getfield 106, 3) := bdX11_brothers_14.1
theorem dX11_brothers_17 : decode cX11_brothers 17 = .ok (.if_icmp .ge 56, 3) := bdX11_brothers_14.2.1
theorem dX11_brothers_20 : decode cX11_brothers 20 = .ok (.aload_n 0, 1) := bdX11_brothers_14.2.2.1
theorem dX11_brothers_21 : decode cX11_brothers 21 = .ok (.getfield 42, 3) := bdX11_brothers_14.2.2.2.1
theorem dX11_brothers_24 : decode cX11_brothers 24 = .ok (.getfield 96, 3) := bdX11_brothers_14.2.2.2.2.1
theorem dX11_brothers_27 : decode cX11_brothers 27 = .ok (.iload_n 3, 1) := bdX11_brothers_14.2.2.2.2.2.1
theorem dX11_brothers_28 : decode cX11_brothers 28 = .ok (.invokevirtual 169, 3) := bdX11_brothers_14.2.2.2.2.2.2.1
theorem dX11_brothers_31 : decode cX11_brothers 31 = .ok (.istore 4, 2) := bdX11_brothers_14.2.2.2.2.2.2.2.1
theorem dX11_brothers_33 : decode cX11_brothers 33 = .ok (.aload_n 0, 1) := bdX11_brothers_14.2.2.2.2.2.2.2.2.1
theorem dX11_brothers_34 : decode cX11_brothers 34 = .ok (.iload_n 3, 1) := bdX11_brothers_14.2.2.2.2.2.2.2.2.2
theorem bdX11_brothers_35 : (decode cX11_brothers 35 = .ok (.iconst 1, 1)) ∧ (decode cX11_brothers 36 = .ok (.iload 4, 2)) ∧ (decode cX11_brothers 38 = .ok (.isub, 1)) ∧ (decode cX11_brothers 39 = .ok (.invokevirtual 338, 3)) ∧ (decode cX11_brothers 42 = .ok (.ifCond .eq 9, 3)) ∧ (decode cX11_brothers 45 = .ok (.iload_n 1, 1)) ∧ (decode cX11_brothers 46 = .ok (.iconst 1, 1)) ∧ (decode cX11_brothers 47 = .ok (.iload_n 3, 1)) ∧ (decode cX11_brothers 48 = .ok (.ishl, 1)) ∧ (decode cX11_brothers 49 = .ok (.ior, 1)) := by decide +kernel
theorem dX11_brothers_35 : decode cX11_brothers 35 = .ok (.iconst 1, 1) := bdX11_brothers_35.1
theorem dX11_brothers_36 : decode cX11_brothers 36 = .ok (.iload 4, 2) := bdX11_brothers_35.2.1
theorem dX11_brothers_38 : decode cX11_brothers 38 = .ok (.isub, 1) := bdX11_brothers_35.2.2.1
theorem dX11_brothers_39 : decode cX11_brothers 39 = .ok (.invokevirtual 338, 3) := bdX11_brothers_35.2.2.2.1
theorem dX11_brothers_42 : decode cX11_brothers 42 = .ok (.ifCond .eq 9, 3) := bdX11_brothers_35.2.2.2.2.1
theorem dX11_brothers_45 : decode cX11_brothers 45 = .ok (.iload_n 1, 1) := bdX11_brothers_35.2.2.2.2.2.1
theorem dX11_brothers_46 : decode cX11_brothers 46 = .ok (.iconst 1, 1) := bdX11_brothers_35.2.2.2.2.2.2.1
theorem dX11_brothers_47 : decode cX11_brothers 47 = .ok (.iload_n 3, 1) := bdX11_brothers_35.2.2.2.2.2.2.2.1
theorem dX11_brothers_48 : decode cX11_brothers 48 = .ok (.ishl, 1) := bdX11_brothers_35.2.2.2.2.2.2.2.2.1
theorem dX11_brothers_49 : decode cX11_brothers 49 = .ok (.ior, 1) := bdX11_brothers_35.2.2.2.2.2.2.2.2.2
theorem bdX11_brothers_50 : (decode cX11_brothers 50 = .ok (.istore_n 1, 1)) ∧ (decode cX11_brothers 51 = .ok (.aload_n 0, 1)) ∧ (decode cX11_brothers 52 = .ok (.iload_n 3, 1)) ∧ (decode cX11_brothers 53 = .ok (.iload 4, 2)) ∧ (decode cX11_brothers 55 = .ok (.invokevirtual 338, 3)) ∧ (decode cX11_brothers 58 = .ok (.ifCond .eq 9, 3)) ∧ (decode cX11_brothers 61 = .ok (.iload_n 2, 1)) ∧ (decode cX11_brothers 62 = .ok (.iconst 1, 1)) ∧ (decode cX11_brothers 63 = .ok (.iload_n 3, 1)) ∧ (decode cX11_brothers 64 = .ok (.ishl, 1)) := by decide +kernel
theorem dX11_brothers_50 : decode cX11_brothers 50 = .ok (.istore_n 1, 1) := bdX11_brothers_50.1
theorem dX11_brothers_51 : decode cX11_brothers 51 = .ok (.aload_n 0, 1) := bdX11_brothers_50.2.1
theorem dX11_brothers_52 : decode cX11_brothers 52 = .ok (.iload_n 3, 1) := bdX11_brothers_50.2.2.1
theorem dX11_brothers_53 : decode cX11_brothers 53 = .ok (.iload 4, 2) := bdX11_brothers_50.2.2.2.1
theorem dX11_brothers_55 : decode cX11_brothers 55 = .ok (.invokevirtual 338, 3) := bdX11_brothers_50.2.2.2.2.1
theorem dX11_brothers_58 : decode cX11_brothers 58 = .ok (.ifCond .eq 9, 3) := bdX11_brothers_50.2.2.2.2.2.1
theorem dX11_brothers_61 : decode cX11_brothers 61 = .ok (.iload_n 2, 1) := bdX11_brothers_50.2.2.2.2.2.2.1
theorem dX11_brothers_62 : decode cX11_brothers 62 = .ok (.iconst 1, 1) := bdX11_brothers_50.2.2.2.2.2.2.2.1
theorem dX11_brothers_63 : decode cX11_brothers 63 = .ok (.iload_n 3, 1) := bdX11_brothers_50.2.2.2.2.2.2.2.2.1
theorem dX11_brothers_64 : decode cX11_brothers 64 = .ok (.ishl, 1) := bdX11_brothers_50.2.2.2.2.2.2.2.2.2
theorem bdX11_brothers_65 : (decode cX11_brothers 65 = .ok (.ior, 1)) ∧ (decode cX11_brothers 66 = .ok (.istore_n 2, 1)) ∧ (decode cX11_brothers 67 = .ok (.iinc 3 1, 3)) ∧ (decode cX11_brothers 70 = .ok (.goto (-64), 3)) ∧ (decode cX11_brothers 73 = .ok (.iload_n 2, 1)) ∧ (decode cX11_brothers 74 = .ok (.bipush 8, 2)) ∧ (decode cX11_brothers 76 = .ok (.ishl, 1)) ∧ (decode cX11_brothers 77 = .ok (.iload_n 1, 1)) ∧ (decode cX11_brothers 78 = .ok (.ior, 1)) ∧ (decode cX11_brothers 79 = .ok (.ireturn, 1)) := by decide +kernel
theorem dX11_brothers_65 : decode cX11_brothers 65 = .ok (.ior, 1) := bdX11_brothers_65.1
theorem dX11_brothers_66 : decode cX11_brothers 66 = .ok (.istore_n 2, 1) := bdX11_brothers_65.2.1
theorem dX11_brothers_67 : decode cX11_brothers 67 = .ok (.iinc 3 1, 3) := bdX11_brothers_65.2.2.1
theorem dX11_brothers_70 : decode cX11_brothers 70 = .ok (.goto (-64), 3) := bdX11_brothers_65.2.2.2.1
theorem dX11_brothers_73 : decode cX11_brothers 73 = .ok (.iload_n 2, 1) := bdX11_brothers_65.2.2.2.2.1
theorem dX11_brothers_74 : decode cX11_brothers 74 = .ok (.bipush 8, 2) := bdX11_brothers_65.2.2.2.2.2.1
theorem dX11_brothers_76 : decode cX11_brothers 76 = .ok (.ishl, 1) := bdX11_brothers_65.2.2.2.2.2.2.1
theorem dX11_brothers_77 : decode cX11_brothers 77 = .ok (.iload_n 1, 1) := bdX11_brothers_65.2.2.2.2.2.2.2.1
theorem dX11_brothers_78 : decode cX11_brothers 78 = .ok (.ior, 1) := bdX11_brothers_65.2.2.2.2.2.2.2.2.1
theorem dX11_brothers_79 : decode cX11_brothers 79 = .ok (.ireturn, 1) := bdX11_brothers_65.2.2.2.2.2.2.2.2.2
theorem bdX11_agrees_0 : (decode cX11_agrees 0 = .ok (.aload_n 0, 1)) ∧ (decode cX11_agrees 1 = .ok (.getfield 42, 3)) ∧ (decode cX11_agrees 4 = .ok (.getfield 147, 3)) ∧ (decode cX11_agrees 7 = .ok (.astore_n 3, 1)) ∧ (decode cX11_agrees 8 = .ok (.iconst 0, 1)) ∧ (decode cX11_agrees 9 = .ok (.istore 4, 2)) ∧ (decode cX11_agrees 11 = .ok (.iload 4, 2)) ∧ (decode cX11_agrees 13 = .ok (.aload_n 3, 1)) ∧ (decode cX11_agrees 14 = .ok (.getfield 151, 3)) ∧ (decode cX11_agrees 17 = .ok (.if_icmp .ge 52, 3)) := by decide +kernel
theorem dX11_agrees_0 : decode cX11_agrees 0 = .ok (.aload_n 0, 1) := bdX11_agrees_0.1
theorem dX11_agrees_1 : decode cX11_agrees 1 = .ok (.getfield 42, 3) := bdX11_agrees_0.2.1
theorem dX11_agrees_4 : decode cX11_agrees 4 = .ok (.getfield 147, 3) := bdX11_agrees_0.2.2.1
theorem dX11_agrees_7 : decode cX11_agrees 7 = .ok (.astore_n 3, 1) := bdX11_agrees_0.2.2.2.1
theorem dX11_agrees_8 : decode cX11_agrees 8 = .ok (.iconst 0, 1) := bdX11_agrees_0.2.2.2.2.1
theorem dX11_agrees_9 : decode cX11_agrees 9 = .ok (.istore 4, 2) := bdX11_agrees_0.2.2.2.2.2.1
theorem dX11_agrees_11 : decode cX11_agrees 11 = .ok (.iload 4, 2) := bdX11_agrees_0.2.2.2.2.2.2.1
theorem dX11_agrees_13 : decode cX11_agrees 13 = .ok (.aload_n 3, 1) := bdX11_agrees_0.2.2.2.2.2.2.2.1
theorem dX11_agrees_14 : decode cX11_agrees 14 = .ok (.getfield 151, 3) := bdX11_agrees_0.2.2.2.2.2.2.2.2.1
theorem dX11_agrees_17 : decode cX11_agrees 17 = .ok (.if_icmp .ge 52, 3) := bdX11_agrees_0.2.2.2.2.2.2.2.2.2
theorem bdX11_agrees_20 : (decode cX11_agrees 20 = .ok (.iload 4, 2)) ∧ (decode cX11_agrees 22 = .ok (.bipush 8, 2)) ∧ (decode cX11_agrees 24 = .ok (.if_icmp .ge 45, 3)) ∧ (decode cX11_agrees 27 = .ok (.aload_n 3, 1)) ∧ (decode cX11_agrees 28 = .ok (.getfield 341, 3)) ∧ (decode cX11_agrees 31 = .ok (.iload 4, 2)) ∧ (decode cX11_agrees 33 = .ok (.iaload, 1)) ∧ (decode cX11_agrees 34 = .ok (.iload_n 1, 1)) ∧ (decode cX11_agrees 35 = .ok (.if_icmp .ne 28, 3)) ∧ (decode cX11_agrees 38 = .ok (.aload_n 0, 1)) := by decide +kernel
theorem dX11_agrees_20 : decode cX11_agrees 20 = .ok (.iload 4, 2) := bdX11_agrees_20.1
theorem dX11_agrees_22 : decode cX11_agrees 22 = .ok (.bipush 8, 2) := bdX11_agrees_20.2.1
theorem dX11_agrees_24 : decode cX11_agrees 24 = .ok (.if_icmp .ge 45, 3) := bdX11_agrees_20.2.2.1
theorem dX11_agrees_27 : decode cX11_agrees 27 = .ok (.aload_n 3, 1) := bdX11_agrees_20.2.2.2.1
theorem dX11_agrees_28 : decode cX11_agrees 28 = .ok (.getfield 341, 3) := bdX11_agrees_20.2.2.2.2.1
theorem dX11_agrees_31 : decode cX11_agrees 31 = .ok (.iload 4, 2) := bdX11_agrees_20.2.2.2.2.2.1
theorem dX11_agrees_33 : decode cX11_agrees 33 = .ok (.iaload, 1) := bdX11_agrees_20.2.2.2.2.2.2.1
theorem dX11_agrees_34 : decode cX11_agrees 34 = .ok (.iload_n 1, 1) := bdX11_agrees_20.2.2.2.2.2.2.2.1
theorem dX11_agrees_35 : decode cX11_agrees 35 = .ok (.if_icmp .ne 28, 3) := bdX11_agrees_20.2.2.2.2.2.2.2.2.1
theorem dX11_agrees_38 : decode cX11_agrees 38 = .ok (.aload_n 0, 1) := bdX11_agrees_20.2.2.2.2.2.2.2.2.2
theorem bdX11_agrees_39 : (decode cX11_agrees 39 = .ok (.iload_n 1, 1)) ∧ (decode cX11_agrees 40 = .ok (.iload_n 2, 1)) ∧ (decode cX11_agrees 41 = .ok (.aload_n 3, 1)) ∧ (decode cX11_agrees 42 = .ok (.getfield 344, 3)) ∧ (decode cX11_agrees 45 = .ok (.iload 4, 2)) ∧ (decode cX11_agrees 47 = .ok (.iaload, 1)) ∧ (decode cX11_agrees 48 = .ok (.invokevirtual 346, 3)) ∧ (decode cX11_agrees 51 = .ok (.aload_n 3, 1)) ∧ (decode cX11_agrees 52 = .ok (.getfield 350, 3)) ∧ (decode cX11_agrees 55 = .ok (.iload 4, 2)) := by decide +kernel
theorem dX11_agrees_39 : decode cX11_agrees 39 = .ok (.iload_n 1, 1) := bdX11_agrees_39.1
theorem dX11_agrees_40 : decode cX11_agrees 40 = .ok (.iload_n 2, 1) := bdX11_agrees_39.2.1
theorem dX11_agrees_41 : decode cX11_agrees 41 = .ok (.aload_n 3, 1) := bdX11_agrees_39.2.2.1
theorem dX11_agrees_42 : decode cX11_agrees 42 = .ok (.getfield 344, 3) := bdX11_agrees_39.2.2.2.1
theorem dX11_agrees_45 : decode cX11_agrees 45 = .ok (.iload 4, 2) := bdX11_agrees_39.2.2.2.2.1
theorem dX11_agrees_47 : decode cX11_agrees 47 = .ok (.iaload, 1) := bdX11_agrees_39.2.2.2.2.2.1
theorem dX11_agrees_48 : decode cX11_agrees 48 = .ok (.invokevirtual 346, 3) := bdX11_agrees_39.2.2.2.2.2.2.1
theorem dX11_agrees_51 : decode cX11_agrees 51 = .ok (.aload_n 3, 1) := bdX11_agrees_39.2.2.2.2.2.2.2.1
theorem dX11_agrees_52 : decode cX11_agrees 52 = .ok (.getfield 350, 3) := bdX11_agrees_39.2.2.2.2.2.2.2.2.1
theorem dX11_agrees_55 : decode cX11_agrees 55 = .ok (.iload 4, 2) := bdX11_agrees_39.2.2.2.2.2.2.2.2.2
theorem bdX11_agrees_57 : (decode cX11_agrees 57 = .ok (.iaload, 1)) ∧ (decode cX11_agrees 58 = .ok (.if_icmp .eq 5, 3)) ∧ (decode cX11_agrees 61 = .ok (.iconst 0, 1)) ∧ (decode cX11_agrees 62 = .ok (.ireturn, 1)) ∧ (decode cX11_agrees 63 = .ok (.iinc 4 1, 3)) ∧ (decode cX11_agrees 66 = .ok (.goto (-55), 3)) ∧ (decode cX11_agrees 69 = .ok (.iconst 1, 1)) ∧ (decode cX11_agrees 70 = .ok (.ireturn, 1)) := by decide +kernel
theorem dX11_agrees_57 : decode cX11_agrees 57 = .ok (.iaload, 1) := bdX11_agrees_57.1
theorem dX11_agrees_58 : decode cX11_agrees 58 = .ok (.if_icmp .eq 5, 3) := bdX11_agrees_57.2.1
theorem dX11_agrees_61 : decode cX11_agrees 61 = .ok (.iconst 0, 1) := bdX11_agrees_57.2.2.1
theorem dX11_agrees_62 : decode cX11_agrees 62 = .ok (.ireturn, 1) := bdX11_agrees_57.2.2.2.1
theorem dX11_agrees_63 : decode cX11_agrees 63 = .ok (.iinc 4 1, 3) := bdX11_agrees_57.2.2.2.2.1
theorem dX11_agrees_66 : decode cX11_agrees 66 = .ok (.goto (-55), 3) := bdX11_agrees_57.2.2.2.2.2.1
theorem dX11_agrees_69 : decode cX11_agrees 69 = .ok (.iconst 1, 1) := bdX11_agrees_57.2.2.2.2.2.2.1
theorem dX11_agrees_70 : decode cX11_agrees 70 = .ok (.ireturn, 1) := bdX11_agrees_57.2.2.2.2.2.2.2
theorem bdX11_look_0 : (decode cX11_look 0 = .ok (.aload_n 0, 1)) ∧ (decode cX11_look 1 = .ok (.iload_n 1, 1)) ∧ (decode cX11_look 2 = .ok (.invokevirtual 157, 3)) ∧ (decode cX11_look 5 = .ok (.aload_n 0, 1)) ∧ (decode cX11_look 6 = .ok (.iload_n 2, 1)) ∧ (decode cX11_look 7 = .ok (.iconst 2, 1)) ∧ (decode cX11_look 8 = .ok (.invokevirtual 257, 3)) ∧ (decode cX11_look 11 = .ok (.iconst (-1), 1)) ∧ (decode cX11_look 12 = .ok (.istore_n 3, 1)) ∧ (decode cX11_look 13 = .ok (.iconst 0, 1)) := by decide +kernel
theorem dX11_look_0 : decode cX11_look 0 = .ok (.aload_n 0, 1) := bdX11_look_0.1
theorem dX11_look_1 : decode cX11_look 1 = .ok (.iload_n 1, 1) := bdX11_look_0.2.1
theorem dX11_look_2 : decode cX11_look 2 = .ok (.invokevirtual 157, 3) := bdX11_look_0.2.2.1
theorem dX11_look_5 : decode cX11_look 5 = .ok (.aload_n 0, 1) := bdX11_look_0.2.2.2.1
theorem dX11_look_6 : decode cX11_look 6 = .ok (.iload_n 2, 1) := bdX11_look_0.2.2.2.2.1
theorem dX11_look_7 : decode cX11_look 7 = .ok (.iconst 2, 1) := bdX11_look_0.2.2.2.2.2.1
theorem dX11_look_8 : decode cX11_look 8 = .ok (.invokevirtual 257, 3) := bdX11_look_0.2.2.2.2.2.2.1
theorem dX11_look_11 : decode cX11_look 11 = .ok (.iconst (-1), 1) := bdX11_look_0.2.2.2.2.2.2.2.1
theorem dX11_look_12 : decode cX11_look 12 = .ok (.istore_n 3, 1) := bdX11_look_0.2.2.2.2.2.2.2.2.1
theorem dX11_look_13 : decode cX11_look 13 = .ok (.iconst 0, 1) := bdX11_look_0.2.2.2.2.2.2.2.2.2
theorem bdX11_look_14 : (decode cX11_look 14 = .ok (.istore 4, 2)) ∧ (decode cX11_look 16 = .ok (.iconst 0, 1)) ∧ (decode cX11_look 17 = .ok (.istore 5, 2)) ∧ (decode cX11_look 19 = .ok (.iload 5, 2)) ∧ (decode cX11_look 21 = .ok (.bipush 99, 2)) ∧ (decode cX11_look 23 = .ok (.if_icmp .gt 45, 3)) ∧ (decode cX11_look 26 = .ok (.aload_n 0, 1)) ∧ (decode cX11_look 27 = .ok (.iload_n 1, 1)) ∧ (decode cX11_look 28 = .ok (.iconst 0, 1)) ∧ (decode cX11_look 29 = .ok (.iload 5, 2)) := by decide +kernel
theorem dX11_look_14 : decode cX11_look 14 = .ok (.istore 4, 2) := bdX11_look_14.1
theorem dX11_look_16 : decode cX11_look 16 = .ok (.iconst 0, 1) := bdX11_look_14.2.1
theorem dX11_look_17 : decode cX11_look 17 = .ok (.istore 5, 2) := bdX11_look_14.2.2.1
theorem dX11_look_19 : decode cX11_look 19 = .ok (.iload 5, 2) := bdX11_look_14.2.2.2.1
theorem dX11_look_21 : decode cX11_look 21 = .ok (.bipush 99, 2) := bdX11_look_14.2.2.2.2.1
theorem dX11_look_23 : decode cX11_look 23 = .ok (.if_icmp .gt 45, 3) := bdX11_look_14.2.2.2.2.2.1
theorem dX11_look_26 : decode cX11_look 26 = .ok (.aload_n 0, 1) := bdX11_look_14.2.2.2.2.2.2.1
theorem dX11_look_27 : decode cX11_look 27 = .ok (.iload_n 1, 1) := bdX11_look_14.2.2.2.2.2.2.2.1
theorem dX11_look_28 : decode cX11_look 28 = .ok (.iconst 0, 1) := bdX11_look_14.2.2.2.2.2.2.2.2.1
theorem dX11_look_29 : decode cX11_look 29 = .ok (.iload 5, 2) := bdX11_look_14.2.2.2.2.2.2.2.2.2
theorem bdX11_look_31 : (decode cX11_look 31 = .ok (.invokevirtual 346, 3)) ∧ (decode cX11_look 34 = .ok (.aload_n 0, 1)) ∧ (decode cX11_look 35 = .ok (.iload_n 1, 1)) ∧ (decode cX11_look 36 = .ok (.iconst 1, 1)) ∧ (decode cX11_look 37 = .ok (.iload 5, 2)) ∧ (decode cX11_look 39 = .ok (.invokevirtual 346, 3)) ∧ (decode cX11_look 42 = .ok (.isub, 1)) ∧ (decode cX11_look 43 = .ok (.invokestatic 353, 3)) ∧ (decode cX11_look 46 = .ok (.istore 6, 2)) ∧ (decode cX11_look 48 = .ok (.iload 6, 2)) := by decide +kernel
theorem dX11_look_31 : decode cX11_look 31 = .ok (.invokevirtual 346, 3) := bdX11_look_31.1
theorem dX11_look_34 : decode cX11_look 34 = .ok (.aload_n 0, 1) := bdX11_look_31.2.1
theorem dX11_look_35 : decode cX11_look 35 = .ok (.iload_n 1, 1) := bdX11_look_31.2.2.1
theorem dX11_look_36 : decode cX11_look 36 = .ok (.iconst 1, 1) := bdX11_look_31.2.2.2.1
theorem dX11_look_37 : decode cX11_look 37 = .ok (.iload 5, 2) := bdX11_look_31.2.2.2.2.1
theorem dX11_look_39 : decode cX11_look 39 = .ok (.invokevirtual 346, 3) := bdX11_look_31.2.2.2.2.2.1
theorem dX11_look_42 : decode cX11_look 42 = .ok (.isub, 1) := bdX11_look_31.2.2.2.2.2.2.1
theorem dX11_look_43 : decode cX11_look 43 = .ok (.invokestatic 353, 3) := bdX11_look_31.2.2.2.2.2.2.2.1
theorem dX11_look_46 : decode cX11_look 46 = .ok (.istore 6, 2) := bdX11_look_31.2.2.2.2.2.2.2.2.1
theorem dX11_look_48 : decode cX11_look 48 = .ok (.iload 6, 2) := bdX11_look_31.2.2.2.2.2.2.2.2.2
theorem bdX11_look_50 : (decode cX11_look 50 = .ok (.iload 4, 2)) ∧ (decode cX11_look 52 = .ok (.if_icmp .le 10, 3)) ∧ (decode cX11_look 55 = .ok (.iload 6, 2)) ∧ (decode cX11_look 57 = .ok (.istore 4, 2)) ∧ (decode cX11_look 59 = .ok (.iload 5, 2)) ∧ (decode cX11_look 61 = .ok (.istore_n 3, 1)) ∧ (decode cX11_look 62 = .ok (.iinc 5 1, 3)) ∧ (decode cX11_look 65 = .ok (.goto (-46), 3)) ∧ (decode cX11_look 68 = .ok (.iload_n 2, 1)) ∧ (decode cX11_look 69 = .ok (.ifCond .ne 7, 3)) := by decide +kernel
theorem dX11_look_50 : decode cX11_look 50 = .ok (.iload 4, 2) := bdX11_look_50.1
theorem dX11_look_52 : decode cX11_look 52 = .ok (.if_icmp .le 10, 3) := bdX11_look_50.2.1
theorem dX11_look_55 : decode cX11_look 55 = .ok (.iload 6, 2) := bdX11_look_50.2.2.1
theorem dX11_look_57 : decode cX11_look 57 = .ok (.istore 4, 2) := bdX11_look_50.2.2.2.1
theorem dX11_look_59 : decode cX11_look 59 = .ok (.iload 5, 2) := bdX11_look_50.2.2.2.2.1
theorem dX11_look_61 : decode cX11_look 61 = .ok (.istore_n 3, 1) := bdX11_look_50.2.2.2.2.2.1
theorem dX11_look_62 : decode cX11_look 62 = .ok (.iinc 5 1, 3) := bdX11_look_50.2.2.2.2.2.2.1
theorem dX11_look_65 : decode cX11_look 65 = .ok (.goto (-46), 3) := bdX11_look_50.2.2.2.2.2.2.2.1
theorem dX11_look_68 : decode cX11_look 68 = .ok (.iload_n 2, 1) := bdX11_look_50.2.2.2.2.2.2.2.2.1
theorem dX11_look_69 : decode cX11_look 69 = .ok (.ifCond .ne 7, 3) := bdX11_look_50.2.2.2.2.2.2.2.2.2
theorem bdX11_look_72 : (decode cX11_look 72 = .ok (.iload_n 3, 1)) ∧ (decode cX11_look 73 = .ok (.goto 5, 3)) ∧ (decode cX11_look 76 = .ok (.iload 4, 2)) ∧ (decode cX11_look 78 = .ok (.ireturn, 1)) := by decide +kernel
theorem dX11_look_72 : decode cX11_look 72 = .ok (.iload_n 3, 1) := bdX11_look_72.1
theorem dX11_look_73 : decode cX11_look 73 = .ok (.goto 5, 3) := bdX11_look_72.2.1
theorem dX11_look_76 : decode cX11_look 76 = .ok (.iload 4, 2) := bdX11_look_72.2.2.1
theorem dX11_look_78 : decode cX11_look 78 = .ok (.ireturn, 1) := bdX11_look_72.2.2.2
theorem bdX11_cropOfBrother_0 : (decode cX11_cropOfBrother 0 = .ok (.aload_n 0, 1)) ∧ (decode cX11_cropOfBrother 1 = .ok (.getfield 35, 3)) ∧ (decode cX11_cropOfBrother 4 = .ok (.aload_n 0, 1)) ∧ (decode cX11_cropOfBrother 5 = .ok (.getfield 42, 3)) ∧ (decode cX11_cropOfBrother 8 = .ok (.getfield 96, 3)) ∧ (decode cX11_cropOfBrother 11 = .ok (.iload_n 1, 1)) ∧ (decode cX11_cropOfBrother 12 = .ok (.iload_n 2, 1)) ∧ (decode cX11_cropOfBrother 13 = .ok (.aload_n 0, 1)) ∧ (decode cX11_cropOfBrother 14 = .ok (.getfield 42, 3)) ∧ (decode cX11_cropOfBrother 17 = .ok (.getfield 96, 3)) := by decide +kernel
theorem dX11_cropOfBrother_0 : decode cX11_cropOfBrother 0 = .ok (.aload_n 0, 1) := bdX11_cropOfBrother_0.1
theorem dX11_cropOfBrother_1 : decode cX11_cropOfBrother 1 = .ok (.getfield 35, 3) := bdX11_cropOfBrother_0.2.1
theorem dX11_cropOfBrother_4 : decode cX11_cropOfBrother 4 = .ok (.aload_n 0, 1) := bdX11_cropOfBrother_0.2.2.1
theorem dX11_cropOfBrother_5 : decode cX11_cropOfBrother 5 = .ok (.getfield 42, 3) := bdX11_cropOfBrother_0.2.2.2.1
theorem dX11_cropOfBrother_8 : decode cX11_cropOfBrother 8 = .ok (.getfield 96, 3) := bdX11_cropOfBrother_0.2.2.2.2.1
theorem dX11_cropOfBrother_11 : decode cX11_cropOfBrother 11 = .ok (.iload_n 1, 1) := bdX11_cropOfBrother_0.2.2.2.2.2.1
theorem dX11_cropOfBrother_12 : decode cX11_cropOfBrother 12 = .ok (.iload_n 2, 1) := bdX11_cropOfBrother_0.2.2.2.2.2.2.1
theorem dX11_cropOfBrother_13 : decode cX11_cropOfBrother 13 = .ok (.aload_n 0, 1) := bdX11_cropOfBrother_0.2.2.2.2.2.2.2.1
theorem dX11_cropOfBrother_14 : decode cX11_cropOfBrother 14 = .ok (.getfield 42, 3) := bdX11_cropOfBrother_0.2.2.2.2.2.2.2.2.1
theorem dX11_cropOfBrother_17 : decode cX11_cropOfBrother 17 = .ok (.getfield 96, 3) := bdX11_cropOfBrother_0.2.2.2.2.2.2.2.2.2
theorem bdX11_cropOfBrother_20 : (decode cX11_cropOfBrother 20 = .ok (.getfield 172, 3)) ∧ (decode cX11_cropOfBrother 23 = .ok (.iload_n 1, 1)) ∧ (decode cX11_cropOfBrother 24 = .ok (.iaload, 1)) ∧ (decode cX11_cropOfBrother 25 = .ok (.iload_n 3, 1)) ∧ (decode cX11_cropOfBrother 26 = .ok (.invokevirtual 210, 3)) ∧ (decode cX11_cropOfBrother 29 = .ok (.ireturn, 1)) := by decide +kernel
theorem dX11_cropOfBrother_20 : decode cX11_cropOfBrother 20 = .ok (.getfield 172, 3) := bdX11_cropOfBrother_20.1
theorem dX11_cropOfBrother_23 : decode cX11_cropOfBrother 23 = .ok (.iload_n 1, 1) := bdX11_cropOfBrother_20.2.1
theorem dX11_cropOfBrother_24 : decode cX11_cropOfBrother 24 = .ok (.iaload, 1) := bdX11_cropOfBrother_20.2.2.1
theorem dX11_cropOfBrother_25 : decode cX11_cropOfBrother 25 = .ok (.iload_n 3, 1) := bdX11_cropOfBrother_20.2.2.2.1
theorem dX11_cropOfBrother_26 : decode cX11_cropOfBrother 26 = .ok (.invokevirtual 210, 3) := bdX11_cropOfBrother_20.2.2.2.2.1
theorem dX11_cropOfBrother_29 : decode cX11_cropOfBrother 29 = .ok (.ireturn, 1) := bdX11_cropOfBrother_20.2.2.2.2.2
theorem bdX11_forget_0 : (decode cX11_forget 0 = .ok (.aload_n 0, 1)) ∧ (decode cX11_forget 1 = .ok (.getfield 42, 3)) ∧ (decode cX11_forget 4 = .ok (.getfield 147, 3)) ∧ (decode cX11_forget 7 = .ok (.iconst 0, 1)) ∧ (decode cX11_forget 8 = .ok (.putfield 151, 3)) ∧ (decode cX11_forget 11 = .ok (.return_, 1)) := by decide +kernel
theorem dX11_forget_0 : decode cX11_forget 0 = .ok (.aload_n 0, 1) := bdX11_forget_0.1
theorem dX11_forget_1 : decode cX11_forget 1 = .ok (.getfield 42, 3) := bdX11_forget_0.2.1
theorem dX11_forget_4 : decode cX11_forget 4 = .ok (.getfield 147, 3) := bdX11_forget_0.2.2.1
theorem dX11_forget_7 : decode cX11_forget 7 = .ok (.iconst 0, 1) := bdX11_forget_0.2.2.2.1
theorem dX11_forget_8 : decode cX11_forget 8 = .ok (.putfield 151, 3) := bdX11_forget_0.2.2.2.2.1
theorem dX11_forget_11 : decode cX11_forget 11 = .ok (.return_, 1) := bdX11_forget_0.2.2.2.2.2
theorem bdX11_game_0 : (decode cX11_game 0 = .ok (.aload_n 0, 1)) ∧ (decode cX11_game 1 = .ok (.iload_n 1, 1)) ∧ (decode cX11_game 2 = .ok (.invokevirtual 157, 3)) ∧ (decode cX11_game 5 = .ok (.aload_n 0, 1)) ∧ (decode cX11_game 6 = .ok (.iload_n 2, 1)) ∧ (decode cX11_game 7 = .ok (.invokevirtual 157, 3)) ∧ (decode cX11_game 10 = .ok (.aload_n 0, 1)) ∧ (decode cX11_game 11 = .ok (.iload_n 3, 1)) ∧ (decode cX11_game 12 = .ok (.invokevirtual 184, 3)) ∧ (decode cX11_game 15 = .ok (.aload_n 0, 1)) := by decide +kernel
theorem dX11_game_0 : decode cX11_game 0 = .ok (.aload_n 0, 1) := bdX11_game_0.1
theorem dX11_game_1 : decode cX11_game 1 = .ok (.iload_n 1, 1) := bdX11_game_0.2.1
theorem dX11_game_2 : decode cX11_game 2 = .ok (.invokevirtual 157, 3) := bdX11_game_0.2.2.1
theorem dX11_game_5 : decode cX11_game 5 = .ok (.aload_n 0, 1) := bdX11_game_0.2.2.2.1
theorem dX11_game_6 : decode cX11_game 6 = .ok (.iload_n 2, 1) := bdX11_game_0.2.2.2.2.1
theorem dX11_game_7 : decode cX11_game 7 = .ok (.invokevirtual 157, 3) := bdX11_game_0.2.2.2.2.2.1
theorem dX11_game_10 : decode cX11_game 10 = .ok (.aload_n 0, 1) := bdX11_game_0.2.2.2.2.2.2.1
theorem dX11_game_11 : decode cX11_game 11 = .ok (.iload_n 3, 1) := bdX11_game_0.2.2.2.2.2.2.2.1
theorem dX11_game_12 : decode cX11_game 12 = .ok (.invokevirtual 184, 3) := bdX11_game_0.2.2.2.2.2.2.2.2.1
theorem dX11_game_15 : decode cX11_game 15 = .ok (.aload_n 0, 1) := bdX11_game_0.2.2.2.2.2.2.2.2.2
theorem bdX11_game_16 : (decode cX11_game 16 = .ok (.iload 4, 2)) ∧ (decode cX11_game 18 = .ok (.iconst 2, 1)) ∧ (decode cX11_game 19 = .ok (.invokevirtual 257, 3)) ∧ (decode cX11_game 22 = .ok (.iload_n 1, 1)) ∧ (decode cX11_game 23 = .ok (.iload_n 2, 1)) ∧ (decode cX11_game 24 = .ok (.if_icmp .ne 11, 3)) ∧ (decode cX11_game 27 = .ok (.new 79, 3)) ∧ (decode cX11_game 30 = .ok (.dup, 1)) ∧ (decode cX11_game 31 = .ok (.invokespecial 81, 3)) ∧ (decode cX11_game 34 = .ok (.athrow, 1)) := by decide +kernel
theorem dX11_game_16 : decode cX11_game 16 = .ok (.iload 4, 2) := bdX11_game_16.1
theorem dX11_game_18 : decode cX11_game 18 = .ok (.iconst 2, 1) := bdX11_game_16.2.1
theorem dX11_game_19 : decode cX11_game 19 = .ok (.invokevirtual 257, 3) := bdX11_game_16.2.2.1
theorem dX11_game_22 : decode cX11_game 22 = .ok (.iload_n 1, 1) := bdX11_game_16.2.2.2.1
theorem dX11_game_23 : decode cX11_game 23 = .ok (.iload_n 2, 1) := bdX11_game_16.2.2.2.2.1
theorem dX11_game_24 : decode cX11_game 24 = .ok (.if_icmp .ne 11, 3) := bdX11_game_16.2.2.2.2.2.1
theorem dX11_game_27 : decode cX11_game 27 = .ok (.new 79, 3) := bdX11_game_16.2.2.2.2.2.2.1
theorem dX11_game_30 : decode cX11_game 30 = .ok (.dup, 1) := bdX11_game_16.2.2.2.2.2.2.2.1
theorem dX11_game_31 : decode cX11_game 31 = .ok (.invokespecial 81, 3) := bdX11_game_16.2.2.2.2.2.2.2.2.1
theorem dX11_game_34 : decode cX11_game 34 = .ok (.athrow, 1) := bdX11_game_16.2.2.2.2.2.2.2.2.2
theorem bdX11_game_35 : (decode cX11_game 35 = .ok (.iconst 0, 1)) ∧ (decode cX11_game 36 = .ok (.istore 5, 2)) ∧ (decode cX11_game 38 = .ok (.iconst (-1), 1)) ∧ (decode cX11_game 39 = .ok (.istore 6, 2)) ∧ (decode cX11_game 41 = .ok (.iconst 0, 1)) ∧ (decode cX11_game 42 = .ok (.istore 7, 2)) ∧ (decode cX11_game 44 = .ok (.iload 7, 2)) ∧ (decode cX11_game 46 = .ok (.iconst 4, 1)) ∧ (decode cX11_game 47 = .ok (.if_icmp .ge 93, 3)) ∧ (decode cX11_game 50 = .ok (.iload 7, 2)) := by decide +kernel
theorem dX11_game_35 : decode cX11_game 35 = .ok (.iconst 0, 1) := bdX11_game_35.1
theorem dX11_game_36 : decode cX11_game 36 = .ok (.istore 5, 2) := bdX11_game_35.2.1
theorem dX11_game_38 : decode cX11_game 38 = .ok (.iconst (-1), 1) := bdX11_game_35.2.2.1
theorem dX11_game_39 : decode cX11_game 39 = .ok (.istore 6, 2) := bdX11_game_35.2.2.2.1
theorem dX11_game_41 : decode cX11_game 41 = .ok (.iconst 0, 1) := bdX11_game_35.2.2.2.2.1
theorem dX11_game_42 : decode cX11_game 42 = .ok (.istore 7, 2) := bdX11_game_35.2.2.2.2.2.1
theorem dX11_game_44 : decode cX11_game 44 = .ok (.iload 7, 2) := bdX11_game_35.2.2.2.2.2.2.1
theorem dX11_game_46 : decode cX11_game 46 = .ok (.iconst 4, 1) := bdX11_game_35.2.2.2.2.2.2.2.1
theorem dX11_game_47 : decode cX11_game 47 = .ok (.if_icmp .ge 93, 3) := bdX11_game_35.2.2.2.2.2.2.2.2.1
theorem dX11_game_50 : decode cX11_game 50 = .ok (.iload 7, 2) := bdX11_game_35.2.2.2.2.2.2.2.2.2
theorem bdX11_game_52 : (decode cX11_game 52 = .ok (.iconst 2, 1)) ∧ (decode cX11_game 53 = .ok (.iand, 1)) ∧ (decode cX11_game 54 = .ok (.ifCond .eq 7, 3)) ∧ (decode cX11_game 57 = .ok (.iconst 1, 1)) ∧ (decode cX11_game 58 = .ok (.goto 4, 3)) ∧ (decode cX11_game 61 = .ok (.iconst 0, 1)) ∧ (decode cX11_game 62 = .ok (.istore 8, 2)) ∧ (decode cX11_game 64 = .ok (.iload 7, 2)) ∧ (decode cX11_game 66 = .ok (.iconst 1, 1)) ∧ (decode cX11_game 67 = .ok (.iand, 1)) := by decide +kernel
theorem dX11_game_52 : decode cX11_game 52 = .ok (.iconst 2, 1) := bdX11_game_52.1
theorem dX11_game_53 : decode cX11_game 53 = .ok (.iand, 1) := bdX11_game_52.2.1
theorem dX11_game_54 : decode cX11_game 54 = .ok (.ifCond .eq 7, 3) := bdX11_game_52.2.2.1
theorem dX11_game_57 : decode cX11_game 57 = .ok (.iconst 1, 1) := bdX11_game_52.2.2.2.1
theorem dX11_game_58 : decode cX11_game 58 = .ok (.goto 4, 3) := bdX11_game_52.2.2.2.2.1
theorem dX11_game_61 : decode cX11_game 61 = .ok (.iconst 0, 1) := bdX11_game_52.2.2.2.2.2.1
theorem dX11_game_62 : decode cX11_game 62 = .ok (.istore 8, 2) := bdX11_game_52.2.2.2.2.2.2.1
theorem dX11_game_64 : decode cX11_game 64 = .ok (.iload 7, 2) := bdX11_game_52.2.2.2.2.2.2.2.1
theorem dX11_game_66 : decode cX11_game 66 = .ok (.iconst 1, 1) := bdX11_game_52.2.2.2.2.2.2.2.2.1
theorem dX11_game_67 : decode cX11_game 67 = .ok (.iand, 1) := bdX11_game_52.2.2.2.2.2.2.2.2.2
theorem bdX11_game_68 : (decode cX11_game 68 = .ok (.ifCond .eq 7, 3)) ∧ (decode cX11_game 71 = .ok (.iconst 1, 1)) ∧ (decode cX11_game 72 = .ok (.goto 4, 3)) ∧ (decode cX11_game 75 = .ok (.iconst 0, 1)) ∧ (decode cX11_game 76 = .ok (.istore 9, 2)) ∧ (decode cX11_game 78 = .ok (.aload_n 0, 1)) ∧ (decode cX11_game 79 = .ok (.iload_n 1, 1)) ∧ (decode cX11_game 80 = .ok (.iload_n 2, 1)) ∧ (decode cX11_game 81 = .ok (.iload_n 3, 1)) ∧ (decode cX11_game 82 = .ok (.iload 8, 2)) := by decide +kernel
theorem dX11_game_68 : decode cX11_game 68 = .ok (.ifCond .eq 7, 3) := bdX11_game_68.1
theorem dX11_game_71 : decode cX11_game 71 = .ok (.iconst 1, 1) := bdX11_game_68.2.1
theorem dX11_game_72 : decode cX11_game 72 = .ok (.goto 4, 3) := bdX11_game_68.2.2.1
theorem dX11_game_75 : decode cX11_game 75 = .ok (.iconst 0, 1) := bdX11_game_68.2.2.2.1
theorem dX11_game_76 : decode cX11_game 76 = .ok (.istore 9, 2) := bdX11_game_68.2.2.2.2.1
theorem dX11_game_78 : decode cX11_game 78 = .ok (.aload_n 0, 1) := bdX11_game_68.2.2.2.2.2.1
theorem dX11_game_79 : decode cX11_game 79 = .ok (.iload_n 1, 1) := bdX11_game_68.2.2.2.2.2.2.1
theorem dX11_game_80 : decode cX11_game 80 = .ok (.iload_n 2, 1) := bdX11_game_68.2.2.2.2.2.2.2.1
theorem dX11_game_81 : decode cX11_game 81 = .ok (.iload_n 3, 1) := bdX11_game_68.2.2.2.2.2.2.2.2.1
theorem dX11_game_82 : decode cX11_game 82 = .ok (.iload 8, 2) := bdX11_game_68.2.2.2.2.2.2.2.2.2
theorem bdX11_game_84 : (decode cX11_game 84 = .ok (.iload 9, 2)) ∧ (decode cX11_game 86 = .ok (.invokevirtual 356, 3)) ∧ (decode cX11_game 89 = .ok (.ifCond .eq 45, 3)) ∧ (decode cX11_game 92 = .ok (.aload_n 0, 1)) ∧ (decode cX11_game 93 = .ok (.iload_n 2, 1)) ∧ (decode cX11_game 94 = .ok (.iload_n 1, 1)) ∧ (decode cX11_game 95 = .ok (.iload_n 3, 1)) ∧ (decode cX11_game 96 = .ok (.iload 9, 2)) ∧ (decode cX11_game 98 = .ok (.iload 8, 2)) ∧ (decode cX11_game 100 = .ok (.invokevirtual 356, 3)) := by decide +kernel
theorem dX11_game_84 : decode cX11_game 84 = .ok (.iload 9, 2) := bdX11_game_84.1
theorem dX11_game_86 : decode cX11_game 86 = .ok (.invokevirtual 356, 3) := bdX11_game_84.2.1
theorem dX11_game_89 : decode cX11_game 89 = .ok (.ifCond .eq 45, 3) := bdX11_game_84.2.2.1
theorem dX11_game_92 : decode cX11_game 92 = .ok (.aload_n 0, 1) := bdX11_game_84.2.2.2.1
theorem dX11_game_93 : decode cX11_game 93 = .ok (.iload_n 2, 1) := bdX11_game_84.2.2.2.2.1
theorem dX11_game_94 : decode cX11_game 94 = .ok (.iload_n 1, 1) := bdX11_game_84.2.2.2.2.2.1
theorem dX11_game_95 : decode cX11_game 95 = .ok (.iload_n 3, 1) := bdX11_game_84.2.2.2.2.2.2.1
theorem dX11_game_96 : decode cX11_game 96 = .ok (.iload 9, 2) := bdX11_game_84.2.2.2.2.2.2.2.1
theorem dX11_game_98 : decode cX11_game 98 = .ok (.iload 8, 2) := bdX11_game_84.2.2.2.2.2.2.2.2.1
theorem dX11_game_100 : decode cX11_game 100 = .ok (.invokevirtual 356, 3) := bdX11_game_84.2.2.2.2.2.2.2.2.2
theorem bdX11_game_103 : (decode cX11_game 103 = .ok (.ifCond .eq 31, 3)) ∧ (decode cX11_game 106 = .ok (.iinc 5 1, 3)) ∧ (decode cX11_game 109 = .ok (.iload 6, 2)) ∧ (decode cX11_game 111 = .ok (.iconst (-1), 1)) ∧ (decode cX11_game 112 = .ok (.if_icmp .ne 18, 3)) ∧ (decode cX11_game 115 = .ok (.bipush 10, 2)) ∧ (decode cX11_game 117 = .ok (.iload 7, 2)) ∧ (decode cX11_game 119 = .ok (.iconst 1, 1)) ∧ (decode cX11_game 120 = .ok (.ishr, 1)) ∧ (decode cX11_game 121 = .ok (.imul, 1)) := by decide +kernel
theorem dX11_game_103 : decode cX11_game 103 = .ok (.ifCond .eq 31, 3) := bdX11_game_103.1
theorem dX11_game_106 : decode cX11_game 106 = .ok (.iinc 5 1, 3) := bdX11_game_103.2.1
theorem dX11_game_109 : decode cX11_game 109 = .ok (.iload 6, 2) := bdX11_game_103.2.2.1
theorem dX11_game_111 : decode cX11_game 111 = .ok (.iconst (-1), 1) := bdX11_game_103.2.2.2.1
theorem dX11_game_112 : decode cX11_game 112 = .ok (.if_icmp .ne 18, 3) := bdX11_game_103.2.2.2.2.1
theorem dX11_game_115 : decode cX11_game 115 = .ok (.bipush 10, 2) := bdX11_game_103.2.2.2.2.2.1
theorem dX11_game_117 : decode cX11_game 117 = .ok (.iload 7, 2) := bdX11_game_103.2.2.2.2.2.2.1
theorem dX11_game_119 : decode cX11_game 119 = .ok (.iconst 1, 1) := bdX11_game_103.2.2.2.2.2.2.2.1
theorem dX11_game_120 : decode cX11_game 120 = .ok (.ishr, 1) := bdX11_game_103.2.2.2.2.2.2.2.2.1
theorem dX11_game_121 : decode cX11_game 121 = .ok (.imul, 1) := bdX11_game_103.2.2.2.2.2.2.2.2.2
theorem bdX11_game_122 : (decode cX11_game 122 = .ok (.iload 7, 2)) ∧ (decode cX11_game 124 = .ok (.iconst 1, 1)) ∧ (decode cX11_game 125 = .ok (.iand, 1)) ∧ (decode cX11_game 126 = .ok (.iadd, 1)) ∧ (decode cX11_game 127 = .ok (.goto 5, 3)) ∧ (decode cX11_game 130 = .ok (.iload 6, 2)) ∧ (decode cX11_game 132 = .ok (.istore 6, 2)) ∧ (decode cX11_game 134 = .ok (.iinc 7 1, 3)) ∧ (decode cX11_game 137 = .ok (.goto (-93), 3)) ∧ (decode cX11_game 140 = .ok (.iload 4, 2)) := by decide +kernel
theorem dX11_game_122 : decode cX11_game 122 = .ok (.iload 7, 2) := bdX11_game_122.1
theorem dX11_game_124 : decode cX11_game 124 = .ok (.iconst 1, 1) := bdX11_game_122.2.1
theorem dX11_game_125 : decode cX11_game 125 = .ok (.iand, 1) := bdX11_game_122.2.2.1
theorem dX11_game_126 : decode cX11_game 126 = .ok (.iadd, 1) := bdX11_game_122.2.2.2.1
theorem dX11_game_127 : decode cX11_game 127 = .ok (.goto 5, 3) := bdX11_game_122.2.2.2.2.1
theorem dX11_game_130 : decode cX11_game 130 = .ok (.iload 6, 2) := bdX11_game_122.2.2.2.2.2.1
theorem dX11_game_132 : decode cX11_game 132 = .ok (.istore 6, 2) := bdX11_game_122.2.2.2.2.2.2.1
theorem dX11_game_134 : decode cX11_game 134 = .ok (.iinc 7 1, 3) := bdX11_game_122.2.2.2.2.2.2.2.1
theorem dX11_game_137 : decode cX11_game 137 = .ok (.goto (-93), 3) := bdX11_game_122.2.2.2.2.2.2.2.2.1
theorem dX11_game_140 : decode cX11_game 140 = .ok (.iload 4, 2) := bdX11_game_122.2.2.2.2.2.2.2.2.2
theorem bdX11_game_142 : (decode cX11_game 142 = .ok (.ifCond .ne 8, 3)) ∧ (decode cX11_game 145 = .ok (.iload 5, 2)) ∧ (decode cX11_game 147 = .ok (.goto 5, 3)) ∧ (decode cX11_game 150 = .ok (.iload 6, 2)) ∧ (decode cX11_game 152 = .ok (.ireturn, 1)) := by decide +kernel
theorem dX11_game_142 : decode cX11_game 142 = .ok (.ifCond .ne 8, 3) := bdX11_game_142.1
theorem dX11_game_145 : decode cX11_game 145 = .ok (.iload 5, 2) := bdX11_game_142.2.1
theorem dX11_game_147 : decode cX11_game 147 = .ok (.goto 5, 3) := bdX11_game_142.2.2.1
theorem dX11_game_150 : decode cX11_game 150 = .ok (.iload 6, 2) := bdX11_game_142.2.2.2.1
theorem dX11_game_152 : decode cX11_game 152 = .ok (.ireturn, 1) := bdX11_game_142.2.2.2.2
theorem bdX11_isContent_0 : (decode cX11_isContent 0 = .ok (.aload_n 0, 1)) ∧ (decode cX11_isContent 1 = .ok (.iload_n 1, 1)) ∧ (decode cX11_isContent 2 = .ok (.iload_n 2, 1)) ∧ (decode cX11_isContent 3 = .ok (.iload_n 3, 1)) ∧ (decode cX11_isContent 4 = .ok (.iload 4, 2)) ∧ (decode cX11_isContent 6 = .ok (.ifCond .ne 7, 3)) ∧ (decode cX11_isContent 9 = .ok (.iconst 1, 1)) ∧ (decode cX11_isContent 10 = .ok (.goto 4, 3)) ∧ (decode cX11_isContent 13 = .ok (.iconst 0, 1)) ∧ (decode cX11_isContent 14 = .ok (.iload 5, 2)) := by decide +kernel
theorem dX11_isContent_0 : decode cX11_isContent 0 = .ok (.aload_n 0, 1) := bdX11_isContent_0.1
theorem dX11_isContent_1 : decode cX11_isContent 1 = .ok (.iload_n 1, 1) := bdX11_isContent_0.2.1
theorem dX11_isContent_2 : decode cX11_isContent 2 = .ok (.iload_n 2, 1) := bdX11_isContent_0.2.2.1
theorem dX11_isContent_3 : decode cX11_isContent 3 = .ok (.iload_n 3, 1) := bdX11_isContent_0.2.2.2.1
theorem dX11_isContent_4 : decode cX11_isContent 4 = .ok (.iload 4, 2) := bdX11_isContent_0.2.2.2.2.1
theorem dX11_isContent_6 : decode cX11_isContent 6 = .ok (.ifCond .ne 7, 3) := bdX11_isContent_0.2.2.2.2.2.1
theorem dX11_isContent_9 : decode cX11_isContent 9 = .ok (.iconst 1, 1) := bdX11_isContent_0.2.2.2.2.2.2.1
theorem dX11_isContent_10 : decode cX11_isContent 10 = .ok (.goto 4, 3) := bdX11_isContent_0.2.2.2.2.2.2.2.1
theorem dX11_isContent_13 : decode cX11_isContent 13 = .ok (.iconst 0, 1) := bdX11_isContent_0.2.2.2.2.2.2.2.2.1
theorem dX11_isContent_14 : decode cX11_isContent 14 = .ok (.iload 5, 2) := bdX11_isContent_0.2.2.2.2.2.2.2.2.2
theorem bdX11_isContent_16 : (decode cX11_isContent 16 = .ok (.invokevirtual 360, 3)) ∧ (decode cX11_isContent 19 = .ok (.aload_n 0, 1)) ∧ (decode cX11_isContent 20 = .ok (.iload_n 1, 1)) ∧ (decode cX11_isContent 21 = .ok (.iload_n 2, 1)) ∧ (decode cX11_isContent 22 = .ok (.iload_n 3, 1)) ∧ (decode cX11_isContent 23 = .ok (.iload 4, 2)) ∧ (decode cX11_isContent 25 = .ok (.iload 5, 2)) ∧ (decode cX11_isContent 27 = .ok (.invokevirtual 360, 3)) ∧ (decode cX11_isContent 30 = .ok (.lcmp, 1)) ∧ (decode cX11_isContent 31 = .ok (.ifCond .gt 7, 3)) := by decide +kernel
theorem dX11_isContent_16 : decode cX11_isContent 16 = .ok (.invokevirtual 360, 3) := bdX11_isContent_16.1
theorem dX11_isContent_19 : decode cX11_isContent 19 = .ok (.aload_n 0, 1) := bdX11_isContent_16.2.1
theorem dX11_isContent_20 : decode cX11_isContent 20 = .ok (.iload_n 1, 1) := bdX11_isContent_16.2.2.1
theorem dX11_isContent_21 : decode cX11_isContent 21 = .ok (.iload_n 2, 1) := bdX11_isContent_16.2.2.2.1
theorem dX11_isContent_22 : decode cX11_isContent 22 = .ok (.iload_n 3, 1) := bdX11_isContent_16.2.2.2.2.1
theorem dX11_isContent_23 : decode cX11_isContent 23 = .ok (.iload 4, 2) := bdX11_isContent_16.2.2.2.2.2.1
theorem dX11_isContent_25 : decode cX11_isContent 25 = .ok (.iload 5, 2) := bdX11_isContent_16.2.2.2.2.2.2.1
theorem dX11_isContent_27 : decode cX11_isContent 27 = .ok (.invokevirtual 360, 3) := bdX11_isContent_16.2.2.2.2.2.2.2.1
theorem dX11_isContent_30 : decode cX11_isContent 30 = .ok (.lcmp, 1) := bdX11_isContent_16.2.2.2.2.2.2.2.2.1
theorem dX11_isContent_31 : decode cX11_isContent 31 = .ok (.ifCond .gt 7, 3) := bdX11_isContent_16.2.2.2.2.2.2.2.2.2
theorem bdX11_isContent_34 : (decode cX11_isContent 34 = .ok (.iconst 1, 1)) ∧ (decode cX11_isContent 35 = .ok (.goto 4, 3)) ∧ (decode cX11_isContent 38 = .ok (.iconst 0, 1)) ∧ (decode cX11_isContent 39 = .ok (.ireturn, 1)) := by decide +kernel
theorem dX11_isContent_34 : decode cX11_isContent 34 = .ok (.iconst 1, 1) := bdX11_isContent_34.1
theorem dX11_isContent_35 : decode cX11_isContent 35 = .ok (.goto 4, 3) := bdX11_isContent_34.2.1
theorem dX11_isContent_38 : decode cX11_isContent 38 = .ok (.iconst 0, 1) := bdX11_isContent_34.2.2.1
theorem dX11_isContent_39 : decode cX11_isContent 39 = .ok (.ireturn, 1) := bdX11_isContent_34.2.2.2
theorem bdX11_gain_0 : (decode cX11_gain 0 = .ok (.iload 4, 2)) ∧ (decode cX11_gain 2 = .ok (.ifCond .ne 20, 3)) ∧ (decode cX11_gain 5 = .ok (.aload_n 0, 1)) ∧ (decode cX11_gain 6 = .ok (.getfield 35, 3)) ∧ (decode cX11_gain 9 = .ok (.aload_n 0, 1)) ∧ (decode cX11_gain 10 = .ok (.getfield 42, 3)) ∧ (decode cX11_gain 13 = .ok (.getfield 96, 3)) ∧ (decode cX11_gain 16 = .ok (.iload_n 1, 1)) ∧ (decode cX11_gain 17 = .ok (.lconst 0, 1)) ∧ (decode cX11_gain 18 = .ok (.invokevirtual 306, 3)) := by decide +kernel
theorem dX11_gain_0 : decode cX11_gain 0 = .ok (.iload 4, 2) := bdX11_gain_0.1
theorem dX11_gain_2 : decode cX11_gain 2 = .ok (.ifCond .ne 20, 3) := bdX11_gain_0.2.1
theorem dX11_gain_5 : decode cX11_gain 5 = .ok (.aload_n 0, 1) := bdX11_gain_0.2.2.1
theorem dX11_gain_6 : decode cX11_gain 6 = .ok (.getfield 35, 3) := bdX11_gain_0.2.2.2.1
theorem dX11_gain_9 : decode cX11_gain 9 = .ok (.aload_n 0, 1) := bdX11_gain_0.2.2.2.2.1
theorem dX11_gain_10 : decode cX11_gain 10 = .ok (.getfield 42, 3) := bdX11_gain_0.2.2.2.2.2.1
theorem dX11_gain_13 : decode cX11_gain 13 = .ok (.getfield 96, 3) := bdX11_gain_0.2.2.2.2.2.2.1
theorem dX11_gain_16 : decode cX11_gain 16 = .ok (.iload_n 1, 1) := bdX11_gain_0.2.2.2.2.2.2.2.1
theorem dX11_gain_17 : decode cX11_gain 17 = .ok (.lconst 0, 1) := bdX11_gain_0.2.2.2.2.2.2.2.2.1
theorem dX11_gain_18 : decode cX11_gain 18 = .ok (.invokevirtual 306, 3) := bdX11_gain_0.2.2.2.2.2.2.2.2.2
theorem bdX11_gain_21 : (decode cX11_gain 21 = .ok (.lreturn, 1)) ∧ (decode cX11_gain 22 = .ok (.aload_n 0, 1)) ∧ (decode cX11_gain 23 = .ok (.getfield 35, 3)) ∧ (decode cX11_gain 26 = .ok (.aload_n 0, 1)) ∧ (decode cX11_gain 27 = .ok (.getfield 42, 3)) ∧ (decode cX11_gain 30 = .ok (.getfield 96, 3)) ∧ (decode cX11_gain 33 = .ok (.iload_n 1, 1)) ∧ (decode cX11_gain 34 = .ok (.iload_n 3, 1)) ∧ (decode cX11_gain 35 = .ok (.invokevirtual 202, 3)) ∧ (decode cX11_gain 38 = .ok (.i2l, 1)) := by decide +kernel
theorem dX11_gain_21 : decode cX11_gain 21 = .ok (.lreturn, 1) := bdX11_gain_21.1
theorem dX11_gain_22 : decode cX11_gain 22 = .ok (.aload_n 0, 1) := bdX11_gain_21.2.1
theorem dX11_gain_23 : decode cX11_gain 23 = .ok (.getfield 35, 3) := bdX11_gain_21.2.2.1
theorem dX11_gain_26 : decode cX11_gain 26 = .ok (.aload_n 0, 1) := bdX11_gain_21.2.2.2.1
theorem dX11_gain_27 : decode cX11_gain 27 = .ok (.getfield 42, 3) := bdX11_gain_21.2.2.2.2.1
theorem dX11_gain_30 : decode cX11_gain 30 = .ok (.getfield 96, 3) := bdX11_gain_21.2.2.2.2.2.1
theorem dX11_gain_33 : decode cX11_gain 33 = .ok (.iload_n 1, 1) := bdX11_gain_21.2.2.2.2.2.2.1
theorem dX11_gain_34 : decode cX11_gain 34 = .ok (.iload_n 3, 1) := bdX11_gain_21.2.2.2.2.2.2.2.1
theorem dX11_gain_35 : decode cX11_gain 35 = .ok (.invokevirtual 202, 3) := bdX11_gain_21.2.2.2.2.2.2.2.2.1
theorem dX11_gain_38 : decode cX11_gain 38 = .ok (.i2l, 1) := bdX11_gain_21.2.2.2.2.2.2.2.2.2
theorem bdX11_gain_39 : (decode cX11_gain 39 = .ok (.lstore 6, 2)) ∧ (decode cX11_gain 41 = .ok (.iload 5, 2)) ∧ (decode cX11_gain 43 = .ok (.ifCond .ne 6, 3)) ∧ (decode cX11_gain 46 = .ok (.lload 6, 2)) ∧ (decode cX11_gain 48 = .ok (.lreturn, 1)) ∧ (decode cX11_gain 49 = .ok (.aload_n 0, 1)) ∧ (decode cX11_gain 50 = .ok (.getfield 35, 3)) ∧ (decode cX11_gain 53 = .ok (.aload_n 0, 1)) ∧ (decode cX11_gain 54 = .ok (.getfield 42, 3)) ∧ (decode cX11_gain 57 = .ok (.getfield 96, 3)) := by decide +kernel
theorem dX11_gain_39 : decode cX11_gain 39 = .ok (.lstore 6, 2) := bdX11_gain_39.1
theorem dX11_gain_41 : decode cX11_gain 41 = .ok (.iload 5, 2) := bdX11_gain_39.2.1
theorem dX11_gain_43 : decode cX11_gain 43 = .ok (.ifCond .ne 6, 3) := bdX11_gain_39.2.2.1
theorem dX11_gain_46 : decode cX11_gain 46 = .ok (.lload 6, 2) := bdX11_gain_39.2.2.2.1
theorem dX11_gain_48 : decode cX11_gain 48 = .ok (.lreturn, 1) := bdX11_gain_39.2.2.2.2.1
theorem dX11_gain_49 : decode cX11_gain 49 = .ok (.aload_n 0, 1) := bdX11_gain_39.2.2.2.2.2.1
theorem dX11_gain_50 : decode cX11_gain 50 = .ok (.getfield 35, 3) := bdX11_gain_39.2.2.2.2.2.2.1
theorem dX11_gain_53 : decode cX11_gain 53 = .ok (.aload_n 0, 1) := bdX11_gain_39.2.2.2.2.2.2.2.1
theorem dX11_gain_54 : decode cX11_gain 54 = .ok (.getfield 42, 3) := bdX11_gain_39.2.2.2.2.2.2.2.2.1
theorem dX11_gain_57 : decode cX11_gain 57 = .ok (.getfield 96, 3) := bdX11_gain_39.2.2.2.2.2.2.2.2.2
theorem bdX11_gain_60 : (decode cX11_gain 60 = .ok (.iload_n 1, 1)) ∧ (decode cX11_gain 61 = .ok (.invokevirtual 290, 3)) ∧ (decode cX11_gain 64 = .ok (.aload_n 0, 1)) ∧ (decode cX11_gain 65 = .ok (.getfield 35, 3)) ∧ (decode cX11_gain 68 = .ok (.aload_n 0, 1)) ∧ (decode cX11_gain 69 = .ok (.getfield 42, 3)) ∧ (decode cX11_gain 72 = .ok (.getfield 96, 3)) ∧ (decode cX11_gain 75 = .ok (.iload_n 2, 1)) ∧ (decode cX11_gain 76 = .ok (.invokevirtual 290, 3)) ∧ (decode cX11_gain 79 = .ok (.if_icmp .le 7, 3)) := by decide +kernel
theorem dX11_gain_60 : decode cX11_gain 60 = .ok (.iload_n 1, 1) := bdX11_gain_60.1
theorem dX11_gain_61 : decode cX11_gain 61 = .ok (.invokevirtual 290, 3) := bdX11_gain_60.2.1
theorem dX11_gain_64 : decode cX11_gain 64 = .ok (.aload_n 0, 1) := bdX11_gain_60.2.2.1
theorem dX11_gain_65 : decode cX11_gain 65 = .ok (.getfield 35, 3) := bdX11_gain_60.2.2.2.1
theorem dX11_gain_68 : decode cX11_gain 68 = .ok (.aload_n 0, 1) := bdX11_gain_60.2.2.2.2.1
theorem dX11_gain_69 : decode cX11_gain 69 = .ok (.getfield 42, 3) := bdX11_gain_60.2.2.2.2.2.1
theorem dX11_gain_72 : decode cX11_gain 72 = .ok (.getfield 96, 3) := bdX11_gain_60.2.2.2.2.2.2.1
theorem dX11_gain_75 : decode cX11_gain 75 = .ok (.iload_n 2, 1) := bdX11_gain_60.2.2.2.2.2.2.2.1
theorem dX11_gain_76 : decode cX11_gain 76 = .ok (.invokevirtual 290, 3) := bdX11_gain_60.2.2.2.2.2.2.2.2.1
theorem dX11_gain_79 : decode cX11_gain 79 = .ok (.if_icmp .le 7, 3) := bdX11_gain_60.2.2.2.2.2.2.2.2.2
theorem bdX11_gain_82 : (decode cX11_gain 82 = .ok (.iconst 1, 1)) ∧ (decode cX11_gain 83 = .ok (.goto 4, 3)) ∧ (decode cX11_gain 86 = .ok (.iconst 0, 1)) ∧ (decode cX11_gain 87 = .ok (.istore 8, 2)) ∧ (decode cX11_gain 89 = .ok (.iload 8, 2)) ∧ (decode cX11_gain 91 = .ok (.ifCond .eq 12, 3)) ∧ (decode cX11_gain 94 = .ok (.lload 6, 2)) ∧ (decode cX11_gain 96 = .ok (.ldc2_w 364, 3)) ∧ (decode cX11_gain 99 = .ok (.lsub, 1)) ∧ (decode cX11_gain 100 = .ok (.goto 4, 3)) := by decide +kernel
theorem dX11_gain_82 : decode cX11_gain 82 = .ok (.iconst 1, 1) := bdX11_gain_82.1
theorem dX11_gain_83 : decode cX11_gain 83 = .ok (.goto 4, 3) := bdX11_gain_82.2.1
theorem dX11_gain_86 : decode cX11_gain 86 = .ok (.iconst 0, 1) := bdX11_gain_82.2.2.1
theorem dX11_gain_87 : decode cX11_gain 87 = .ok (.istore 8, 2) := bdX11_gain_82.2.2.2.1
theorem dX11_gain_89 : decode cX11_gain 89 = .ok (.iload 8, 2) := bdX11_gain_82.2.2.2.2.1
theorem dX11_gain_91 : decode cX11_gain 91 = .ok (.ifCond .eq 12, 3) := bdX11_gain_82.2.2.2.2.2.1
theorem dX11_gain_94 : decode cX11_gain 94 = .ok (.lload 6, 2) := bdX11_gain_82.2.2.2.2.2.2.1
theorem dX11_gain_96 : decode cX11_gain 96 = .ok (.ldc2_w 364, 3) := bdX11_gain_82.2.2.2.2.2.2.2.1
theorem dX11_gain_99 : decode cX11_gain 99 = .ok (.lsub, 1) := bdX11_gain_82.2.2.2.2.2.2.2.2.1
theorem dX11_gain_100 : decode cX11_gain 100 = .ok (.goto 4, 3) := bdX11_gain_82.2.2.2.2.2.2.2.2.2
theorem bdX11_gain_103 : (decode cX11_gain 103 = .ok (.lconst 0, 1)) ∧ (decode cX11_gain 104 = .ok (.lreturn, 1)) := by decide +kernel
theorem dX11_gain_103 : decode cX11_gain 103 = .ok (.lconst 0, 1) := bdX11_gain_103.1
theorem dX11_gain_104 : decode cX11_gain 104 = .ok (.lreturn, 1) := bdX11_gain_103.2
theorem bdX11_image_0 : (decode cX11_image 0 = .ok (.aload_n 0, 1)) ∧ (decode cX11_image 1 = .ok (.getfield 46, 3)) ∧ (decode cX11_image 4 = .ok (.aload_n 0, 1)) ∧ (decode cX11_image 5 = .ok (.getfield 42, 3)) ∧ (decode cX11_image 8 = .ok (.invokevirtual 366, 3)) ∧ (decode cX11_image 11 = .ok (.aload_n 0, 1)) ∧ (decode cX11_image 12 = .ok (.iconst 1, 1)) ∧ (decode cX11_image 13 = .ok (.putfield 67, 3)) ∧ (decode cX11_image 16 = .ok (.return_, 1)) := by decide +kernel
theorem dX11_image_0 : decode cX11_image 0 = .ok (.aload_n 0, 1) := bdX11_image_0.1
theorem dX11_image_1 : decode cX11_image 1 = .ok (.getfield 46, 3) := bdX11_image_0.2.1
theorem dX11_image_4 : decode cX11_image 4 = .ok (.aload_n 0, 1) := bdX11_image_0.2.2.1
theorem dX11_image_5 : decode cX11_image 5 = .ok (.getfield 42, 3) := bdX11_image_0.2.2.2.1
theorem dX11_image_8 : decode cX11_image 8 = .ok (.invokevirtual 366, 3) := bdX11_image_0.2.2.2.2.1
theorem dX11_image_11 : decode cX11_image 11 = .ok (.aload_n 0, 1) := bdX11_image_0.2.2.2.2.2.1
theorem dX11_image_12 : decode cX11_image 12 = .ok (.iconst 1, 1) := bdX11_image_0.2.2.2.2.2.2.1
theorem dX11_image_13 : decode cX11_image 13 = .ok (.putfield 67, 3) := bdX11_image_0.2.2.2.2.2.2.2.1
theorem dX11_image_16 : decode cX11_image 16 = .ok (.return_, 1) := bdX11_image_0.2.2.2.2.2.2.2.2
theorem bdX11_restore_0 : (decode cX11_restore 0 = .ok (.aload_n 0, 1)) ∧ (decode cX11_restore 1 = .ok (.getfield 67, 3)) ∧ (decode cX11_restore 4 = .ok (.ifCond .ne 5, 3)) ∧ (decode cX11_restore 7 = .ok (.iconst 0, 1)) ∧ (decode cX11_restore 8 = .ok (.ireturn, 1)) ∧ (decode cX11_restore 9 = .ok (.aload_n 0, 1)) ∧ (decode cX11_restore 10 = .ok (.getfield 42, 3)) ∧ (decode cX11_restore 13 = .ok (.aload_n 0, 1)) ∧ (decode cX11_restore 14 = .ok (.getfield 46, 3)) ∧ (decode cX11_restore 17 = .ok (.invokevirtual 366, 3)) := by decide +kernel
theorem dX11_restore_0 : decode cX11_restore 0 = .ok (.aload_n 0, 1) := bdX11_restore_0.1
theorem dX11_restore_1 : decode cX11_restore 1 = .ok (.getfield 67, 3) := bdX11_restore_0.2.1
theorem dX11_restore_4 : decode cX11_restore 4 = .ok (.ifCond .ne 5, 3) := bdX11_restore_0.2.2.1
theorem dX11_restore_7 : decode cX11_restore 7 = .ok (.iconst 0, 1) := bdX11_restore_0.2.2.2.1
theorem dX11_restore_8 : decode cX11_restore 8 = .ok (.ireturn, 1) := bdX11_restore_0.2.2.2.2.1
theorem dX11_restore_9 : decode cX11_restore 9 = .ok (.aload_n 0, 1) := bdX11_restore_0.2.2.2.2.2.1
theorem dX11_restore_10 : decode cX11_restore 10 = .ok (.getfield 42, 3) := bdX11_restore_0.2.2.2.2.2.2.1
theorem dX11_restore_13 : decode cX11_restore 13 = .ok (.aload_n 0, 1) := bdX11_restore_0.2.2.2.2.2.2.2.1
theorem dX11_restore_14 : decode cX11_restore 14 = .ok (.getfield 46, 3) := bdX11_restore_0.2.2.2.2.2.2.2.2.1
theorem dX11_restore_17 : decode cX11_restore 17 = .ok (.invokevirtual 366, 3) := bdX11_restore_0.2.2.2.2.2.2.2.2.2
theorem bdX11_restore_20 : (decode cX11_restore 20 = .ok (.iconst 1, 1)) ∧ (decode cX11_restore 21 = .ok (.ireturn, 1)) := by decide +kernel
theorem dX11_restore_20 : decode cX11_restore 20 = .ok (.iconst 1, 1) := bdX11_restore_20.1
theorem dX11_restore_21 : decode cX11_restore 21 = .ok (.ireturn, 1) := bdX11_restore_20.2
theorem bdX11_needHouse_0 : (decode cX11_needHouse 0 = .ok (.aload_n 0, 1)) ∧ (decode cX11_needHouse 1 = .ok (.getfield 35, 3)) ∧ (decode cX11_needHouse 4 = .ok (.getfield 89, 3)) ∧ (decode cX11_needHouse 7 = .ok (.iload_n 1, 1)) ∧ (decode cX11_needHouse 8 = .ok (.invokevirtual 369, 3)) ∧ (decode cX11_needHouse 11 = .ok (.ifCond .ne 11, 3)) ∧ (decode cX11_needHouse 14 = .ok (.new 154, 3)) ∧ (decode cX11_needHouse 17 = .ok (.dup, 1)) ∧ (decode cX11_needHouse 18 = .ok (.invokespecial 156, 3)) ∧ (decode cX11_needHouse 21 = .ok (.athrow, 1)) := by decide +kernel
theorem dX11_needHouse_0 : decode cX11_needHouse 0 = .ok (.aload_n 0, 1) := bdX11_needHouse_0.1
theorem dX11_needHouse_1 : decode cX11_needHouse 1 = .ok (.getfield 35, 3) := bdX11_needHouse_0.2.1
theorem dX11_needHouse_4 : decode cX11_needHouse 4 = .ok (.getfield 89, 3) := bdX11_needHouse_0.2.2.1
theorem dX11_needHouse_7 : decode cX11_needHouse 7 = .ok (.iload_n 1, 1) := bdX11_needHouse_0.2.2.2.1
theorem dX11_needHouse_8 : decode cX11_needHouse 8 = .ok (.invokevirtual 369, 3) := bdX11_needHouse_0.2.2.2.2.1
theorem dX11_needHouse_11 : decode cX11_needHouse 11 = .ok (.ifCond .ne 11, 3) := bdX11_needHouse_0.2.2.2.2.2.1
theorem dX11_needHouse_14 : decode cX11_needHouse 14 = .ok (.new 154, 3) := bdX11_needHouse_0.2.2.2.2.2.2.1
theorem dX11_needHouse_17 : decode cX11_needHouse 17 = .ok (.dup, 1) := bdX11_needHouse_0.2.2.2.2.2.2.2.1
theorem dX11_needHouse_18 : decode cX11_needHouse 18 = .ok (.invokespecial 156, 3) := bdX11_needHouse_0.2.2.2.2.2.2.2.2.1
theorem dX11_needHouse_21 : decode cX11_needHouse 21 = .ok (.athrow, 1) := bdX11_needHouse_0.2.2.2.2.2.2.2.2.2
theorem bdX11_needHouse_22 : (decode cX11_needHouse 22 = .ok (.return_, 1)) := by decide +kernel
theorem dX11_needHouse_22 : decode cX11_needHouse 22 = .ok (.return_, 1) := bdX11_needHouse_22
theorem bdX11_needPlot_0 : (decode cX11_needPlot 0 = .ok (.aload_n 0, 1)) ∧ (decode cX11_needPlot 1 = .ok (.getfield 35, 3)) ∧ (decode cX11_needPlot 4 = .ok (.getfield 89, 3)) ∧ (decode cX11_needPlot 7 = .ok (.iload_n 1, 1)) ∧ (decode cX11_needPlot 8 = .ok (.invokevirtual 372, 3)) ∧ (decode cX11_needPlot 11 = .ok (.ifCond .ne 11, 3)) ∧ (decode cX11_needPlot 14 = .ok (.new 154, 3)) ∧ (decode cX11_needPlot 17 = .ok (.dup, 1)) ∧ (decode cX11_needPlot 18 = .ok (.invokespecial 156, 3)) ∧ (decode cX11_needPlot 21 = .ok (.athrow, 1)) := by decide +kernel
theorem dX11_needPlot_0 : decode cX11_needPlot 0 = .ok (.aload_n 0, 1) := bdX11_needPlot_0.1
theorem dX11_needPlot_1 : decode cX11_needPlot 1 = .ok (.getfield 35, 3) := bdX11_needPlot_0.2.1
theorem dX11_needPlot_4 : decode cX11_needPlot 4 = .ok (.getfield 89, 3) := bdX11_needPlot_0.2.2.1
theorem dX11_needPlot_7 : decode cX11_needPlot 7 = .ok (.iload_n 1, 1) := bdX11_needPlot_0.2.2.2.1
theorem dX11_needPlot_8 : decode cX11_needPlot 8 = .ok (.invokevirtual 372, 3) := bdX11_needPlot_0.2.2.2.2.1
theorem dX11_needPlot_11 : decode cX11_needPlot 11 = .ok (.ifCond .ne 11, 3) := bdX11_needPlot_0.2.2.2.2.2.1
theorem dX11_needPlot_14 : decode cX11_needPlot 14 = .ok (.new 154, 3) := bdX11_needPlot_0.2.2.2.2.2.2.1
theorem dX11_needPlot_17 : decode cX11_needPlot 17 = .ok (.dup, 1) := bdX11_needPlot_0.2.2.2.2.2.2.2.1
theorem dX11_needPlot_18 : decode cX11_needPlot 18 = .ok (.invokespecial 156, 3) := bdX11_needPlot_0.2.2.2.2.2.2.2.2.1
theorem dX11_needPlot_21 : decode cX11_needPlot 21 = .ok (.athrow, 1) := bdX11_needPlot_0.2.2.2.2.2.2.2.2.2
theorem bdX11_needPlot_22 : (decode cX11_needPlot 22 = .ok (.return_, 1)) := by decide +kernel
theorem dX11_needPlot_22 : decode cX11_needPlot 22 = .ok (.return_, 1) := bdX11_needPlot_22
theorem bdX11_needWhat_0 : (decode cX11_needWhat 0 = .ok (.iload_n 1, 1)) ∧ (decode cX11_needWhat 1 = .ok (.ifCond .lt 8, 3)) ∧ (decode cX11_needWhat 4 = .ok (.iload_n 1, 1)) ∧ (decode cX11_needWhat 5 = .ok (.iload_n 2, 1)) ∧ (decode cX11_needWhat 6 = .ok (.if_icmp .lt 11, 3)) ∧ (decode cX11_needWhat 9 = .ok (.new 154, 3)) ∧ (decode cX11_needWhat 12 = .ok (.dup, 1)) ∧ (decode cX11_needWhat 13 = .ok (.invokespecial 156, 3)) ∧ (decode cX11_needWhat 16 = .ok (.athrow, 1)) ∧ (decode cX11_needWhat 17 = .ok (.return_, 1)) := by decide +kernel
theorem dX11_needWhat_0 : decode cX11_needWhat 0 = .ok (.iload_n 1, 1) := bdX11_needWhat_0.1
theorem dX11_needWhat_1 : decode cX11_needWhat 1 = .ok (.ifCond .lt 8, 3) := bdX11_needWhat_0.2.1
theorem dX11_needWhat_4 : decode cX11_needWhat 4 = .ok (.iload_n 1, 1) := bdX11_needWhat_0.2.2.1
theorem dX11_needWhat_5 : decode cX11_needWhat 5 = .ok (.iload_n 2, 1) := bdX11_needWhat_0.2.2.2.1
theorem dX11_needWhat_6 : decode cX11_needWhat 6 = .ok (.if_icmp .lt 11, 3) := bdX11_needWhat_0.2.2.2.2.1
theorem dX11_needWhat_9 : decode cX11_needWhat 9 = .ok (.new 154, 3) := bdX11_needWhat_0.2.2.2.2.2.1
theorem dX11_needWhat_12 : decode cX11_needWhat 12 = .ok (.dup, 1) := bdX11_needWhat_0.2.2.2.2.2.2.1
theorem dX11_needWhat_13 : decode cX11_needWhat 13 = .ok (.invokespecial 156, 3) := bdX11_needWhat_0.2.2.2.2.2.2.2.1
theorem dX11_needWhat_16 : decode cX11_needWhat 16 = .ok (.athrow, 1) := bdX11_needWhat_0.2.2.2.2.2.2.2.2.1
theorem dX11_needWhat_17 : decode cX11_needWhat 17 = .ok (.return_, 1) := bdX11_needWhat_0.2.2.2.2.2.2.2.2.2
theorem bdX11_needWithin_0 : (decode cX11_needWithin 0 = .ok (.iload_n 1, 1)) ∧ (decode cX11_needWithin 1 = .ok (.iload_n 2, 1)) ∧ (decode cX11_needWithin 2 = .ok (.if_icmp .lt 8, 3)) ∧ (decode cX11_needWithin 5 = .ok (.iload_n 1, 1)) ∧ (decode cX11_needWithin 6 = .ok (.iload_n 3, 1)) ∧ (decode cX11_needWithin 7 = .ok (.if_icmp .le 11, 3)) ∧ (decode cX11_needWithin 10 = .ok (.new 79, 3)) ∧ (decode cX11_needWithin 13 = .ok (.dup, 1)) ∧ (decode cX11_needWithin 14 = .ok (.invokespecial 81, 3)) ∧ (decode cX11_needWithin 17 = .ok (.athrow, 1)) := by decide +kernel
theorem dX11_needWithin_0 : decode cX11_needWithin 0 = .ok (.iload_n 1, 1) := bdX11_needWithin_0.1
theorem dX11_needWithin_1 : decode cX11_needWithin 1 = .ok (.iload_n 2, 1) := bdX11_needWithin_0.2.1
theorem dX11_needWithin_2 : decode cX11_needWithin 2 = .ok (.if_icmp .lt 8, 3) := bdX11_needWithin_0.2.2.1
theorem dX11_needWithin_5 : decode cX11_needWithin 5 = .ok (.iload_n 1, 1) := bdX11_needWithin_0.2.2.2.1
theorem dX11_needWithin_6 : decode cX11_needWithin 6 = .ok (.iload_n 3, 1) := bdX11_needWithin_0.2.2.2.2.1
theorem dX11_needWithin_7 : decode cX11_needWithin 7 = .ok (.if_icmp .le 11, 3) := bdX11_needWithin_0.2.2.2.2.2.1
theorem dX11_needWithin_10 : decode cX11_needWithin 10 = .ok (.new 79, 3) := bdX11_needWithin_0.2.2.2.2.2.2.1
theorem dX11_needWithin_13 : decode cX11_needWithin 13 = .ok (.dup, 1) := bdX11_needWithin_0.2.2.2.2.2.2.2.1
theorem dX11_needWithin_14 : decode cX11_needWithin 14 = .ok (.invokespecial 81, 3) := bdX11_needWithin_0.2.2.2.2.2.2.2.2.1
theorem dX11_needWithin_17 : decode cX11_needWithin 17 = .ok (.athrow, 1) := bdX11_needWithin_0.2.2.2.2.2.2.2.2.2
theorem bdX11_needWithin_18 : (decode cX11_needWithin 18 = .ok (.return_, 1)) := by decide +kernel
theorem dX11_needWithin_18 : decode cX11_needWithin 18 = .ok (.return_, 1) := bdX11_needWithin_18

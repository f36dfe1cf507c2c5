theorem bdX12_init_0 : (decode cX12_init 0 = .ok (.aload_n 0, 1)) ∧ (decode cX12_init 1 = .ok (.invokespecial 3, 3)) ∧ (decode cX12_init 4 = .ok (.aload_n 0, 1)) ∧ (decode cX12_init 5 = .ok (.iconst 5, 1)) ∧ (decode cX12_init 6 = .ok (.anewarray 9, 3)) ∧ (decode cX12_init 9 = .ok (.dup, 1)) ∧ (decode cX12_init 10 = .ok (.iconst 0, 1)) ∧ (decode cX12_init 11 = .ok (.ldc 11, 2)) ∧ (decode cX12_init 13 = .ok (.aastore, 1)) ∧ (decode cX12_init 14 = .ok (.dup, 1)) := by decide +kernel
theorem dX12_init_0 : decode cX12_init 0 = .ok (.aload_n 0, 1) := bdX12_init_0.1
theorem dX12_init_1 : decode cX12_init 1 = .ok (.invokespecial 3, 3) := bdX12_init_0.2.1
theorem dX12_init_4 : decode cX12_init 4 = .ok (.aload_n 0, 1) := bdX12_init_0.2.2.1
theorem dX12_init_5 : decode cX12_init 5 = .ok (.iconst 5, 1) := bdX12_init_0.2.2.2.1
theorem dX12_init_6 : decode cX12_init 6 = .ok (.anewarray 9, 3) := bdX12_init_0.2.2.2.2.1
theorem dX12_init_9 : decode cX12_init 9 = .ok (.dup, 1) := bdX12_init_0.2.2.2.2.2.1
theorem dX12_init_10 : decode cX12_init 10 = .ok (.iconst 0, 1) := bdX12_init_0.2.2.2.2.2.2.1
theorem dX12_init_11 : decode cX12_init 11 = .ok (.ldc 11, 2) := bdX12_init_0.2.2.2.2.2.2.2.1
theorem dX12_init_13 : decode cX12_init 13 = .ok (.aastore, 1) := bdX12_init_0.2.2.2.2.2.2.2.2.1
theorem dX12_init_14 : decode cX12_init 14 = .ok (.dup, 1) := bdX12_init_0.2.2.2.2.2.2.2.2.2
theorem bdX12_init_15 : (decode cX12_init 15 = .ok (.iconst 1, 1)) ∧ (decode cX12_init 16 = .ok (.ldc 13, 2)) ∧ (decode cX12_init 18 = .ok (.aastore, 1)) ∧ (decode cX12_init 19 = .ok (.dup, 1)) ∧ (decode cX12_init 20 = .ok (.iconst 2, 1)) ∧ (decode cX12_init 21 = .ok (.ldc 15, 2)) ∧ (decode cX12_init 23 = .ok (.aastore, 1)) ∧ (decode cX12_init 24 = .ok (.dup, 1)) ∧ (decode cX12_init 25 = .ok (.iconst 3, 1)) ∧ (decode cX12_init 26 = .ok (.ldc 17, 2)) := by decide +kernel
theorem dX12_init_15 : decode cX12_init 15 = .ok (.iconst 1, 1) := bdX12_init_15.1
theorem dX12_init_16 : decode cX12_init 16 = .ok (.ldc 13, 2) := bdX12_init_15.2.1
theorem dX12_init_18 : decode cX12_init 18 = .ok (.aastore, 1) := bdX12_init_15.2.2.1
theorem dX12_init_19 : decode cX12_init 19 = .ok (.dup, 1) := bdX12_init_15.2.2.2.1
theorem dX12_init_20 : decode cX12_init 20 = .ok (.iconst 2, 1) := bdX12_init_15.2.2.2.2.1
theorem dX12_init_21 : decode cX12_init 21 = .ok (.ldc 15, 2) := bdX12_init_15.2.2.2.2.2.1
theorem dX12_init_23 : decode cX12_init 23 = .ok (.aastore, 1) := bdX12_init_15.2.2.2.2.2.2.1
theorem dX12_init_24 : decode cX12_init 24 = .ok (.dup, 1) := bdX12_init_15.2.2.2.2.2.2.2.1
theorem dX12_init_25 : decode cX12_init 25 = .ok (.iconst 3, 1) := bdX12_init_15.2.2.2.2.2.2.2.2.1
theorem dX12_init_26 : decode cX12_init 26 = .ok (.ldc 17, 2) := bdX12_init_15.2.2.2.2.2.2.2.2.2
theorem bdX12_init_28 : (decode cX12_init 28 = .ok (.aastore, 1)) ∧ (decode cX12_init 29 = .ok (.dup, 1)) ∧ (decode cX12_init 30 = .ok (.iconst 4, 1)) ∧ (decode cX12_init 31 = .ok (.ldc 19, 2)) ∧ (decode cX12_init 33 = .ok (.aastore, 1)) ∧ (decode cX12_init 34 = .ok (.putfield 21, 3)) ∧ (decode cX12_init 37 = .ok (.aload_n 0, 1)) ∧ (decode cX12_init 38 = .ok (.bipush 7, 2)) ∧ (decode cX12_init 40 = .ok (.anewarray 9, 3)) ∧ (decode cX12_init 43 = .ok (.dup, 1)) := by decide +kernel
theorem dX12_init_28 : decode cX12_init 28 = .ok (.aastore, 1) := bdX12_init_28.1
theorem dX12_init_29 : decode cX12_init 29 = .ok (.dup, 1) := bdX12_init_28.2.1
theorem dX12_init_30 : decode cX12_init 30 = .ok (.iconst 4, 1) := bdX12_init_28.2.2.1
theorem dX12_init_31 : decode cX12_init 31 = .ok (.ldc 19, 2) := bdX12_init_28.2.2.2.1
theorem dX12_init_33 : decode cX12_init 33 = .ok (.aastore, 1) := bdX12_init_28.2.2.2.2.1
theorem dX12_init_34 : decode cX12_init 34 = .ok (.putfield 21, 3) := bdX12_init_28.2.2.2.2.2.1
theorem dX12_init_37 : decode cX12_init 37 = .ok (.aload_n 0, 1) := bdX12_init_28.2.2.2.2.2.2.1
theorem dX12_init_38 : decode cX12_init 38 = .ok (.bipush 7, 2) := bdX12_init_28.2.2.2.2.2.2.2.1
theorem dX12_init_40 : decode cX12_init 40 = .ok (.anewarray 9, 3) := bdX12_init_28.2.2.2.2.2.2.2.2.1
theorem dX12_init_43 : decode cX12_init 43 = .ok (.dup, 1) := bdX12_init_28.2.2.2.2.2.2.2.2.2
theorem bdX12_init_44 : (decode cX12_init 44 = .ok (.iconst 0, 1)) ∧ (decode cX12_init 45 = .ok (.ldc 11, 2)) ∧ (decode cX12_init 47 = .ok (.aastore, 1)) ∧ (decode cX12_init 48 = .ok (.dup, 1)) ∧ (decode cX12_init 49 = .ok (.iconst 1, 1)) ∧ (decode cX12_init 50 = .ok (.ldc 13, 2)) ∧ (decode cX12_init 52 = .ok (.aastore, 1)) ∧ (decode cX12_init 53 = .ok (.dup, 1)) ∧ (decode cX12_init 54 = .ok (.iconst 2, 1)) ∧ (decode cX12_init 55 = .ok (.ldc 15, 2)) := by decide +kernel
theorem dX12_init_44 : decode cX12_init 44 = .ok (.iconst 0, 1) := bdX12_init_44.1
theorem dX12_init_45 : decode cX12_init 45 = .ok (.ldc 11, 2) := bdX12_init_44.2.1
theorem dX12_init_47 : decode cX12_init 47 = .ok (.aastore, 1) := bdX12_init_44.2.2.1
theorem dX12_init_48 : decode cX12_init 48 = .ok (.dup, 1) := bdX12_init_44.2.2.2.1
theorem dX12_init_49 : decode cX12_init 49 = .ok (.iconst 1, 1) := bdX12_init_44.2.2.2.2.1
theorem dX12_init_50 : decode cX12_init 50 = .ok (.ldc 13, 2) := bdX12_init_44.2.2.2.2.2.1
theorem dX12_init_52 : decode cX12_init 52 = .ok (.aastore, 1) := bdX12_init_44.2.2.2.2.2.2.1
theorem dX12_init_53 : decode cX12_init 53 = .ok (.dup, 1) := bdX12_init_44.2.2.2.2.2.2.2.1
theorem dX12_init_54 : decode cX12_init 54 = .ok (.iconst 2, 1) := bdX12_init_44.2.2.2.2.2.2.2.2.1
theorem dX12_init_55 : decode cX12_init 55 = .ok (.ldc 15, 2) := bdX12_init_44.2.2.2.2.2.2.2.2.2
theorem bdX12_init_57 : (decode cX12_init 57 = .ok (.aastore, 1)) ∧ (decode cX12_init 58 = .ok (.dup, 1)) ∧ (decode cX12_init 59 = .ok (.iconst 3, 1)) ∧ (decode cX12_init 60 = .ok (.ldc 17, 2)) ∧ (decode cX12_init 62 = .ok (.aastore, 1)) ∧ (decode cX12_init 63 = .ok (.dup, 1)) ∧ (decode cX12_init 64 = .ok (.iconst 4, 1)) ∧ (decode cX12_init 65 = .ok (.ldc 19, 2)) ∧ (decode cX12_init 67 = .ok (.aastore, 1)) ∧ (decode cX12_init 68 = .ok (.dup, 1)) := by decide +kernel
theorem dX12_init_57 : decode cX12_init 57 = .ok (.aastore, 1) := bdX12_init_57.1
theorem dX12_init_58 : decode cX12_init 58 = .ok (.dup, 1) := bdX12_init_57.2.1
theorem dX12_init_59 : decode cX12_init 59 = .ok (.iconst 3, 1) := bdX12_init_57.2.2.1
theorem dX12_init_60 : decode cX12_init 60 = .ok (.ldc 17, 2) := bdX12_init_57.2.2.2.1
theorem dX12_init_62 : decode cX12_init 62 = .ok (.aastore, 1) := bdX12_init_57.2.2.2.2.1
theorem dX12_init_63 : decode cX12_init 63 = .ok (.dup, 1) := bdX12_init_57.2.2.2.2.2.1
theorem dX12_init_64 : decode cX12_init 64 = .ok (.iconst 4, 1) := bdX12_init_57.2.2.2.2.2.2.1
theorem dX12_init_65 : decode cX12_init 65 = .ok (.ldc 19, 2) := bdX12_init_57.2.2.2.2.2.2.2.1
theorem dX12_init_67 : decode cX12_init 67 = .ok (.aastore, 1) := bdX12_init_57.2.2.2.2.2.2.2.2.1
theorem dX12_init_68 : decode cX12_init 68 = .ok (.dup, 1) := bdX12_init_57.2.2.2.2.2.2.2.2.2
theorem bdX12_init_69 : (decode cX12_init 69 = .ok (.iconst 5, 1)) ∧ (decode cX12_init 70 = .ok (.ldc 25, 2)) ∧ (decode cX12_init 72 = .ok (.aastore, 1)) ∧ (decode cX12_init 73 = .ok (.dup, 1)) ∧ (decode cX12_init 74 = .ok (.bipush 6, 2)) ∧ (decode cX12_init 76 = .ok (.ldc 27, 2)) ∧ (decode cX12_init 78 = .ok (.aastore, 1)) ∧ (decode cX12_init 79 = .ok (.putfield 29, 3)) ∧ (decode cX12_init 82 = .ok (.aload_n 0, 1)) ∧ (decode cX12_init 83 = .ok (.aload_n 0, 1)) := by decide +kernel
theorem dX12_init_69 : decode cX12_init 69 = .ok (.iconst 5, 1) := bdX12_init_69.1
theorem dX12_init_70 : decode cX12_init 70 = .ok (.ldc 25, 2) := bdX12_init_69.2.1
theorem dX12_init_72 : decode cX12_init 72 = .ok (.aastore, 1) := bdX12_init_69.2.2.1
theorem dX12_init_73 : decode cX12_init 73 = .ok (.dup, 1) := bdX12_init_69.2.2.2.1
theorem dX12_init_74 : decode cX12_init 74 = .ok (.bipush 6, 2) := bdX12_init_69.2.2.2.2.1
theorem dX12_init_76 : decode cX12_init 76 = .ok (.ldc 27, 2) := bdX12_init_69.2.2.2.2.2.1
theorem dX12_init_78 : decode cX12_init 78 = .ok (.aastore, 1) := bdX12_init_69.2.2.2.2.2.2.1
theorem dX12_init_79 : decode cX12_init 79 = .ok (.putfield 29, 3) := bdX12_init_69.2.2.2.2.2.2.2.1
theorem dX12_init_82 : decode cX12_init 82 = .ok (.aload_n 0, 1) := bdX12_init_69.2.2.2.2.2.2.2.2.1
theorem dX12_init_83 : decode cX12_init 83 = .ok (.aload_n 0, 1) := bdX12_init_69.2.2.2.2.2.2.2.2.2
theorem bdX12_init_84 : (decode cX12_init 84 = .ok (.getfield 21, 3)) ∧ (decode cX12_init 87 = .ok (.putfield 32, 3)) ∧ (decode cX12_init 90 = .ok (.aload_n 0, 1)) ∧ (decode cX12_init 91 = .ok (.bipush 16, 2)) ∧ (decode cX12_init 93 = .ok (.newarray .int, 2)) ∧ (decode cX12_init 95 = .ok (.putfield 35, 3)) ∧ (decode cX12_init 98 = .ok (.aload_n 0, 1)) ∧ (decode cX12_init 99 = .ok (.bipush 16, 2)) ∧ (decode cX12_init 101 = .ok (.newarray .int, 2)) ∧ (decode cX12_init 103 = .ok (.putfield 39, 3)) := by decide +kernel
theorem dX12_init_84 : decode cX12_init 84 = .ok (.getfield 21, 3) := bdX12_init_84.1
theorem dX12_init_87 : decode cX12_init 87 = .ok (.putfield 32, 3) := bdX12_init_84.2.1
theorem dX12_init_90 : decode cX12_init 90 = .ok (.aload_n 0, 1) := bdX12_init_84.2.2.1
theorem dX12_init_91 : decode cX12_init 91 = .ok (.bipush 16, 2) := bdX12_init_84.2.2.2.1
theorem dX12_init_93 : decode cX12_init 93 = .ok (.newarray .int, 2) := bdX12_init_84.2.2.2.2.1
theorem dX12_init_95 : decode cX12_init 95 = .ok (.putfield 35, 3) := bdX12_init_84.2.2.2.2.2.1
theorem dX12_init_98 : decode cX12_init 98 = .ok (.aload_n 0, 1) := bdX12_init_84.2.2.2.2.2.2.1
theorem dX12_init_99 : decode cX12_init 99 = .ok (.bipush 16, 2) := bdX12_init_84.2.2.2.2.2.2.2.1
theorem dX12_init_101 : decode cX12_init 101 = .ok (.newarray .int, 2) := bdX12_init_84.2.2.2.2.2.2.2.2.1
theorem dX12_init_103 : decode cX12_init 103 = .ok (.putfield 39, 3) := bdX12_init_84.2.2.2.2.2.2.2.2.2
theorem bdX12_init_106 : (decode cX12_init 106 = .ok (.aload_n 0, 1)) ∧ (decode cX12_init 107 = .ok (.bipush 16, 2)) ∧ (decode cX12_init 109 = .ok (.newarray .int, 2)) ∧ (decode cX12_init 111 = .ok (.putfield 42, 3)) ∧ (decode cX12_init 114 = .ok (.aload_n 0, 1)) ∧ (decode cX12_init 115 = .ok (.bipush 16, 2)) ∧ (decode cX12_init 117 = .ok (.newarray .int, 2)) ∧ (decode cX12_init 119 = .ok (.putfield 44, 3)) ∧ (decode cX12_init 122 = .ok (.aload_n 0, 1)) ∧ (decode cX12_init 123 = .ok (.bipush 18, 2)) := by decide +kernel
theorem dX12_init_106 : decode cX12_init 106 = .ok (.aload_n 0, 1) := bdX12_init_106.1
theorem dX12_init_107 : decode cX12_init 107 = .ok (.bipush 16, 2) := bdX12_init_106.2.1
theorem dX12_init_109 : decode cX12_init 109 = .ok (.newarray .int, 2) := bdX12_init_106.2.2.1
theorem dX12_init_111 : decode cX12_init 111 = .ok (.putfield 42, 3) := bdX12_init_106.2.2.2.1
theorem dX12_init_114 : decode cX12_init 114 = .ok (.aload_n 0, 1) := bdX12_init_106.2.2.2.2.1
theorem dX12_init_115 : decode cX12_init 115 = .ok (.bipush 16, 2) := bdX12_init_106.2.2.2.2.2.1
theorem dX12_init_117 : decode cX12_init 117 = .ok (.newarray .int, 2) := bdX12_init_106.2.2.2.2.2.2.1
theorem dX12_init_119 : decode cX12_init 119 = .ok (.putfield 44, 3) := bdX12_init_106.2.2.2.2.2.2.2.1
theorem dX12_init_122 : decode cX12_init 122 = .ok (.aload_n 0, 1) := bdX12_init_106.2.2.2.2.2.2.2.2.1
theorem dX12_init_123 : decode cX12_init 123 = .ok (.bipush 18, 2) := bdX12_init_106.2.2.2.2.2.2.2.2.2
theorem bdX12_init_125 : (decode cX12_init 125 = .ok (.newarray .int, 2)) ∧ (decode cX12_init 127 = .ok (.putfield 46, 3)) ∧ (decode cX12_init 130 = .ok (.aload_n 0, 1)) ∧ (decode cX12_init 131 = .ok (.bipush 18, 2)) ∧ (decode cX12_init 133 = .ok (.newarray .int, 2)) ∧ (decode cX12_init 135 = .ok (.putfield 49, 3)) ∧ (decode cX12_init 138 = .ok (.aload_n 0, 1)) ∧ (decode cX12_init 139 = .ok (.bipush 18, 2)) ∧ (decode cX12_init 141 = .ok (.newarray .int, 2)) ∧ (decode cX12_init 143 = .ok (.putfield 52, 3)) := by decide +kernel
theorem dX12_init_125 : decode cX12_init 125 = .ok (.newarray .int, 2) := bdX12_init_125.1
theorem dX12_init_127 : decode cX12_init 127 = .ok (.putfield 46, 3) := bdX12_init_125.2.1
theorem dX12_init_130 : decode cX12_init 130 = .ok (.aload_n 0, 1) := bdX12_init_125.2.2.1
theorem dX12_init_131 : decode cX12_init 131 = .ok (.bipush 18, 2) := bdX12_init_125.2.2.2.1
theorem dX12_init_133 : decode cX12_init 133 = .ok (.newarray .int, 2) := bdX12_init_125.2.2.2.2.1
theorem dX12_init_135 : decode cX12_init 135 = .ok (.putfield 49, 3) := bdX12_init_125.2.2.2.2.2.1
theorem dX12_init_138 : decode cX12_init 138 = .ok (.aload_n 0, 1) := bdX12_init_125.2.2.2.2.2.2.1
theorem dX12_init_139 : decode cX12_init 139 = .ok (.bipush 18, 2) := bdX12_init_125.2.2.2.2.2.2.2.1
theorem dX12_init_141 : decode cX12_init 141 = .ok (.newarray .int, 2) := bdX12_init_125.2.2.2.2.2.2.2.2.1
theorem dX12_init_143 : decode cX12_init 143 = .ok (.putfield 52, 3) := bdX12_init_125.2.2.2.2.2.2.2.2.2
theorem bdX12_init_146 : (decode cX12_init 146 = .ok (.aload_n 0, 1)) ∧ (decode cX12_init 147 = .ok (.bipush 20, 2)) ∧ (decode cX12_init 149 = .ok (.newarray .int, 2)) ∧ (decode cX12_init 151 = .ok (.putfield 55, 3)) ∧ (decode cX12_init 154 = .ok (.aload_n 0, 1)) ∧ (decode cX12_init 155 = .ok (.sipush 1400, 3)) ∧ (decode cX12_init 158 = .ok (.newarray .int, 2)) ∧ (decode cX12_init 160 = .ok (.putfield 57, 3)) ∧ (decode cX12_init 163 = .ok (.aload_n 0, 1)) ∧ (decode cX12_init 164 = .ok (.sipush 1400, 3)) := by decide +kernel
theorem dX12_init_146 : decode cX12_init 146 = .ok (.aload_n 0, 1) := bdX12_init_146.1
theorem dX12_init_147 : decode cX12_init 147 = .ok (.bipush 20, 2) := bdX12_init_146.2.1
theorem dX12_init_149 : decode cX12_init 149 = .ok (.newarray .int, 2) := bdX12_init_146.2.2.1
theorem dX12_init_151 : decode cX12_init 151 = .ok (.putfield 55, 3) := bdX12_init_146.2.2.2.1
theorem dX12_init_154 : decode cX12_init 154 = .ok (.aload_n 0, 1) := bdX12_init_146.2.2.2.2.1
theorem dX12_init_155 : decode cX12_init 155 = .ok (.sipush 1400, 3) := bdX12_init_146.2.2.2.2.2.1
theorem dX12_init_158 : decode cX12_init 158 = .ok (.newarray .int, 2) := bdX12_init_146.2.2.2.2.2.2.1
theorem dX12_init_160 : decode cX12_init 160 = .ok (.putfield 57, 3) := bdX12_init_146.2.2.2.2.2.2.2.1
theorem dX12_init_163 : decode cX12_init 163 = .ok (.aload_n 0, 1) := bdX12_init_146.2.2.2.2.2.2.2.2.1
theorem dX12_init_164 : decode cX12_init 164 = .ok (.sipush 1400, 3) := bdX12_init_146.2.2.2.2.2.2.2.2.2
theorem bdX12_init_167 : (decode cX12_init 167 = .ok (.newarray .int, 2)) ∧ (decode cX12_init 169 = .ok (.putfield 60, 3)) ∧ (decode cX12_init 172 = .ok (.aload_n 0, 1)) ∧ (decode cX12_init 173 = .ok (.iconst 3, 1)) ∧ (decode cX12_init 174 = .ok (.newarray .int, 2)) ∧ (decode cX12_init 176 = .ok (.putfield 63, 3)) ∧ (decode cX12_init 179 = .ok (.aload_n 0, 1)) ∧ (decode cX12_init 180 = .ok (.sipush 700, 3)) ∧ (decode cX12_init 183 = .ok (.newarray .int, 2)) ∧ (decode cX12_init 185 = .ok (.putfield 66, 3)) := by decide +kernel
theorem dX12_init_167 : decode cX12_init 167 = .ok (.newarray .int, 2) := bdX12_init_167.1
theorem dX12_init_169 : decode cX12_init 169 = .ok (.putfield 60, 3) := bdX12_init_167.2.1
theorem dX12_init_172 : decode cX12_init 172 = .ok (.aload_n 0, 1) := bdX12_init_167.2.2.1
theorem dX12_init_173 : decode cX12_init 173 = .ok (.iconst 3, 1) := bdX12_init_167.2.2.2.1
theorem dX12_init_174 : decode cX12_init 174 = .ok (.newarray .int, 2) := bdX12_init_167.2.2.2.2.1
theorem dX12_init_176 : decode cX12_init 176 = .ok (.putfield 63, 3) := bdX12_init_167.2.2.2.2.2.1
theorem dX12_init_179 : decode cX12_init 179 = .ok (.aload_n 0, 1) := bdX12_init_167.2.2.2.2.2.2.1
theorem dX12_init_180 : decode cX12_init 180 = .ok (.sipush 700, 3) := bdX12_init_167.2.2.2.2.2.2.2.1
theorem dX12_init_183 : decode cX12_init 183 = .ok (.newarray .int, 2) := bdX12_init_167.2.2.2.2.2.2.2.2.1
theorem dX12_init_185 : decode cX12_init 185 = .ok (.putfield 66, 3) := bdX12_init_167.2.2.2.2.2.2.2.2.2
theorem bdX12_init_188 : (decode cX12_init 188 = .ok (.aload_n 0, 1)) ∧ (decode cX12_init 189 = .ok (.iconst (-1), 1)) ∧ (decode cX12_init 190 = .ok (.putfield 69, 3)) ∧ (decode cX12_init 193 = .ok (.aload_n 0, 1)) ∧ (decode cX12_init 194 = .ok (.bipush 8, 2)) ∧ (decode cX12_init 196 = .ok (.newarray .int, 2)) ∧ (decode cX12_init 198 = .ok (.putfield 73, 3)) ∧ (decode cX12_init 201 = .ok (.aload_n 0, 1)) ∧ (decode cX12_init 202 = .ok (.bipush 8, 2)) ∧ (decode cX12_init 204 = .ok (.newarray .int, 2)) := by decide +kernel
theorem dX12_init_188 : decode cX12_init 188 = .ok (.aload_n 0, 1) := bdX12_init_188.1
theorem dX12_init_189 : decode cX12_init 189 = .ok (.iconst (-1), 1) := bdX12_init_188.2.1
theorem dX12_init_190 : decode cX12_init 190 = .ok (.putfield 69, 3) := bdX12_init_188.2.2.1
theorem dX12_init_193 : decode cX12_init 193 = .ok (.aload_n 0, 1) := bdX12_init_188.2.2.2.1
theorem dX12_init_194 : decode cX12_init 194 = .ok (.bipush 8, 2) := bdX12_init_188.2.2.2.2.1
theorem dX12_init_196 : decode cX12_init 196 = .ok (.newarray .int, 2) := bdX12_init_188.2.2.2.2.2.1
theorem dX12_init_198 : decode cX12_init 198 = .ok (.putfield 73, 3) := bdX12_init_188.2.2.2.2.2.2.1
theorem dX12_init_201 : decode cX12_init 201 = .ok (.aload_n 0, 1) := bdX12_init_188.2.2.2.2.2.2.2.1
theorem dX12_init_202 : decode cX12_init 202 = .ok (.bipush 8, 2) := bdX12_init_188.2.2.2.2.2.2.2.2.1
theorem dX12_init_204 : decode cX12_init 204 = .ok (.newarray .int, 2) := bdX12_init_188.2.2.2.2.2.2.2.2.2
theorem bdX12_init_206 : (decode cX12_init 206 = .ok (.putfield 76, 3)) ∧ (decode cX12_init 209 = .ok (.aload_n 0, 1)) ∧ (decode cX12_init 210 = .ok (.bipush 8, 2)) ∧ (decode cX12_init 212 = .ok (.newarray .int, 2)) ∧ (decode cX12_init 214 = .ok (.putfield 79, 3)) ∧ (decode cX12_init 217 = .ok (.aload_n 0, 1)) ∧ (decode cX12_init 218 = .ok (.sipush 1240, 3)) ∧ (decode cX12_init 221 = .ok (.newarray .int, 2)) ∧ (decode cX12_init 223 = .ok (.putfield 82, 3)) ∧ (decode cX12_init 226 = .ok (.aload_n 0, 1)) := by decide +kernel
theorem dX12_init_206 : decode cX12_init 206 = .ok (.putfield 76, 3) := bdX12_init_206.1
theorem dX12_init_209 : decode cX12_init 209 = .ok (.aload_n 0, 1) := bdX12_init_206.2.1
theorem dX12_init_210 : decode cX12_init 210 = .ok (.bipush 8, 2) := bdX12_init_206.2.2.1
theorem dX12_init_212 : decode cX12_init 212 = .ok (.newarray .int, 2) := bdX12_init_206.2.2.2.1
theorem dX12_init_214 : decode cX12_init 214 = .ok (.putfield 79, 3) := bdX12_init_206.2.2.2.2.1
theorem dX12_init_217 : decode cX12_init 217 = .ok (.aload_n 0, 1) := bdX12_init_206.2.2.2.2.2.1
theorem dX12_init_218 : decode cX12_init 218 = .ok (.sipush 1240, 3) := bdX12_init_206.2.2.2.2.2.2.1
theorem dX12_init_221 : decode cX12_init 221 = .ok (.newarray .int, 2) := bdX12_init_206.2.2.2.2.2.2.2.1
theorem dX12_init_223 : decode cX12_init 223 = .ok (.putfield 82, 3) := bdX12_init_206.2.2.2.2.2.2.2.2.1
theorem dX12_init_226 : decode cX12_init 226 = .ok (.aload_n 0, 1) := bdX12_init_206.2.2.2.2.2.2.2.2.2
theorem bdX12_init_227 : (decode cX12_init 227 = .ok (.bipush 7, 2)) ∧ (decode cX12_init 229 = .ok (.newarray .int, 2)) ∧ (decode cX12_init 231 = .ok (.putfield 85, 3)) ∧ (decode cX12_init 234 = .ok (.aload_n 0, 1)) ∧ (decode cX12_init 235 = .ok (.bipush 64, 2)) ∧ (decode cX12_init 237 = .ok (.newarray .int, 2)) ∧ (decode cX12_init 239 = .ok (.putfield 88, 3)) ∧ (decode cX12_init 242 = .ok (.aload_n 0, 1)) ∧ (decode cX12_init 243 = .ok (.iconst (-1), 1)) ∧ (decode cX12_init 244 = .ok (.putfield 91, 3)) := by decide +kernel
theorem dX12_init_227 : decode cX12_init 227 = .ok (.bipush 7, 2) := bdX12_init_227.1
theorem dX12_init_229 : decode cX12_init 229 = .ok (.newarray .int, 2) := bdX12_init_227.2.1
theorem dX12_init_231 : decode cX12_init 231 = .ok (.putfield 85, 3) := bdX12_init_227.2.2.1
theorem dX12_init_234 : decode cX12_init 234 = .ok (.aload_n 0, 1) := bdX12_init_227.2.2.2.1
theorem dX12_init_235 : decode cX12_init 235 = .ok (.bipush 64, 2) := bdX12_init_227.2.2.2.2.1
theorem dX12_init_237 : decode cX12_init 237 = .ok (.newarray .int, 2) := bdX12_init_227.2.2.2.2.2.1
theorem dX12_init_239 : decode cX12_init 239 = .ok (.putfield 88, 3) := bdX12_init_227.2.2.2.2.2.2.1
theorem dX12_init_242 : decode cX12_init 242 = .ok (.aload_n 0, 1) := bdX12_init_227.2.2.2.2.2.2.2.1
theorem dX12_init_243 : decode cX12_init 243 = .ok (.iconst (-1), 1) := bdX12_init_227.2.2.2.2.2.2.2.2.1
theorem dX12_init_244 : decode cX12_init 244 = .ok (.putfield 91, 3) := bdX12_init_227.2.2.2.2.2.2.2.2.2
theorem bdX12_init_247 : (decode cX12_init 247 = .ok (.aload_n 0, 1)) ∧ (decode cX12_init 248 = .ok (.sipush 4608, 3)) ∧ (decode cX12_init 251 = .ok (.newarray .long, 2)) ∧ (decode cX12_init 253 = .ok (.putfield 94, 3)) ∧ (decode cX12_init 256 = .ok (.aload_n 0, 1)) ∧ (decode cX12_init 257 = .ok (.bipush 72, 2)) ∧ (decode cX12_init 259 = .ok (.newarray .int, 2)) ∧ (decode cX12_init 261 = .ok (.putfield 98, 3)) ∧ (decode cX12_init 264 = .ok (.aload_n 0, 1)) ∧ (decode cX12_init 265 = .ok (.iconst 3, 1)) := by decide +kernel
theorem dX12_init_247 : decode cX12_init 247 = .ok (.aload_n 0, 1) := bdX12_init_247.1
theorem dX12_init_248 : decode cX12_init 248 = .ok (.sipush 4608, 3) := bdX12_init_247.2.1
theorem dX12_init_251 : decode cX12_init 251 = .ok (.newarray .long, 2) := bdX12_init_247.2.2.1
theorem dX12_init_253 : decode cX12_init 253 = .ok (.putfield 94, 3) := bdX12_init_247.2.2.2.1
theorem dX12_init_256 : decode cX12_init 256 = .ok (.aload_n 0, 1) := bdX12_init_247.2.2.2.2.1
theorem dX12_init_257 : decode cX12_init 257 = .ok (.bipush 72, 2) := bdX12_init_247.2.2.2.2.2.1
theorem dX12_init_259 : decode cX12_init 259 = .ok (.newarray .int, 2) := bdX12_init_247.2.2.2.2.2.2.1
theorem dX12_init_261 : decode cX12_init 261 = .ok (.putfield 98, 3) := bdX12_init_247.2.2.2.2.2.2.2.1
theorem dX12_init_264 : decode cX12_init 264 = .ok (.aload_n 0, 1) := bdX12_init_247.2.2.2.2.2.2.2.2.1
theorem dX12_init_265 : decode cX12_init 265 = .ok (.iconst 3, 1) := bdX12_init_247.2.2.2.2.2.2.2.2.2
theorem bdX12_init_266 : (decode cX12_init 266 = .ok (.newarray .int, 2)) ∧ (decode cX12_init 268 = .ok (.putfield 101, 3)) ∧ (decode cX12_init 271 = .ok (.aload_n 0, 1)) ∧ (decode cX12_init 272 = .ok (.bipush 31, 2)) ∧ (decode cX12_init 274 = .ok (.newarray .int, 2)) ∧ (decode cX12_init 276 = .ok (.putfield 104, 3)) ∧ (decode cX12_init 279 = .ok (.aload_n 0, 1)) ∧ (decode cX12_init 280 = .ok (.bipush 8, 2)) ∧ (decode cX12_init 282 = .ok (.newarray .int, 2)) ∧ (decode cX12_init 284 = .ok (.putfield 107, 3)) := by decide +kernel
theorem dX12_init_266 : decode cX12_init 266 = .ok (.newarray .int, 2) := bdX12_init_266.1
theorem dX12_init_268 : decode cX12_init 268 = .ok (.putfield 101, 3) := bdX12_init_266.2.1
theorem dX12_init_271 : decode cX12_init 271 = .ok (.aload_n 0, 1) := bdX12_init_266.2.2.1
theorem dX12_init_272 : decode cX12_init 272 = .ok (.bipush 31, 2) := bdX12_init_266.2.2.2.1
theorem dX12_init_274 : decode cX12_init 274 = .ok (.newarray .int, 2) := bdX12_init_266.2.2.2.2.1
theorem dX12_init_276 : decode cX12_init 276 = .ok (.putfield 104, 3) := bdX12_init_266.2.2.2.2.2.1
theorem dX12_init_279 : decode cX12_init 279 = .ok (.aload_n 0, 1) := bdX12_init_266.2.2.2.2.2.2.1
theorem dX12_init_280 : decode cX12_init 280 = .ok (.bipush 8, 2) := bdX12_init_266.2.2.2.2.2.2.2.1
theorem dX12_init_282 : decode cX12_init 282 = .ok (.newarray .int, 2) := bdX12_init_266.2.2.2.2.2.2.2.2.1
theorem dX12_init_284 : decode cX12_init 284 = .ok (.putfield 107, 3) := bdX12_init_266.2.2.2.2.2.2.2.2.2
theorem bdX12_init_287 : (decode cX12_init 287 = .ok (.aload_n 0, 1)) ∧ (decode cX12_init 288 = .ok (.bipush 8, 2)) ∧ (decode cX12_init 290 = .ok (.newarray .int, 2)) ∧ (decode cX12_init 292 = .ok (.putfield 110, 3)) ∧ (decode cX12_init 295 = .ok (.aload_n 0, 1)) ∧ (decode cX12_init 296 = .ok (.bipush 8, 2)) ∧ (decode cX12_init 298 = .ok (.newarray .int, 2)) ∧ (decode cX12_init 300 = .ok (.putfield 113, 3)) ∧ (decode cX12_init 303 = .ok (.aload_n 0, 1)) ∧ (decode cX12_init 304 = .ok (.bipush 31, 2)) := by decide +kernel
theorem dX12_init_287 : decode cX12_init 287 = .ok (.aload_n 0, 1) := bdX12_init_287.1
theorem dX12_init_288 : decode cX12_init 288 = .ok (.bipush 8, 2) := bdX12_init_287.2.1
theorem dX12_init_290 : decode cX12_init 290 = .ok (.newarray .int, 2) := bdX12_init_287.2.2.1
theorem dX12_init_292 : decode cX12_init 292 = .ok (.putfield 110, 3) := bdX12_init_287.2.2.2.1
theorem dX12_init_295 : decode cX12_init 295 = .ok (.aload_n 0, 1) := bdX12_init_287.2.2.2.2.1
theorem dX12_init_296 : decode cX12_init 296 = .ok (.bipush 8, 2) := bdX12_init_287.2.2.2.2.2.1
theorem dX12_init_298 : decode cX12_init 298 = .ok (.newarray .int, 2) := bdX12_init_287.2.2.2.2.2.2.1
theorem dX12_init_300 : decode cX12_init 300 = .ok (.putfield 113, 3) := bdX12_init_287.2.2.2.2.2.2.2.1
theorem dX12_init_303 : decode cX12_init 303 = .ok (.aload_n 0, 1) := bdX12_init_287.2.2.2.2.2.2.2.2.1
theorem dX12_init_304 : decode cX12_init 304 = .ok (.bipush 31, 2) := bdX12_init_287.2.2.2.2.2.2.2.2.2
theorem bdX12_init_306 : (decode cX12_init 306 = .ok (.newarray .int, 2)) ∧ (decode cX12_init 308 = .ok (.putfield 116, 3)) ∧ (decode cX12_init 311 = .ok (.aload_n 0, 1)) ∧ (decode cX12_init 312 = .ok (.sipush 1240, 3)) ∧ (decode cX12_init 315 = .ok (.newarray .int, 2)) ∧ (decode cX12_init 317 = .ok (.putfield 119, 3)) ∧ (decode cX12_init 320 = .ok (.aload_n 0, 1)) ∧ (decode cX12_init 321 = .ok (.bipush 8, 2)) ∧ (decode cX12_init 323 = .ok (.newarray .int, 2)) ∧ (decode cX12_init 325 = .ok (.putfield 122, 3)) := by decide +kernel
theorem dX12_init_306 : decode cX12_init 306 = .ok (.newarray .int, 2) := bdX12_init_306.1
theorem dX12_init_308 : decode cX12_init 308 = .ok (.putfield 116, 3) := bdX12_init_306.2.1
theorem dX12_init_311 : decode cX12_init 311 = .ok (.aload_n 0, 1) := bdX12_init_306.2.2.1
theorem dX12_init_312 : decode cX12_init 312 = .ok (.sipush 1240, 3) := bdX12_init_306.2.2.2.1
theorem dX12_init_315 : decode cX12_init 315 = .ok (.newarray .int, 2) := bdX12_init_306.2.2.2.2.1
theorem dX12_init_317 : decode cX12_init 317 = .ok (.putfield 119, 3) := bdX12_init_306.2.2.2.2.2.1
theorem dX12_init_320 : decode cX12_init 320 = .ok (.aload_n 0, 1) := bdX12_init_306.2.2.2.2.2.2.1
theorem dX12_init_321 : decode cX12_init 321 = .ok (.bipush 8, 2) := bdX12_init_306.2.2.2.2.2.2.2.1
theorem dX12_init_323 : decode cX12_init 323 = .ok (.newarray .int, 2) := bdX12_init_306.2.2.2.2.2.2.2.2.1
theorem dX12_init_325 : decode cX12_init 325 = .ok (.putfield 122, 3) := bdX12_init_306.2.2.2.2.2.2.2.2.2
theorem bdX12_init_328 : (decode cX12_init 328 = .ok (.aload_n 0, 1)) ∧ (decode cX12_init 329 = .ok (.bipush 8, 2)) ∧ (decode cX12_init 331 = .ok (.newarray .int, 2)) ∧ (decode cX12_init 333 = .ok (.putfield 125, 3)) ∧ (decode cX12_init 336 = .ok (.aload_n 0, 1)) ∧ (decode cX12_init 337 = .ok (.bipush 8, 2)) ∧ (decode cX12_init 339 = .ok (.newarray .int, 2)) ∧ (decode cX12_init 341 = .ok (.putfield 128, 3)) ∧ (decode cX12_init 344 = .ok (.aload_n 0, 1)) ∧ (decode cX12_init 345 = .ok (.iconst 3, 1)) := by decide +kernel
theorem dX12_init_328 : decode cX12_init 328 = .ok (.aload_n 0, 1) := bdX12_init_328.1
theorem dX12_init_329 : decode cX12_init 329 = .ok (.bipush 8, 2) := bdX12_init_328.2.1
theorem dX12_init_331 : decode cX12_init 331 = .ok (.newarray .int, 2) := bdX12_init_328.2.2.1
theorem dX12_init_333 : decode cX12_init 333 = .ok (.putfield 125, 3) := bdX12_init_328.2.2.2.1
theorem dX12_init_336 : decode cX12_init 336 = .ok (.aload_n 0, 1) := bdX12_init_328.2.2.2.2.1
theorem dX12_init_337 : decode cX12_init 337 = .ok (.bipush 8, 2) := bdX12_init_328.2.2.2.2.2.1
theorem dX12_init_339 : decode cX12_init 339 = .ok (.newarray .int, 2) := bdX12_init_328.2.2.2.2.2.2.1
theorem dX12_init_341 : decode cX12_init 341 = .ok (.putfield 128, 3) := bdX12_init_328.2.2.2.2.2.2.2.1
theorem dX12_init_344 : decode cX12_init 344 = .ok (.aload_n 0, 1) := bdX12_init_328.2.2.2.2.2.2.2.2.1
theorem dX12_init_345 : decode cX12_init 345 = .ok (.iconst 3, 1) := bdX12_init_328.2.2.2.2.2.2.2.2.2
theorem bdX12_init_346 : (decode cX12_init 346 = .ok (.newarray .int, 2)) ∧ (decode cX12_init 348 = .ok (.putfield 131, 3)) ∧ (decode cX12_init 351 = .ok (.aload_n 0, 1)) ∧ (decode cX12_init 352 = .ok (.getfield 35, 3)) ∧ (decode cX12_init 355 = .ok (.iconst 3, 1)) ∧ (decode cX12_init 356 = .ok (.iconst 4, 1)) ∧ (decode cX12_init 357 = .ok (.iastore, 1)) ∧ (decode cX12_init 358 = .ok (.aload_n 0, 1)) ∧ (decode cX12_init 359 = .ok (.getfield 35, 3)) ∧ (decode cX12_init 362 = .ok (.iconst 4, 1)) := by decide +kernel
theorem dX12_init_346 : decode cX12_init 346 = .ok (.newarray .int, 2) := bdX12_init_346.1
theorem dX12_init_348 : decode cX12_init 348 = .ok (.putfield 131, 3) := bdX12_init_346.2.1
theorem dX12_init_351 : decode cX12_init 351 = .ok (.aload_n 0, 1) := bdX12_init_346.2.2.1
theorem dX12_init_352 : decode cX12_init 352 = .ok (.getfield 35, 3) := bdX12_init_346.2.2.2.1
theorem dX12_init_355 : decode cX12_init 355 = .ok (.iconst 3, 1) := bdX12_init_346.2.2.2.2.1
theorem dX12_init_356 : decode cX12_init 356 = .ok (.iconst 4, 1) := bdX12_init_346.2.2.2.2.2.1
theorem dX12_init_357 : decode cX12_init 357 = .ok (.iastore, 1) := bdX12_init_346.2.2.2.2.2.2.1
theorem dX12_init_358 : decode cX12_init 358 = .ok (.aload_n 0, 1) := bdX12_init_346.2.2.2.2.2.2.2.1
theorem dX12_init_359 : decode cX12_init 359 = .ok (.getfield 35, 3) := bdX12_init_346.2.2.2.2.2.2.2.2.1
theorem dX12_init_362 : decode cX12_init 362 = .ok (.iconst 4, 1) := bdX12_init_346.2.2.2.2.2.2.2.2.2
theorem bdX12_init_363 : (decode cX12_init 363 = .ok (.bipush 10, 2)) ∧ (decode cX12_init 365 = .ok (.iastore, 1)) ∧ (decode cX12_init 366 = .ok (.aload_n 0, 1)) ∧ (decode cX12_init 367 = .ok (.getfield 35, 3)) ∧ (decode cX12_init 370 = .ok (.iconst 5, 1)) ∧ (decode cX12_init 371 = .ok (.bipush 10, 2)) ∧ (decode cX12_init 373 = .ok (.iastore, 1)) ∧ (decode cX12_init 374 = .ok (.aload_n 0, 1)) ∧ (decode cX12_init 375 = .ok (.bipush 10, 2)) ∧ (decode cX12_init 377 = .ok (.putfield 134, 3)) := by decide +kernel
theorem dX12_init_363 : decode cX12_init 363 = .ok (.bipush 10, 2) := bdX12_init_363.1
theorem dX12_init_365 : decode cX12_init 365 = .ok (.iastore, 1) := bdX12_init_363.2.1
theorem dX12_init_366 : decode cX12_init 366 = .ok (.aload_n 0, 1) := bdX12_init_363.2.2.1
theorem dX12_init_367 : decode cX12_init 367 = .ok (.getfield 35, 3) := bdX12_init_363.2.2.2.1
theorem dX12_init_370 : decode cX12_init 370 = .ok (.iconst 5, 1) := bdX12_init_363.2.2.2.2.1
theorem dX12_init_371 : decode cX12_init 371 = .ok (.bipush 10, 2) := bdX12_init_363.2.2.2.2.2.1
theorem dX12_init_373 : decode cX12_init 373 = .ok (.iastore, 1) := bdX12_init_363.2.2.2.2.2.2.1
theorem dX12_init_374 : decode cX12_init 374 = .ok (.aload_n 0, 1) := bdX12_init_363.2.2.2.2.2.2.2.1
theorem dX12_init_375 : decode cX12_init 375 = .ok (.bipush 10, 2) := bdX12_init_363.2.2.2.2.2.2.2.2.1
theorem dX12_init_377 : decode cX12_init 377 = .ok (.putfield 134, 3) := bdX12_init_363.2.2.2.2.2.2.2.2.2
theorem bdX12_init_380 : (decode cX12_init 380 = .ok (.aload_n 0, 1)) ∧ (decode cX12_init 381 = .ok (.bipush 10, 2)) ∧ (decode cX12_init 383 = .ok (.putfield 137, 3)) ∧ (decode cX12_init 386 = .ok (.return_, 1)) := by decide +kernel
theorem dX12_init_380 : decode cX12_init 380 = .ok (.aload_n 0, 1) := bdX12_init_380.1
theorem dX12_init_381 : decode cX12_init 381 = .ok (.bipush 10, 2) := bdX12_init_380.2.1
theorem dX12_init_383 : decode cX12_init 383 = .ok (.putfield 137, 3) := bdX12_init_380.2.2.1
theorem dX12_init_386 : decode cX12_init 386 = .ok (.return_, 1) := bdX12_init_380.2.2.2
theorem bdX12_thrown_0 : (decode cX12_thrown 0 = .ok (.aload_n 0, 1)) ∧ (decode cX12_thrown 1 = .ok (.getfield 140, 3)) ∧ (decode cX12_thrown 4 = .ok (.ireturn, 1)) := by decide +kernel
theorem dX12_thrown_0 : decode cX12_thrown 0 = .ok (.aload_n 0, 1) := bdX12_thrown_0.1
theorem dX12_thrown_1 : decode cX12_thrown 1 = .ok (.getfield 140, 3) := bdX12_thrown_0.2.1
theorem dX12_thrown_4 : decode cX12_thrown 4 = .ok (.ireturn, 1) := bdX12_thrown_0.2.2
theorem bdX12_fail_0 : (decode cX12_fail 0 = .ok (.aload_n 0, 1)) ∧ (decode cX12_fail 1 = .ok (.iload_n 1, 1)) ∧ (decode cX12_fail 2 = .ok (.putfield 140, 3)) ∧ (decode cX12_fail 5 = .ok (.iconst 0, 1)) ∧ (decode cX12_fail 6 = .ok (.ireturn, 1)) := by decide +kernel
theorem dX12_fail_0 : decode cX12_fail 0 = .ok (.aload_n 0, 1) := bdX12_fail_0.1
theorem dX12_fail_1 : decode cX12_fail 1 = .ok (.iload_n 1, 1) := bdX12_fail_0.2.1
theorem dX12_fail_2 : decode cX12_fail 2 = .ok (.putfield 140, 3) := bdX12_fail_0.2.2.1
theorem dX12_fail_5 : decode cX12_fail 5 = .ok (.iconst 0, 1) := bdX12_fail_0.2.2.2.1
theorem dX12_fail_6 : decode cX12_fail 6 = .ok (.ireturn, 1) := bdX12_fail_0.2.2.2.2
theorem bdX12_failing_0 : (decode cX12_failing 0 = .ok (.aload_n 0, 1)) ∧ (decode cX12_failing 1 = .ok (.iload_n 1, 1)) ∧ (decode cX12_failing 2 = .ok (.putfield 140, 3)) ∧ (decode cX12_failing 5 = .ok (.iconst 0, 1)) ∧ (decode cX12_failing 6 = .ok (.ireturn, 1)) := by decide +kernel
theorem dX12_failing_0 : decode cX12_failing 0 = .ok (.aload_n 0, 1) := bdX12_failing_0.1
theorem dX12_failing_1 : decode cX12_failing 1 = .ok (.iload_n 1, 1) := bdX12_failing_0.2.1
theorem dX12_failing_2 : decode cX12_failing 2 = .ok (.putfield 140, 3) := bdX12_failing_0.2.2.1
theorem dX12_failing_5 : decode cX12_failing 5 = .ok (.iconst 0, 1) := bdX12_failing_0.2.2.2.1
theorem dX12_failing_6 : decode cX12_failing 6 = .ok (.ireturn, 1) := bdX12_failing_0.2.2.2.2
theorem bdX12_isIn_0 : (decode cX12_isIn 0 = .ok (.lload_n 0, 1)) ∧ (decode cX12_isIn 1 = .ok (.lload_n 2, 1)) ∧ (decode cX12_isIn 2 = .ok (.lcmp, 1)) ∧ (decode cX12_isIn 3 = .ok (.ifCond .lt 14, 3)) ∧ (decode cX12_isIn 6 = .ok (.lload_n 0, 1)) ∧ (decode cX12_isIn 7 = .ok (.lload 4, 2)) ∧ (decode cX12_isIn 9 = .ok (.lcmp, 1)) ∧ (decode cX12_isIn 10 = .ok (.ifCond .gt 7, 3)) ∧ (decode cX12_isIn 13 = .ok (.iconst 1, 1)) ∧ (decode cX12_isIn 14 = .ok (.goto 4, 3)) := by decide +kernel
theorem dX12_isIn_0 : decode cX12_isIn 0 = .ok (.lload_n 0, 1) := bdX12_isIn_0.1
theorem dX12_isIn_1 : decode cX12_isIn 1 = .ok (.lload_n 2, 1) := bdX12_isIn_0.2.1
theorem dX12_isIn_2 : decode cX12_isIn 2 = .ok (.lcmp, 1) := bdX12_isIn_0.2.2.1
theorem dX12_isIn_3 : decode cX12_isIn 3 = .ok (.ifCond .lt 14, 3) := bdX12_isIn_0.2.2.2.1
theorem dX12_isIn_6 : decode cX12_isIn 6 = .ok (.lload_n 0, 1) := bdX12_isIn_0.2.2.2.2.1
theorem dX12_isIn_7 : decode cX12_isIn 7 = .ok (.lload 4, 2) := bdX12_isIn_0.2.2.2.2.2.1
theorem dX12_isIn_9 : decode cX12_isIn 9 = .ok (.lcmp, 1) := bdX12_isIn_0.2.2.2.2.2.2.1
theorem dX12_isIn_10 : decode cX12_isIn 10 = .ok (.ifCond .gt 7, 3) := bdX12_isIn_0.2.2.2.2.2.2.2.1
theorem dX12_isIn_13 : decode cX12_isIn 13 = .ok (.iconst 1, 1) := bdX12_isIn_0.2.2.2.2.2.2.2.2.1
theorem dX12_isIn_14 : decode cX12_isIn 14 = .ok (.goto 4, 3) := bdX12_isIn_0.2.2.2.2.2.2.2.2.2
theorem bdX12_isIn_17 : (decode cX12_isIn 17 = .ok (.iconst 0, 1)) ∧ (decode cX12_isIn 18 = .ok (.ireturn, 1)) := by decide +kernel
theorem dX12_isIn_17 : decode cX12_isIn 17 = .ok (.iconst 0, 1) := bdX12_isIn_17.1
theorem dX12_isIn_18 : decode cX12_isIn 18 = .ok (.ireturn, 1) := bdX12_isIn_17.2
theorem bdX12_isOf_0 : (decode cX12_isOf 0 = .ok (.iload_n 0, 1)) ∧ (decode cX12_isOf 1 = .ok (.iload_n 1, 1)) ∧ (decode cX12_isOf 2 = .ok (.ishr, 1)) ∧ (decode cX12_isOf 3 = .ok (.iconst 1, 1)) ∧ (decode cX12_isOf 4 = .ok (.iand, 1)) ∧ (decode cX12_isOf 5 = .ok (.iconst 1, 1)) ∧ (decode cX12_isOf 6 = .ok (.if_icmp .ne 7, 3)) ∧ (decode cX12_isOf 9 = .ok (.iconst 1, 1)) ∧ (decode cX12_isOf 10 = .ok (.goto 4, 3)) ∧ (decode cX12_isOf 13 = .ok (.iconst 0, 1)) := by decide +kernel
theorem dX12_isOf_0 : decode cX12_isOf 0 = .ok (.iload_n 0, 1) := bdX12_isOf_0.1
theorem dX12_isOf_1 : decode cX12_isOf 1 = .ok (.iload_n 1, 1) := bdX12_isOf_0.2.1
theorem dX12_isOf_2 : decode cX12_isOf 2 = .ok (.ishr, 1) := bdX12_isOf_0.2.2.1
theorem dX12_isOf_3 : decode cX12_isOf 3 = .ok (.iconst 1, 1) := bdX12_isOf_0.2.2.2.1
theorem dX12_isOf_4 : decode cX12_isOf 4 = .ok (.iand, 1) := bdX12_isOf_0.2.2.2.2.1
theorem dX12_isOf_5 : decode cX12_isOf 5 = .ok (.iconst 1, 1) := bdX12_isOf_0.2.2.2.2.2.1
theorem dX12_isOf_6 : decode cX12_isOf 6 = .ok (.if_icmp .ne 7, 3) := bdX12_isOf_0.2.2.2.2.2.2.1
theorem dX12_isOf_9 : decode cX12_isOf 9 = .ok (.iconst 1, 1) := bdX12_isOf_0.2.2.2.2.2.2.2.1
theorem dX12_isOf_10 : decode cX12_isOf 10 = .ok (.goto 4, 3) := bdX12_isOf_0.2.2.2.2.2.2.2.2.1
theorem dX12_isOf_13 : decode cX12_isOf 13 = .ok (.iconst 0, 1) := bdX12_isOf_0.2.2.2.2.2.2.2.2.2
theorem bdX12_isOf_14 : (decode cX12_isOf 14 = .ok (.ireturn, 1)) := by decide +kernel
theorem dX12_isOf_14 : decode cX12_isOf 14 = .ok (.ireturn, 1) := bdX12_isOf_14
theorem bdX12_bitsOf_0 : (decode cX12_bitsOf 0 = .ok (.iconst 0, 1)) ∧ (decode cX12_bitsOf 1 = .ok (.istore_n 1, 1)) ∧ (decode cX12_bitsOf 2 = .ok (.iload_n 0, 1)) ∧ (decode cX12_bitsOf 3 = .ok (.istore_n 2, 1)) ∧ (decode cX12_bitsOf 4 = .ok (.iload_n 2, 1)) ∧ (decode cX12_bitsOf 5 = .ok (.ifCond .eq 15, 3)) ∧ (decode cX12_bitsOf 8 = .ok (.iinc 1 1, 3)) ∧ (decode cX12_bitsOf 11 = .ok (.iload_n 2, 1)) ∧ (decode cX12_bitsOf 12 = .ok (.iload_n 2, 1)) ∧ (decode cX12_bitsOf 13 = .ok (.iconst 1, 1)) := by decide +kernel
theorem dX12_bitsOf_0 : decode cX12_bitsOf 0 = .ok (.iconst 0, 1) := bdX12_bitsOf_0.1
theorem dX12_bitsOf_1 : decode cX12_bitsOf 1 = .ok (.istore_n 1, 1) := bdX12_bitsOf_0.2.1
theorem dX12_bitsOf_2 : decode cX12_bitsOf 2 = .ok (.iload_n 0, 1) := bdX12_bitsOf_0.2.2.1
theorem dX12_bitsOf_3 : decode cX12_bitsOf 3 = .ok (.istore_n 2, 1) := bdX12_bitsOf_0.2.2.2.1
theorem dX12_bitsOf_4 : decode cX12_bitsOf 4 = .ok (.iload_n 2, 1) := bdX12_bitsOf_0.2.2.2.2.1
theorem dX12_bitsOf_5 : decode cX12_bitsOf 5 = .ok (.ifCond .eq 15, 3) := bdX12_bitsOf_0.2.2.2.2.2.1
theorem dX12_bitsOf_8 : decode cX12_bitsOf 8 = .ok (.iinc 1 1, 3) := bdX12_bitsOf_0.2.2.2.2.2.2.1
theorem dX12_bitsOf_11 : decode cX12_bitsOf 11 = .ok (.iload_n 2, 1) := bdX12_bitsOf_0.2.2.2.2.2.2.2.1
theorem dX12_bitsOf_12 : decode cX12_bitsOf 12 = .ok (.iload_n 2, 1) := bdX12_bitsOf_0.2.2.2.2.2.2.2.2.1
theorem dX12_bitsOf_13 : decode cX12_bitsOf 13 = .ok (.iconst 1, 1) := bdX12_bitsOf_0.2.2.2.2.2.2.2.2.2
theorem bdX12_bitsOf_14 : (decode cX12_bitsOf 14 = .ok (.isub, 1)) ∧ (decode cX12_bitsOf 15 = .ok (.iand, 1)) ∧ (decode cX12_bitsOf 16 = .ok (.istore_n 2, 1)) ∧ (decode cX12_bitsOf 17 = .ok (.goto (-13), 3)) ∧ (decode cX12_bitsOf 20 = .ok (.iload_n 1, 1)) ∧ (decode cX12_bitsOf 21 = .ok (.ireturn, 1)) := by decide +kernel
theorem dX12_bitsOf_14 : decode cX12_bitsOf 14 = .ok (.isub, 1) := bdX12_bitsOf_14.1
theorem dX12_bitsOf_15 : decode cX12_bitsOf 15 = .ok (.iand, 1) := bdX12_bitsOf_14.2.1
theorem dX12_bitsOf_16 : decode cX12_bitsOf 16 = .ok (.istore_n 2, 1) := bdX12_bitsOf_14.2.2.1
theorem dX12_bitsOf_17 : decode cX12_bitsOf 17 = .ok (.goto (-13), 3) := bdX12_bitsOf_14.2.2.2.1
theorem dX12_bitsOf_20 : decode cX12_bitsOf 20 = .ok (.iload_n 1, 1) := bdX12_bitsOf_14.2.2.2.2.1
theorem dX12_bitsOf_21 : decode cX12_bitsOf 21 = .ok (.ireturn, 1) := bdX12_bitsOf_14.2.2.2.2.2
theorem bdX12_isHouse_0 : (decode cX12_isHouse 0 = .ok (.iload_n 1, 1)) ∧ (decode cX12_isHouse 1 = .ok (.i2l, 1)) ∧ (decode cX12_isHouse 2 = .ok (.lconst 0, 1)) ∧ (decode cX12_isHouse 3 = .ok (.aload_n 0, 1)) ∧ (decode cX12_isHouse 4 = .ok (.getfield 35, 3)) ∧ (decode cX12_isHouse 7 = .ok (.iconst 0, 1)) ∧ (decode cX12_isHouse 8 = .ok (.iaload, 1)) ∧ (decode cX12_isHouse 9 = .ok (.iconst 1, 1)) ∧ (decode cX12_isHouse 10 = .ok (.isub, 1)) ∧ (decode cX12_isHouse 11 = .ok (.i2l, 1)) := by decide +kernel
theorem dX12_isHouse_0 : decode cX12_isHouse 0 = .ok (.iload_n 1, 1) := bdX12_isHouse_0.1
theorem dX12_isHouse_1 : decode cX12_isHouse 1 = .ok (.i2l, 1) := bdX12_isHouse_0.2.1
theorem dX12_isHouse_2 : decode cX12_isHouse 2 = .ok (.lconst 0, 1) := bdX12_isHouse_0.2.2.1
theorem dX12_isHouse_3 : decode cX12_isHouse 3 = .ok (.aload_n 0, 1) := bdX12_isHouse_0.2.2.2.1
theorem dX12_isHouse_4 : decode cX12_isHouse 4 = .ok (.getfield 35, 3) := bdX12_isHouse_0.2.2.2.2.1
theorem dX12_isHouse_7 : decode cX12_isHouse 7 = .ok (.iconst 0, 1) := bdX12_isHouse_0.2.2.2.2.2.1
theorem dX12_isHouse_8 : decode cX12_isHouse 8 = .ok (.iaload, 1) := bdX12_isHouse_0.2.2.2.2.2.2.1
theorem dX12_isHouse_9 : decode cX12_isHouse 9 = .ok (.iconst 1, 1) := bdX12_isHouse_0.2.2.2.2.2.2.2.1
theorem dX12_isHouse_10 : decode cX12_isHouse 10 = .ok (.isub, 1) := bdX12_isHouse_0.2.2.2.2.2.2.2.2.1
theorem dX12_isHouse_11 : decode cX12_isHouse 11 = .ok (.i2l, 1) := bdX12_isHouse_0.2.2.2.2.2.2.2.2.2
theorem bdX12_isHouse_12 : (decode cX12_isHouse 12 = .ok (.invokestatic 143, 3)) ∧ (decode cX12_isHouse 15 = .ok (.ireturn, 1)) := by decide +kernel
theorem dX12_isHouse_12 : decode cX12_isHouse 12 = .ok (.invokestatic 143, 3) := bdX12_isHouse_12.1
theorem dX12_isHouse_15 : decode cX12_isHouse 15 = .ok (.ireturn, 1) := bdX12_isHouse_12.2
theorem bdX12_isPlot_0 : (decode cX12_isPlot 0 = .ok (.iload_n 1, 1)) ∧ (decode cX12_isPlot 1 = .ok (.i2l, 1)) ∧ (decode cX12_isPlot 2 = .ok (.lconst 0, 1)) ∧ (decode cX12_isPlot 3 = .ok (.aload_n 0, 1)) ∧ (decode cX12_isPlot 4 = .ok (.getfield 35, 3)) ∧ (decode cX12_isPlot 7 = .ok (.iconst 1, 1)) ∧ (decode cX12_isPlot 8 = .ok (.iaload, 1)) ∧ (decode cX12_isPlot 9 = .ok (.iconst 1, 1)) ∧ (decode cX12_isPlot 10 = .ok (.isub, 1)) ∧ (decode cX12_isPlot 11 = .ok (.i2l, 1)) := by decide +kernel
theorem dX12_isPlot_0 : decode cX12_isPlot 0 = .ok (.iload_n 1, 1) := bdX12_isPlot_0.1
theorem dX12_isPlot_1 : decode cX12_isPlot 1 = .ok (.i2l, 1) := bdX12_isPlot_0.2.1
theorem dX12_isPlot_2 : decode cX12_isPlot 2 = .ok (.lconst 0, 1) := bdX12_isPlot_0.2.2.1
theorem dX12_isPlot_3 : decode cX12_isPlot 3 = .ok (.aload_n 0, 1) := bdX12_isPlot_0.2.2.2.1
theorem dX12_isPlot_4 : decode cX12_isPlot 4 = .ok (.getfield 35, 3) := bdX12_isPlot_0.2.2.2.2.1
theorem dX12_isPlot_7 : decode cX12_isPlot 7 = .ok (.iconst 1, 1) := bdX12_isPlot_0.2.2.2.2.2.1
theorem dX12_isPlot_8 : decode cX12_isPlot 8 = .ok (.iaload, 1) := bdX12_isPlot_0.2.2.2.2.2.2.1
theorem dX12_isPlot_9 : decode cX12_isPlot 9 = .ok (.iconst 1, 1) := bdX12_isPlot_0.2.2.2.2.2.2.2.1
theorem dX12_isPlot_10 : decode cX12_isPlot 10 = .ok (.isub, 1) := bdX12_isPlot_0.2.2.2.2.2.2.2.2.1
theorem dX12_isPlot_11 : decode cX12_isPlot 11 = .ok (.i2l, 1) := bdX12_isPlot_0.2.2.2.2.2.2.2.2.2
theorem bdX12_isPlot_12 : (decode cX12_isPlot 12 = .ok (.invokestatic 143, 3)) ∧ (decode cX12_isPlot 15 = .ok (.ireturn, 1)) := by decide +kernel
theorem dX12_isPlot_12 : decode cX12_isPlot 12 = .ok (.invokestatic 143, 3) := bdX12_isPlot_12.1
theorem dX12_isPlot_15 : decode cX12_isPlot 15 = .ok (.ireturn, 1) := bdX12_isPlot_12.2
theorem bdX12_feed_0 : (decode cX12_feed 0 = .ok (.aload_n 0, 1)) ∧ (decode cX12_feed 1 = .ok (.iconst 0, 1)) ∧ (decode cX12_feed 2 = .ok (.putfield 140, 3)) ∧ (decode cX12_feed 5 = .ok (.aload_n 0, 1)) ∧ (decode cX12_feed 6 = .ok (.getfield 147, 3)) ∧ (decode cX12_feed 9 = .ok (.bipush 20, 2)) ∧ (decode cX12_feed 11 = .ok (.iadd, 1)) ∧ (decode cX12_feed 12 = .ok (.sipush 700, 3)) ∧ (decode cX12_feed 15 = .ok (.if_icmp .le 5, 3)) ∧ (decode cX12_feed 18 = .ok (.iconst (-1), 1)) := by decide +kernel
theorem dX12_feed_0 : decode cX12_feed 0 = .ok (.aload_n 0, 1) := bdX12_feed_0.1
theorem dX12_feed_1 : decode cX12_feed 1 = .ok (.iconst 0, 1) := bdX12_feed_0.2.1
theorem dX12_feed_2 : decode cX12_feed 2 = .ok (.putfield 140, 3) := bdX12_feed_0.2.2.1
theorem dX12_feed_5 : decode cX12_feed 5 = .ok (.aload_n 0, 1) := bdX12_feed_0.2.2.2.1
theorem dX12_feed_6 : decode cX12_feed 6 = .ok (.getfield 147, 3) := bdX12_feed_0.2.2.2.2.1
theorem dX12_feed_9 : decode cX12_feed 9 = .ok (.bipush 20, 2) := bdX12_feed_0.2.2.2.2.2.1
theorem dX12_feed_11 : decode cX12_feed 11 = .ok (.iadd, 1) := bdX12_feed_0.2.2.2.2.2.2.1
theorem dX12_feed_12 : decode cX12_feed 12 = .ok (.sipush 700, 3) := bdX12_feed_0.2.2.2.2.2.2.2.1
theorem dX12_feed_15 : decode cX12_feed 15 = .ok (.if_icmp .le 5, 3) := bdX12_feed_0.2.2.2.2.2.2.2.2.1
theorem dX12_feed_18 : decode cX12_feed 18 = .ok (.iconst (-1), 1) := bdX12_feed_0.2.2.2.2.2.2.2.2.2
theorem bdX12_feed_19 : (decode cX12_feed 19 = .ok (.ireturn, 1)) ∧ (decode cX12_feed 20 = .ok (.iconst 0, 1)) ∧ (decode cX12_feed 21 = .ok (.istore 6, 2)) ∧ (decode cX12_feed 23 = .ok (.iload 6, 2)) ∧ (decode cX12_feed 25 = .ok (.bipush 20, 2)) ∧ (decode cX12_feed 27 = .ok (.if_icmp .ge 93, 3)) ∧ (decode cX12_feed 30 = .ok (.iload 6, 2)) ∧ (decode cX12_feed 32 = .ok (.iconst 4, 1)) ∧ (decode cX12_feed 33 = .ok (.if_icmp .ge 7, 3)) ∧ (decode cX12_feed 36 = .ok (.iload_n 1, 1)) := by decide +kernel
theorem dX12_feed_19 : decode cX12_feed 19 = .ok (.ireturn, 1) := bdX12_feed_19.1
theorem dX12_feed_20 : decode cX12_feed 20 = .ok (.iconst 0, 1) := bdX12_feed_19.2.1
theorem dX12_feed_21 : decode cX12_feed 21 = .ok (.istore 6, 2) := bdX12_feed_19.2.2.1
theorem dX12_feed_23 : decode cX12_feed 23 = .ok (.iload 6, 2) := bdX12_feed_19.2.2.2.1
theorem dX12_feed_25 : decode cX12_feed 25 = .ok (.bipush 20, 2) := bdX12_feed_19.2.2.2.2.1
theorem dX12_feed_27 : decode cX12_feed 27 = .ok (.if_icmp .ge 93, 3) := bdX12_feed_19.2.2.2.2.2.1
theorem dX12_feed_30 : decode cX12_feed 30 = .ok (.iload 6, 2) := bdX12_feed_19.2.2.2.2.2.2.1
theorem dX12_feed_32 : decode cX12_feed 32 = .ok (.iconst 4, 1) := bdX12_feed_19.2.2.2.2.2.2.2.1
theorem dX12_feed_33 : decode cX12_feed 33 = .ok (.if_icmp .ge 7, 3) := bdX12_feed_19.2.2.2.2.2.2.2.2.1
theorem dX12_feed_36 : decode cX12_feed 36 = .ok (.iload_n 1, 1) := bdX12_feed_19.2.2.2.2.2.2.2.2.2
theorem bdX12_feed_37 : (decode cX12_feed 37 = .ok (.goto 39, 3)) ∧ (decode cX12_feed 40 = .ok (.iload 6, 2)) ∧ (decode cX12_feed 42 = .ok (.bipush 8, 2)) ∧ (decode cX12_feed 44 = .ok (.if_icmp .ge 7, 3)) ∧ (decode cX12_feed 47 = .ok (.iload_n 2, 1)) ∧ (decode cX12_feed 48 = .ok (.goto 28, 3)) ∧ (decode cX12_feed 51 = .ok (.iload 6, 2)) ∧ (decode cX12_feed 53 = .ok (.bipush 12, 2)) ∧ (decode cX12_feed 55 = .ok (.if_icmp .ge 7, 3)) ∧ (decode cX12_feed 58 = .ok (.iload_n 3, 1)) := by decide +kernel
theorem dX12_feed_37 : decode cX12_feed 37 = .ok (.goto 39, 3) := bdX12_feed_37.1
theorem dX12_feed_40 : decode cX12_feed 40 = .ok (.iload 6, 2) := bdX12_feed_37.2.1
theorem dX12_feed_42 : decode cX12_feed 42 = .ok (.bipush 8, 2) := bdX12_feed_37.2.2.1
theorem dX12_feed_44 : decode cX12_feed 44 = .ok (.if_icmp .ge 7, 3) := bdX12_feed_37.2.2.2.1
theorem dX12_feed_47 : decode cX12_feed 47 = .ok (.iload_n 2, 1) := bdX12_feed_37.2.2.2.2.1
theorem dX12_feed_48 : decode cX12_feed 48 = .ok (.goto 28, 3) := bdX12_feed_37.2.2.2.2.2.1
theorem dX12_feed_51 : decode cX12_feed 51 = .ok (.iload 6, 2) := bdX12_feed_37.2.2.2.2.2.2.1
theorem dX12_feed_53 : decode cX12_feed 53 = .ok (.bipush 12, 2) := bdX12_feed_37.2.2.2.2.2.2.2.1
theorem dX12_feed_55 : decode cX12_feed 55 = .ok (.if_icmp .ge 7, 3) := bdX12_feed_37.2.2.2.2.2.2.2.2.1
theorem dX12_feed_58 : decode cX12_feed 58 = .ok (.iload_n 3, 1) := bdX12_feed_37.2.2.2.2.2.2.2.2.2
theorem bdX12_feed_59 : (decode cX12_feed 59 = .ok (.goto 17, 3)) ∧ (decode cX12_feed 62 = .ok (.iload 6, 2)) ∧ (decode cX12_feed 64 = .ok (.bipush 16, 2)) ∧ (decode cX12_feed 66 = .ok (.if_icmp .ge 8, 3)) ∧ (decode cX12_feed 69 = .ok (.iload 4, 2)) ∧ (decode cX12_feed 71 = .ok (.goto 5, 3)) ∧ (decode cX12_feed 74 = .ok (.iload 5, 2)) ∧ (decode cX12_feed 76 = .ok (.istore 7, 2)) ∧ (decode cX12_feed 78 = .ok (.aload_n 0, 1)) ∧ (decode cX12_feed 79 = .ok (.getfield 66, 3)) := by decide +kernel
theorem dX12_feed_59 : decode cX12_feed 59 = .ok (.goto 17, 3) := bdX12_feed_59.1
theorem dX12_feed_62 : decode cX12_feed 62 = .ok (.iload 6, 2) := bdX12_feed_59.2.1
theorem dX12_feed_64 : decode cX12_feed 64 = .ok (.bipush 16, 2) := bdX12_feed_59.2.2.1
theorem dX12_feed_66 : decode cX12_feed 66 = .ok (.if_icmp .ge 8, 3) := bdX12_feed_59.2.2.2.1
theorem dX12_feed_69 : decode cX12_feed 69 = .ok (.iload 4, 2) := bdX12_feed_59.2.2.2.2.1
theorem dX12_feed_71 : decode cX12_feed 71 = .ok (.goto 5, 3) := bdX12_feed_59.2.2.2.2.2.1
theorem dX12_feed_74 : decode cX12_feed 74 = .ok (.iload 5, 2) := bdX12_feed_59.2.2.2.2.2.2.1
theorem dX12_feed_76 : decode cX12_feed 76 = .ok (.istore 7, 2) := bdX12_feed_59.2.2.2.2.2.2.2.1
theorem dX12_feed_78 : decode cX12_feed 78 = .ok (.aload_n 0, 1) := bdX12_feed_59.2.2.2.2.2.2.2.2.1
theorem dX12_feed_79 : decode cX12_feed 79 = .ok (.getfield 66, 3) := bdX12_feed_59.2.2.2.2.2.2.2.2.2
theorem bdX12_feed_82 : (decode cX12_feed 82 = .ok (.aload_n 0, 1)) ∧ (decode cX12_feed 83 = .ok (.getfield 147, 3)) ∧ (decode cX12_feed 86 = .ok (.iload 7, 2)) ∧ (decode cX12_feed 88 = .ok (.bipush 24, 2)) ∧ (decode cX12_feed 90 = .ok (.bipush 8, 2)) ∧ (decode cX12_feed 92 = .ok (.iload 6, 2)) ∧ (decode cX12_feed 94 = .ok (.iconst 4, 1)) ∧ (decode cX12_feed 95 = .ok (.irem, 1)) ∧ (decode cX12_feed 96 = .ok (.imul, 1)) ∧ (decode cX12_feed 97 = .ok (.isub, 1)) := by decide +kernel
theorem dX12_feed_82 : decode cX12_feed 82 = .ok (.aload_n 0, 1) := bdX12_feed_82.1
theorem dX12_feed_83 : decode cX12_feed 83 = .ok (.getfield 147, 3) := bdX12_feed_82.2.1
theorem dX12_feed_86 : decode cX12_feed 86 = .ok (.iload 7, 2) := bdX12_feed_82.2.2.1
theorem dX12_feed_88 : decode cX12_feed 88 = .ok (.bipush 24, 2) := bdX12_feed_82.2.2.2.1
theorem dX12_feed_90 : decode cX12_feed 90 = .ok (.bipush 8, 2) := bdX12_feed_82.2.2.2.2.1
theorem dX12_feed_92 : decode cX12_feed 92 = .ok (.iload 6, 2) := bdX12_feed_82.2.2.2.2.2.1
theorem dX12_feed_94 : decode cX12_feed 94 = .ok (.iconst 4, 1) := bdX12_feed_82.2.2.2.2.2.2.1
theorem dX12_feed_95 : decode cX12_feed 95 = .ok (.irem, 1) := bdX12_feed_82.2.2.2.2.2.2.2.1
theorem dX12_feed_96 : decode cX12_feed 96 = .ok (.imul, 1) := bdX12_feed_82.2.2.2.2.2.2.2.2.1
theorem dX12_feed_97 : decode cX12_feed 97 = .ok (.isub, 1) := bdX12_feed_82.2.2.2.2.2.2.2.2.2
theorem bdX12_feed_98 : (decode cX12_feed 98 = .ok (.ishr, 1)) ∧ (decode cX12_feed 99 = .ok (.sipush 255, 3)) ∧ (decode cX12_feed 102 = .ok (.iand, 1)) ∧ (decode cX12_feed 103 = .ok (.iastore, 1)) ∧ (decode cX12_feed 104 = .ok (.aload_n 0, 1)) ∧ (decode cX12_feed 105 = .ok (.dup, 1)) ∧ (decode cX12_feed 106 = .ok (.getfield 147, 3)) ∧ (decode cX12_feed 109 = .ok (.iconst 1, 1)) ∧ (decode cX12_feed 110 = .ok (.iadd, 1)) ∧ (decode cX12_feed 111 = .ok (.putfield 147, 3)) := by decide +kernel
theorem dX12_feed_98 : decode cX12_feed 98 = .ok (.ishr, 1) := bdX12_feed_98.1
theorem dX12_feed_99 : decode cX12_feed 99 = .ok (.sipush 255, 3) := bdX12_feed_98.2.1
theorem dX12_feed_102 : decode cX12_feed 102 = .ok (.iand, 1) := bdX12_feed_98.2.2.1
theorem dX12_feed_103 : decode cX12_feed 103 = .ok (.iastore, 1) := bdX12_feed_98.2.2.2.1
theorem dX12_feed_104 : decode cX12_feed 104 = .ok (.aload_n 0, 1) := bdX12_feed_98.2.2.2.2.1
theorem dX12_feed_105 : decode cX12_feed 105 = .ok (.dup, 1) := bdX12_feed_98.2.2.2.2.2.1
theorem dX12_feed_106 : decode cX12_feed 106 = .ok (.getfield 147, 3) := bdX12_feed_98.2.2.2.2.2.2.1
theorem dX12_feed_109 : decode cX12_feed 109 = .ok (.iconst 1, 1) := bdX12_feed_98.2.2.2.2.2.2.2.1
theorem dX12_feed_110 : decode cX12_feed 110 = .ok (.iadd, 1) := bdX12_feed_98.2.2.2.2.2.2.2.2.1
theorem dX12_feed_111 : decode cX12_feed 111 = .ok (.putfield 147, 3) := bdX12_feed_98.2.2.2.2.2.2.2.2.2
theorem bdX12_feed_114 : (decode cX12_feed 114 = .ok (.iinc 6 1, 3)) ∧ (decode cX12_feed 117 = .ok (.goto (-94), 3)) ∧ (decode cX12_feed 120 = .ok (.aload_n 0, 1)) ∧ (decode cX12_feed 121 = .ok (.getfield 147, 3)) ∧ (decode cX12_feed 124 = .ok (.ireturn, 1)) := by decide +kernel
theorem dX12_feed_114 : decode cX12_feed 114 = .ok (.iinc 6 1, 3) := bdX12_feed_114.1
theorem dX12_feed_117 : decode cX12_feed 117 = .ok (.goto (-94), 3) := bdX12_feed_114.2.1
theorem dX12_feed_120 : decode cX12_feed 120 = .ok (.aload_n 0, 1) := bdX12_feed_114.2.2.1
theorem dX12_feed_121 : decode cX12_feed 121 = .ok (.getfield 147, 3) := bdX12_feed_114.2.2.2.1
theorem dX12_feed_124 : decode cX12_feed 124 = .ok (.ireturn, 1) := bdX12_feed_114.2.2.2.2
theorem bdX12_byteAt_0 : (decode cX12_byteAt 0 = .ok (.iload_n 1, 1)) ∧ (decode cX12_byteAt 1 = .ok (.aload_n 0, 1)) ∧ (decode cX12_byteAt 2 = .ok (.getfield 150, 3)) ∧ (decode cX12_byteAt 5 = .ok (.if_icmp .ge 12, 3)) ∧ (decode cX12_byteAt 8 = .ok (.aload_n 0, 1)) ∧ (decode cX12_byteAt 9 = .ok (.getfield 66, 3)) ∧ (decode cX12_byteAt 12 = .ok (.iload_n 1, 1)) ∧ (decode cX12_byteAt 13 = .ok (.iaload, 1)) ∧ (decode cX12_byteAt 14 = .ok (.goto 4, 3)) ∧ (decode cX12_byteAt 17 = .ok (.iconst (-1), 1)) := by decide +kernel
theorem dX12_byteAt_0 : decode cX12_byteAt 0 = .ok (.iload_n 1, 1) := bdX12_byteAt_0.1
theorem dX12_byteAt_1 : decode cX12_byteAt 1 = .ok (.aload_n 0, 1) := bdX12_byteAt_0.2.1
theorem dX12_byteAt_2 : decode cX12_byteAt 2 = .ok (.getfield 150, 3) := bdX12_byteAt_0.2.2.1
theorem dX12_byteAt_5 : decode cX12_byteAt 5 = .ok (.if_icmp .ge 12, 3) := bdX12_byteAt_0.2.2.2.1
theorem dX12_byteAt_8 : decode cX12_byteAt 8 = .ok (.aload_n 0, 1) := bdX12_byteAt_0.2.2.2.2.1
theorem dX12_byteAt_9 : decode cX12_byteAt 9 = .ok (.getfield 66, 3) := bdX12_byteAt_0.2.2.2.2.2.1
theorem dX12_byteAt_12 : decode cX12_byteAt 12 = .ok (.iload_n 1, 1) := bdX12_byteAt_0.2.2.2.2.2.2.1
theorem dX12_byteAt_13 : decode cX12_byteAt 13 = .ok (.iaload, 1) := bdX12_byteAt_0.2.2.2.2.2.2.2.1
theorem dX12_byteAt_14 : decode cX12_byteAt 14 = .ok (.goto 4, 3) := bdX12_byteAt_0.2.2.2.2.2.2.2.2.1
theorem dX12_byteAt_17 : decode cX12_byteAt 17 = .ok (.iconst (-1), 1) := bdX12_byteAt_0.2.2.2.2.2.2.2.2.2
theorem bdX12_byteAt_18 : (decode cX12_byteAt 18 = .ok (.ireturn, 1)) := by decide +kernel
theorem dX12_byteAt_18 : decode cX12_byteAt 18 = .ok (.ireturn, 1) := bdX12_byteAt_18
theorem bdX12_isLetter_0 : (decode cX12_isLetter 0 = .ok (.iload_n 0, 1)) ∧ (decode cX12_isLetter 1 = .ok (.bipush 97, 2)) ∧ (decode cX12_isLetter 3 = .ok (.if_icmp .lt 13, 3)) ∧ (decode cX12_isLetter 6 = .ok (.iload_n 0, 1)) ∧ (decode cX12_isLetter 7 = .ok (.bipush 122, 2)) ∧ (decode cX12_isLetter 9 = .ok (.if_icmp .gt 7, 3)) ∧ (decode cX12_isLetter 12 = .ok (.iconst 1, 1)) ∧ (decode cX12_isLetter 13 = .ok (.goto 4, 3)) ∧ (decode cX12_isLetter 16 = .ok (.iconst 0, 1)) ∧ (decode cX12_isLetter 17 = .ok (.ireturn, 1)) := by decide +kernel
theorem dX12_isLetter_0 : decode cX12_isLetter 0 = .ok (.iload_n 0, 1) := bdX12_isLetter_0.1
theorem dX12_isLetter_1 : decode cX12_isLetter 1 = .ok (.bipush 97, 2) := bdX12_isLetter_0.2.1
theorem dX12_isLetter_3 : decode cX12_isLetter 3 = .ok (.if_icmp .lt 13, 3) := bdX12_isLetter_0.2.2.1
theorem dX12_isLetter_6 : decode cX12_isLetter 6 = .ok (.iload_n 0, 1) := bdX12_isLetter_0.2.2.2.1
theorem dX12_isLetter_7 : decode cX12_isLetter 7 = .ok (.bipush 122, 2) := bdX12_isLetter_0.2.2.2.2.1
theorem dX12_isLetter_9 : decode cX12_isLetter 9 = .ok (.if_icmp .gt 7, 3) := bdX12_isLetter_0.2.2.2.2.2.1
theorem dX12_isLetter_12 : decode cX12_isLetter 12 = .ok (.iconst 1, 1) := bdX12_isLetter_0.2.2.2.2.2.2.1
theorem dX12_isLetter_13 : decode cX12_isLetter 13 = .ok (.goto 4, 3) := bdX12_isLetter_0.2.2.2.2.2.2.2.1
theorem dX12_isLetter_16 : decode cX12_isLetter 16 = .ok (.iconst 0, 1) := bdX12_isLetter_0.2.2.2.2.2.2.2.2.1
theorem dX12_isLetter_17 : decode cX12_isLetter 17 = .ok (.ireturn, 1) := bdX12_isLetter_0.2.2.2.2.2.2.2.2.2
theorem bdX12_isDigit_0 : (decode cX12_isDigit 0 = .ok (.iload_n 0, 1)) ∧ (decode cX12_isDigit 1 = .ok (.bipush 48, 2)) ∧ (decode cX12_isDigit 3 = .ok (.if_icmp .lt 13, 3)) ∧ (decode cX12_isDigit 6 = .ok (.iload_n 0, 1)) ∧ (decode cX12_isDigit 7 = .ok (.bipush 57, 2)) ∧ (decode cX12_isDigit 9 = .ok (.if_icmp .gt 7, 3)) ∧ (decode cX12_isDigit 12 = .ok (.iconst 1, 1)) ∧ (decode cX12_isDigit 13 = .ok (.goto 4, 3)) ∧ (decode cX12_isDigit 16 = .ok (.iconst 0, 1)) ∧ (decode cX12_isDigit 17 = .ok (.ireturn, 1)) := by decide +kernel
theorem dX12_isDigit_0 : decode cX12_isDigit 0 = .ok (.iload_n 0, 1) := bdX12_isDigit_0.1
theorem dX12_isDigit_1 : decode cX12_isDigit 1 = .ok (.bipush 48, 2) := bdX12_isDigit_0.2.1
theorem dX12_isDigit_3 : decode cX12_isDigit 3 = .ok (.if_icmp .lt 13, 3) := bdX12_isDigit_0.2.2.1
theorem dX12_isDigit_6 : decode cX12_isDigit 6 = .ok (.iload_n 0, 1) := bdX12_isDigit_0.2.2.2.1
theorem dX12_isDigit_7 : decode cX12_isDigit 7 = .ok (.bipush 57, 2) := bdX12_isDigit_0.2.2.2.2.1
theorem dX12_isDigit_9 : decode cX12_isDigit 9 = .ok (.if_icmp .gt 7, 3) := bdX12_isDigit_0.2.2.2.2.2.1
theorem dX12_isDigit_12 : decode cX12_isDigit 12 = .ok (.iconst 1, 1) := bdX12_isDigit_0.2.2.2.2.2.2.1
theorem dX12_isDigit_13 : decode cX12_isDigit 13 = .ok (.goto 4, 3) := bdX12_isDigit_0.2.2.2.2.2.2.2.1
theorem dX12_isDigit_16 : decode cX12_isDigit 16 = .ok (.iconst 0, 1) := bdX12_isDigit_0.2.2.2.2.2.2.2.2.1
theorem dX12_isDigit_17 : decode cX12_isDigit 17 = .ok (.ireturn, 1) := bdX12_isDigit_0.2.2.2.2.2.2.2.2.2
theorem bdX12_isMark_0 : (decode cX12_isMark 0 = .ok (.iload_n 0, 1)) ∧ (decode cX12_isMark 1 = .ok (.bipush 59, 2)) ∧ (decode cX12_isMark 3 = .ok (.if_icmp .eq 51, 3)) ∧ (decode cX12_isMark 6 = .ok (.iload_n 0, 1)) ∧ (decode cX12_isMark 7 = .ok (.bipush 40, 2)) ∧ (decode cX12_isMark 9 = .ok (.if_icmp .eq 45, 3)) ∧ (decode cX12_isMark 12 = .ok (.iload_n 0, 1)) ∧ (decode cX12_isMark 13 = .ok (.bipush 41, 2)) ∧ (decode cX12_isMark 15 = .ok (.if_icmp .eq 39, 3)) ∧ (decode cX12_isMark 18 = .ok (.iload_n 0, 1)) := by decide +kernel
theorem dX12_isMark_0 : decode cX12_isMark 0 = .ok (.iload_n 0, 1) := bdX12_isMark_0.1
theorem dX12_isMark_1 : decode cX12_isMark 1 = .ok (.bipush 59, 2) := bdX12_isMark_0.2.1
theorem dX12_isMark_3 : decode cX12_isMark 3 = .ok (.if_icmp .eq 51, 3) := bdX12_isMark_0.2.2.1
theorem dX12_isMark_6 : decode cX12_isMark 6 = .ok (.iload_n 0, 1) := bdX12_isMark_0.2.2.2.1
theorem dX12_isMark_7 : decode cX12_isMark 7 = .ok (.bipush 40, 2) := bdX12_isMark_0.2.2.2.2.1
theorem dX12_isMark_9 : decode cX12_isMark 9 = .ok (.if_icmp .eq 45, 3) := bdX12_isMark_0.2.2.2.2.2.1
theorem dX12_isMark_12 : decode cX12_isMark 12 = .ok (.iload_n 0, 1) := bdX12_isMark_0.2.2.2.2.2.2.1
theorem dX12_isMark_13 : decode cX12_isMark 13 = .ok (.bipush 41, 2) := bdX12_isMark_0.2.2.2.2.2.2.2.1
theorem dX12_isMark_15 : decode cX12_isMark 15 = .ok (.if_icmp .eq 39, 3) := bdX12_isMark_0.2.2.2.2.2.2.2.2.1
theorem dX12_isMark_18 : decode cX12_isMark 18 = .ok (.iload_n 0, 1) := bdX12_isMark_0.2.2.2.2.2.2.2.2.2
theorem bdX12_isMark_19 : (decode cX12_isMark 19 = .ok (.bipush 43, 2)) ∧ (decode cX12_isMark 21 = .ok (.if_icmp .eq 33, 3)) ∧ (decode cX12_isMark 24 = .ok (.iload_n 0, 1)) ∧ (decode cX12_isMark 25 = .ok (.bipush 45, 2)) ∧ (decode cX12_isMark 27 = .ok (.if_icmp .eq 27, 3)) ∧ (decode cX12_isMark 30 = .ok (.iload_n 0, 1)) ∧ (decode cX12_isMark 31 = .ok (.bipush 42, 2)) ∧ (decode cX12_isMark 33 = .ok (.if_icmp .eq 21, 3)) ∧ (decode cX12_isMark 36 = .ok (.iload_n 0, 1)) ∧ (decode cX12_isMark 37 = .ok (.bipush 47, 2)) := by decide +kernel
theorem dX12_isMark_19 : decode cX12_isMark 19 = .ok (.bipush 43, 2) := bdX12_isMark_19.1
theorem dX12_isMark_21 : decode cX12_isMark 21 = .ok (.if_icmp .eq 33, 3) := bdX12_isMark_19.2.1
theorem dX12_isMark_24 : decode cX12_isMark 24 = .ok (.iload_n 0, 1) := bdX12_isMark_19.2.2.1
theorem dX12_isMark_25 : decode cX12_isMark 25 = .ok (.bipush 45, 2) := bdX12_isMark_19.2.2.2.1
theorem dX12_isMark_27 : decode cX12_isMark 27 = .ok (.if_icmp .eq 27, 3) := bdX12_isMark_19.2.2.2.2.1
theorem dX12_isMark_30 : decode cX12_isMark 30 = .ok (.iload_n 0, 1) := bdX12_isMark_19.2.2.2.2.2.1
theorem dX12_isMark_31 : decode cX12_isMark 31 = .ok (.bipush 42, 2) := bdX12_isMark_19.2.2.2.2.2.2.1
theorem dX12_isMark_33 : decode cX12_isMark 33 = .ok (.if_icmp .eq 21, 3) := bdX12_isMark_19.2.2.2.2.2.2.2.1
theorem dX12_isMark_36 : decode cX12_isMark 36 = .ok (.iload_n 0, 1) := bdX12_isMark_19.2.2.2.2.2.2.2.2.1
theorem dX12_isMark_37 : decode cX12_isMark 37 = .ok (.bipush 47, 2) := bdX12_isMark_19.2.2.2.2.2.2.2.2.2
theorem bdX12_isMark_39 : (decode cX12_isMark 39 = .ok (.if_icmp .eq 15, 3)) ∧ (decode cX12_isMark 42 = .ok (.iload_n 0, 1)) ∧ (decode cX12_isMark 43 = .ok (.bipush 60, 2)) ∧ (decode cX12_isMark 45 = .ok (.if_icmp .eq 9, 3)) ∧ (decode cX12_isMark 48 = .ok (.iload_n 0, 1)) ∧ (decode cX12_isMark 49 = .ok (.bipush 61, 2)) ∧ (decode cX12_isMark 51 = .ok (.if_icmp .ne 7, 3)) ∧ (decode cX12_isMark 54 = .ok (.iconst 1, 1)) ∧ (decode cX12_isMark 55 = .ok (.goto 4, 3)) ∧ (decode cX12_isMark 58 = .ok (.iconst 0, 1)) := by decide +kernel
theorem dX12_isMark_39 : decode cX12_isMark 39 = .ok (.if_icmp .eq 15, 3) := bdX12_isMark_39.1
theorem dX12_isMark_42 : decode cX12_isMark 42 = .ok (.iload_n 0, 1) := bdX12_isMark_39.2.1
theorem dX12_isMark_43 : decode cX12_isMark 43 = .ok (.bipush 60, 2) := bdX12_isMark_39.2.2.1
theorem dX12_isMark_45 : decode cX12_isMark 45 = .ok (.if_icmp .eq 9, 3) := bdX12_isMark_39.2.2.2.1
theorem dX12_isMark_48 : decode cX12_isMark 48 = .ok (.iload_n 0, 1) := bdX12_isMark_39.2.2.2.2.1
theorem dX12_isMark_49 : decode cX12_isMark 49 = .ok (.bipush 61, 2) := bdX12_isMark_39.2.2.2.2.2.1
theorem dX12_isMark_51 : decode cX12_isMark 51 = .ok (.if_icmp .ne 7, 3) := bdX12_isMark_39.2.2.2.2.2.2.1
theorem dX12_isMark_54 : decode cX12_isMark 54 = .ok (.iconst 1, 1) := bdX12_isMark_39.2.2.2.2.2.2.2.1
theorem dX12_isMark_55 : decode cX12_isMark 55 = .ok (.goto 4, 3) := bdX12_isMark_39.2.2.2.2.2.2.2.2.1
theorem dX12_isMark_58 : decode cX12_isMark 58 = .ok (.iconst 0, 1) := bdX12_isMark_39.2.2.2.2.2.2.2.2.2
theorem bdX12_isMark_59 : (decode cX12_isMark 59 = .ok (.ireturn, 1)) := by decide +kernel
theorem dX12_isMark_59 : decode cX12_isMark 59 = .ok (.ireturn, 1) := bdX12_isMark_59
theorem bdX12_stepOn_0 : (decode cX12_stepOn 0 = .ok (.aload_n 0, 1)) ∧ (decode cX12_stepOn 1 = .ok (.aload_n 0, 1)) ∧ (decode cX12_stepOn 2 = .ok (.getfield 153, 3)) ∧ (decode cX12_stepOn 5 = .ok (.invokevirtual 156, 3)) ∧ (decode cX12_stepOn 8 = .ok (.bipush 32, 2)) ∧ (decode cX12_stepOn 10 = .ok (.if_icmp .eq 16, 3)) ∧ (decode cX12_stepOn 13 = .ok (.aload_n 0, 1)) ∧ (decode cX12_stepOn 14 = .ok (.aload_n 0, 1)) ∧ (decode cX12_stepOn 15 = .ok (.getfield 153, 3)) ∧ (decode cX12_stepOn 18 = .ok (.invokevirtual 156, 3)) := by decide +kernel
theorem dX12_stepOn_0 : decode cX12_stepOn 0 = .ok (.aload_n 0, 1) := bdX12_stepOn_0.1
theorem dX12_stepOn_1 : decode cX12_stepOn 1 = .ok (.aload_n 0, 1) := bdX12_stepOn_0.2.1
theorem dX12_stepOn_2 : decode cX12_stepOn 2 = .ok (.getfield 153, 3) := bdX12_stepOn_0.2.2.1
theorem dX12_stepOn_5 : decode cX12_stepOn 5 = .ok (.invokevirtual 156, 3) := bdX12_stepOn_0.2.2.2.1
theorem dX12_stepOn_8 : decode cX12_stepOn 8 = .ok (.bipush 32, 2) := bdX12_stepOn_0.2.2.2.2.1
theorem dX12_stepOn_10 : decode cX12_stepOn 10 = .ok (.if_icmp .eq 16, 3) := bdX12_stepOn_0.2.2.2.2.2.1
theorem dX12_stepOn_13 : decode cX12_stepOn 13 = .ok (.aload_n 0, 1) := bdX12_stepOn_0.2.2.2.2.2.2.1
theorem dX12_stepOn_14 : decode cX12_stepOn 14 = .ok (.aload_n 0, 1) := bdX12_stepOn_0.2.2.2.2.2.2.2.1
theorem dX12_stepOn_15 : decode cX12_stepOn 15 = .ok (.getfield 153, 3) := bdX12_stepOn_0.2.2.2.2.2.2.2.2.1
theorem dX12_stepOn_18 : decode cX12_stepOn 18 = .ok (.invokevirtual 156, 3) := bdX12_stepOn_0.2.2.2.2.2.2.2.2.2
theorem bdX12_stepOn_21 : (decode cX12_stepOn 21 = .ok (.bipush 10, 2)) ∧ (decode cX12_stepOn 23 = .ok (.if_icmp .ne 16, 3)) ∧ (decode cX12_stepOn 26 = .ok (.aload_n 0, 1)) ∧ (decode cX12_stepOn 27 = .ok (.dup, 1)) ∧ (decode cX12_stepOn 28 = .ok (.getfield 153, 3)) ∧ (decode cX12_stepOn 31 = .ok (.iconst 1, 1)) ∧ (decode cX12_stepOn 32 = .ok (.iadd, 1)) ∧ (decode cX12_stepOn 33 = .ok (.putfield 153, 3)) ∧ (decode cX12_stepOn 36 = .ok (.goto (-36), 3)) ∧ (decode cX12_stepOn 39 = .ok (.aload_n 0, 1)) := by decide +kernel
theorem dX12_stepOn_21 : decode cX12_stepOn 21 = .ok (.bipush 10, 2) := bdX12_stepOn_21.1
theorem dX12_stepOn_23 : decode cX12_stepOn 23 = .ok (.if_icmp .ne 16, 3) := bdX12_stepOn_21.2.1
theorem dX12_stepOn_26 : decode cX12_stepOn 26 = .ok (.aload_n 0, 1) := bdX12_stepOn_21.2.2.1
theorem dX12_stepOn_27 : decode cX12_stepOn 27 = .ok (.dup, 1) := bdX12_stepOn_21.2.2.2.1
theorem dX12_stepOn_28 : decode cX12_stepOn 28 = .ok (.getfield 153, 3) := bdX12_stepOn_21.2.2.2.2.1
theorem dX12_stepOn_31 : decode cX12_stepOn 31 = .ok (.iconst 1, 1) := bdX12_stepOn_21.2.2.2.2.2.1
theorem dX12_stepOn_32 : decode cX12_stepOn 32 = .ok (.iadd, 1) := bdX12_stepOn_21.2.2.2.2.2.2.1
theorem dX12_stepOn_33 : decode cX12_stepOn 33 = .ok (.putfield 153, 3) := bdX12_stepOn_21.2.2.2.2.2.2.2.1
theorem dX12_stepOn_36 : decode cX12_stepOn 36 = .ok (.goto (-36), 3) := bdX12_stepOn_21.2.2.2.2.2.2.2.2.1
theorem dX12_stepOn_39 : decode cX12_stepOn 39 = .ok (.aload_n 0, 1) := bdX12_stepOn_21.2.2.2.2.2.2.2.2.2
theorem bdX12_stepOn_40 : (decode cX12_stepOn 40 = .ok (.aload_n 0, 1)) ∧ (decode cX12_stepOn 41 = .ok (.getfield 153, 3)) ∧ (decode cX12_stepOn 44 = .ok (.putfield 160, 3)) ∧ (decode cX12_stepOn 47 = .ok (.aload_n 0, 1)) ∧ (decode cX12_stepOn 48 = .ok (.aload_n 0, 1)) ∧ (decode cX12_stepOn 49 = .ok (.getfield 153, 3)) ∧ (decode cX12_stepOn 52 = .ok (.invokevirtual 156, 3)) ∧ (decode cX12_stepOn 55 = .ok (.istore_n 1, 1)) ∧ (decode cX12_stepOn 56 = .ok (.iload_n 1, 1)) ∧ (decode cX12_stepOn 57 = .ok (.iconst (-1), 1)) := by decide +kernel
theorem dX12_stepOn_40 : decode cX12_stepOn 40 = .ok (.aload_n 0, 1) := bdX12_stepOn_40.1
theorem dX12_stepOn_41 : decode cX12_stepOn 41 = .ok (.getfield 153, 3) := bdX12_stepOn_40.2.1
theorem dX12_stepOn_44 : decode cX12_stepOn 44 = .ok (.putfield 160, 3) := bdX12_stepOn_40.2.2.1
theorem dX12_stepOn_47 : decode cX12_stepOn 47 = .ok (.aload_n 0, 1) := bdX12_stepOn_40.2.2.2.1
theorem dX12_stepOn_48 : decode cX12_stepOn 48 = .ok (.aload_n 0, 1) := bdX12_stepOn_40.2.2.2.2.1
theorem dX12_stepOn_49 : decode cX12_stepOn 49 = .ok (.getfield 153, 3) := bdX12_stepOn_40.2.2.2.2.2.1
theorem dX12_stepOn_52 : decode cX12_stepOn 52 = .ok (.invokevirtual 156, 3) := bdX12_stepOn_40.2.2.2.2.2.2.1
theorem dX12_stepOn_55 : decode cX12_stepOn 55 = .ok (.istore_n 1, 1) := bdX12_stepOn_40.2.2.2.2.2.2.2.1
theorem dX12_stepOn_56 : decode cX12_stepOn 56 = .ok (.iload_n 1, 1) := bdX12_stepOn_40.2.2.2.2.2.2.2.2.1
theorem dX12_stepOn_57 : decode cX12_stepOn 57 = .ok (.iconst (-1), 1) := bdX12_stepOn_40.2.2.2.2.2.2.2.2.2
theorem bdX12_stepOn_58 : (decode cX12_stepOn 58 = .ok (.if_icmp .ne 11, 3)) ∧ (decode cX12_stepOn 61 = .ok (.aload_n 0, 1)) ∧ (decode cX12_stepOn 62 = .ok (.iconst 0, 1)) ∧ (decode cX12_stepOn 63 = .ok (.putfield 163, 3)) ∧ (decode cX12_stepOn 66 = .ok (.goto 146, 3)) ∧ (decode cX12_stepOn 69 = .ok (.iload_n 1, 1)) ∧ (decode cX12_stepOn 70 = .ok (.invokestatic 166, 3)) ∧ (decode cX12_stepOn 73 = .ok (.ifCond .eq 38, 3)) ∧ (decode cX12_stepOn 76 = .ok (.aload_n 0, 1)) ∧ (decode cX12_stepOn 77 = .ok (.aload_n 0, 1)) := by decide +kernel
theorem dX12_stepOn_58 : decode cX12_stepOn 58 = .ok (.if_icmp .ne 11, 3) := bdX12_stepOn_58.1
theorem dX12_stepOn_61 : decode cX12_stepOn 61 = .ok (.aload_n 0, 1) := bdX12_stepOn_58.2.1
theorem dX12_stepOn_62 : decode cX12_stepOn 62 = .ok (.iconst 0, 1) := bdX12_stepOn_58.2.2.1
theorem dX12_stepOn_63 : decode cX12_stepOn 63 = .ok (.putfield 163, 3) := bdX12_stepOn_58.2.2.2.1
theorem dX12_stepOn_66 : decode cX12_stepOn 66 = .ok (.goto 146, 3) := bdX12_stepOn_58.2.2.2.2.1
theorem dX12_stepOn_69 : decode cX12_stepOn 69 = .ok (.iload_n 1, 1) := bdX12_stepOn_58.2.2.2.2.2.1
theorem dX12_stepOn_70 : decode cX12_stepOn 70 = .ok (.invokestatic 166, 3) := bdX12_stepOn_58.2.2.2.2.2.2.1
theorem dX12_stepOn_73 : decode cX12_stepOn 73 = .ok (.ifCond .eq 38, 3) := bdX12_stepOn_58.2.2.2.2.2.2.2.1
theorem dX12_stepOn_76 : decode cX12_stepOn 76 = .ok (.aload_n 0, 1) := bdX12_stepOn_58.2.2.2.2.2.2.2.2.1
theorem dX12_stepOn_77 : decode cX12_stepOn 77 = .ok (.aload_n 0, 1) := bdX12_stepOn_58.2.2.2.2.2.2.2.2.2
theorem bdX12_stepOn_78 : (decode cX12_stepOn 78 = .ok (.getfield 153, 3)) ∧ (decode cX12_stepOn 81 = .ok (.invokevirtual 156, 3)) ∧ (decode cX12_stepOn 84 = .ok (.invokestatic 166, 3)) ∧ (decode cX12_stepOn 87 = .ok (.ifCond .eq 16, 3)) ∧ (decode cX12_stepOn 90 = .ok (.aload_n 0, 1)) ∧ (decode cX12_stepOn 91 = .ok (.dup, 1)) ∧ (decode cX12_stepOn 92 = .ok (.getfield 153, 3)) ∧ (decode cX12_stepOn 95 = .ok (.iconst 1, 1)) ∧ (decode cX12_stepOn 96 = .ok (.iadd, 1)) ∧ (decode cX12_stepOn 97 = .ok (.putfield 153, 3)) := by decide +kernel
theorem dX12_stepOn_78 : decode cX12_stepOn 78 = .ok (.getfield 153, 3) := bdX12_stepOn_78.1
theorem dX12_stepOn_81 : decode cX12_stepOn 81 = .ok (.invokevirtual 156, 3) := bdX12_stepOn_78.2.1
theorem dX12_stepOn_84 : decode cX12_stepOn 84 = .ok (.invokestatic 166, 3) := bdX12_stepOn_78.2.2.1
theorem dX12_stepOn_87 : decode cX12_stepOn 87 = .ok (.ifCond .eq 16, 3) := bdX12_stepOn_78.2.2.2.1
theorem dX12_stepOn_90 : decode cX12_stepOn 90 = .ok (.aload_n 0, 1) := bdX12_stepOn_78.2.2.2.2.1
theorem dX12_stepOn_91 : decode cX12_stepOn 91 = .ok (.dup, 1) := bdX12_stepOn_78.2.2.2.2.2.1
theorem dX12_stepOn_92 : decode cX12_stepOn 92 = .ok (.getfield 153, 3) := bdX12_stepOn_78.2.2.2.2.2.2.1
theorem dX12_stepOn_95 : decode cX12_stepOn 95 = .ok (.iconst 1, 1) := bdX12_stepOn_78.2.2.2.2.2.2.2.1
theorem dX12_stepOn_96 : decode cX12_stepOn 96 = .ok (.iadd, 1) := bdX12_stepOn_78.2.2.2.2.2.2.2.2.1
theorem dX12_stepOn_97 : decode cX12_stepOn 97 = .ok (.putfield 153, 3) := bdX12_stepOn_78.2.2.2.2.2.2.2.2.2
theorem bdX12_stepOn_100 : (decode cX12_stepOn 100 = .ok (.goto (-24), 3)) ∧ (decode cX12_stepOn 103 = .ok (.aload_n 0, 1)) ∧ (decode cX12_stepOn 104 = .ok (.iconst 1, 1)) ∧ (decode cX12_stepOn 105 = .ok (.putfield 163, 3)) ∧ (decode cX12_stepOn 108 = .ok (.goto 104, 3)) ∧ (decode cX12_stepOn 111 = .ok (.iload_n 1, 1)) ∧ (decode cX12_stepOn 112 = .ok (.invokestatic 170, 3)) ∧ (decode cX12_stepOn 115 = .ok (.ifCond .eq 71, 3)) ∧ (decode cX12_stepOn 118 = .ok (.aload_n 0, 1)) ∧ (decode cX12_stepOn 119 = .ok (.iconst 0, 1)) := by decide +kernel
theorem dX12_stepOn_100 : decode cX12_stepOn 100 = .ok (.goto (-24), 3) := bdX12_stepOn_100.1
theorem dX12_stepOn_103 : decode cX12_stepOn 103 = .ok (.aload_n 0, 1) := bdX12_stepOn_100.2.1
theorem dX12_stepOn_104 : decode cX12_stepOn 104 = .ok (.iconst 1, 1) := bdX12_stepOn_100.2.2.1
theorem dX12_stepOn_105 : decode cX12_stepOn 105 = .ok (.putfield 163, 3) := bdX12_stepOn_100.2.2.2.1
theorem dX12_stepOn_108 : decode cX12_stepOn 108 = .ok (.goto 104, 3) := bdX12_stepOn_100.2.2.2.2.1
theorem dX12_stepOn_111 : decode cX12_stepOn 111 = .ok (.iload_n 1, 1) := bdX12_stepOn_100.2.2.2.2.2.1
theorem dX12_stepOn_112 : decode cX12_stepOn 112 = .ok (.invokestatic 170, 3) := bdX12_stepOn_100.2.2.2.2.2.2.1
theorem dX12_stepOn_115 : decode cX12_stepOn 115 = .ok (.ifCond .eq 71, 3) := bdX12_stepOn_100.2.2.2.2.2.2.2.1
theorem dX12_stepOn_118 : decode cX12_stepOn 118 = .ok (.aload_n 0, 1) := bdX12_stepOn_100.2.2.2.2.2.2.2.2.1
theorem dX12_stepOn_119 : decode cX12_stepOn 119 = .ok (.iconst 0, 1) := bdX12_stepOn_100.2.2.2.2.2.2.2.2.2
theorem bdX12_stepOn_120 : (decode cX12_stepOn 120 = .ok (.putfield 173, 3)) ∧ (decode cX12_stepOn 123 = .ok (.aload_n 0, 1)) ∧ (decode cX12_stepOn 124 = .ok (.aload_n 0, 1)) ∧ (decode cX12_stepOn 125 = .ok (.getfield 153, 3)) ∧ (decode cX12_stepOn 128 = .ok (.invokevirtual 156, 3)) ∧ (decode cX12_stepOn 131 = .ok (.invokestatic 170, 3)) ∧ (decode cX12_stepOn 134 = .ok (.ifCond .eq 44, 3)) ∧ (decode cX12_stepOn 137 = .ok (.aload_n 0, 1)) ∧ (decode cX12_stepOn 138 = .ok (.ldc 176, 2)) ∧ (decode cX12_stepOn 140 = .ok (.bipush 10, 2)) := by decide +kernel
theorem dX12_stepOn_120 : decode cX12_stepOn 120 = .ok (.putfield 173, 3) := bdX12_stepOn_120.1
theorem dX12_stepOn_123 : decode cX12_stepOn 123 = .ok (.aload_n 0, 1) := bdX12_stepOn_120.2.1
theorem dX12_stepOn_124 : decode cX12_stepOn 124 = .ok (.aload_n 0, 1) := bdX12_stepOn_120.2.2.1
theorem dX12_stepOn_125 : decode cX12_stepOn 125 = .ok (.getfield 153, 3) := bdX12_stepOn_120.2.2.2.1
theorem dX12_stepOn_128 : decode cX12_stepOn 128 = .ok (.invokevirtual 156, 3) := bdX12_stepOn_120.2.2.2.2.1
theorem dX12_stepOn_131 : decode cX12_stepOn 131 = .ok (.invokestatic 170, 3) := bdX12_stepOn_120.2.2.2.2.2.1
theorem dX12_stepOn_134 : decode cX12_stepOn 134 = .ok (.ifCond .eq 44, 3) := bdX12_stepOn_120.2.2.2.2.2.2.1
theorem dX12_stepOn_137 : decode cX12_stepOn 137 = .ok (.aload_n 0, 1) := bdX12_stepOn_120.2.2.2.2.2.2.2.1
theorem dX12_stepOn_138 : decode cX12_stepOn 138 = .ok (.ldc 176, 2) := bdX12_stepOn_120.2.2.2.2.2.2.2.2.1
theorem dX12_stepOn_140 : decode cX12_stepOn 140 = .ok (.bipush 10, 2) := bdX12_stepOn_120.2.2.2.2.2.2.2.2.2
theorem bdX12_stepOn_142 : (decode cX12_stepOn 142 = .ok (.aload_n 0, 1)) ∧ (decode cX12_stepOn 143 = .ok (.getfield 173, 3)) ∧ (decode cX12_stepOn 146 = .ok (.imul, 1)) ∧ (decode cX12_stepOn 147 = .ok (.aload_n 0, 1)) ∧ (decode cX12_stepOn 148 = .ok (.aload_n 0, 1)) ∧ (decode cX12_stepOn 149 = .ok (.getfield 153, 3)) ∧ (decode cX12_stepOn 152 = .ok (.invokevirtual 156, 3)) ∧ (decode cX12_stepOn 155 = .ok (.iadd, 1)) ∧ (decode cX12_stepOn 156 = .ok (.bipush 48, 2)) ∧ (decode cX12_stepOn 158 = .ok (.isub, 1)) := by decide +kernel
theorem dX12_stepOn_142 : decode cX12_stepOn 142 = .ok (.aload_n 0, 1) := bdX12_stepOn_142.1
theorem dX12_stepOn_143 : decode cX12_stepOn 143 = .ok (.getfield 173, 3) := bdX12_stepOn_142.2.1
theorem dX12_stepOn_146 : decode cX12_stepOn 146 = .ok (.imul, 1) := bdX12_stepOn_142.2.2.1
theorem dX12_stepOn_147 : decode cX12_stepOn 147 = .ok (.aload_n 0, 1) := bdX12_stepOn_142.2.2.2.1
theorem dX12_stepOn_148 : decode cX12_stepOn 148 = .ok (.aload_n 0, 1) := bdX12_stepOn_142.2.2.2.2.1
theorem dX12_stepOn_149 : decode cX12_stepOn 149 = .ok (.getfield 153, 3) := bdX12_stepOn_142.2.2.2.2.2.1
theorem dX12_stepOn_152 : decode cX12_stepOn 152 = .ok (.invokevirtual 156, 3) := bdX12_stepOn_142.2.2.2.2.2.2.1
theorem dX12_stepOn_155 : decode cX12_stepOn 155 = .ok (.iadd, 1) := bdX12_stepOn_142.2.2.2.2.2.2.2.1
theorem dX12_stepOn_156 : decode cX12_stepOn 156 = .ok (.bipush 48, 2) := bdX12_stepOn_142.2.2.2.2.2.2.2.2.1
theorem dX12_stepOn_158 : decode cX12_stepOn 158 = .ok (.isub, 1) := bdX12_stepOn_142.2.2.2.2.2.2.2.2.2
theorem bdX12_stepOn_159 : (decode cX12_stepOn 159 = .ok (.invokestatic 177, 3)) ∧ (decode cX12_stepOn 162 = .ok (.putfield 173, 3)) ∧ (decode cX12_stepOn 165 = .ok (.aload_n 0, 1)) ∧ (decode cX12_stepOn 166 = .ok (.dup, 1)) ∧ (decode cX12_stepOn 167 = .ok (.getfield 153, 3)) ∧ (decode cX12_stepOn 170 = .ok (.iconst 1, 1)) ∧ (decode cX12_stepOn 171 = .ok (.iadd, 1)) ∧ (decode cX12_stepOn 172 = .ok (.putfield 153, 3)) ∧ (decode cX12_stepOn 175 = .ok (.goto (-52), 3)) ∧ (decode cX12_stepOn 178 = .ok (.aload_n 0, 1)) := by decide +kernel
theorem dX12_stepOn_159 : decode cX12_stepOn 159 = .ok (.invokestatic 177, 3) := bdX12_stepOn_159.1
theorem dX12_stepOn_162 : decode cX12_stepOn 162 = .ok (.putfield 173, 3) := bdX12_stepOn_159.2.1
theorem dX12_stepOn_165 : decode cX12_stepOn 165 = .ok (.aload_n 0, 1) := bdX12_stepOn_159.2.2.1
theorem dX12_stepOn_166 : decode cX12_stepOn 166 = .ok (.dup, 1) := bdX12_stepOn_159.2.2.2.1
theorem dX12_stepOn_167 : decode cX12_stepOn 167 = .ok (.getfield 153, 3) := bdX12_stepOn_159.2.2.2.2.1
theorem dX12_stepOn_170 : decode cX12_stepOn 170 = .ok (.iconst 1, 1) := bdX12_stepOn_159.2.2.2.2.2.1
theorem dX12_stepOn_171 : decode cX12_stepOn 171 = .ok (.iadd, 1) := bdX12_stepOn_159.2.2.2.2.2.2.1
theorem dX12_stepOn_172 : decode cX12_stepOn 172 = .ok (.putfield 153, 3) := bdX12_stepOn_159.2.2.2.2.2.2.2.1
theorem dX12_stepOn_175 : decode cX12_stepOn 175 = .ok (.goto (-52), 3) := bdX12_stepOn_159.2.2.2.2.2.2.2.2.1
theorem dX12_stepOn_178 : decode cX12_stepOn 178 = .ok (.aload_n 0, 1) := bdX12_stepOn_159.2.2.2.2.2.2.2.2.2
theorem bdX12_stepOn_179 : (decode cX12_stepOn 179 = .ok (.iconst 2, 1)) ∧ (decode cX12_stepOn 180 = .ok (.putfield 163, 3)) ∧ (decode cX12_stepOn 183 = .ok (.goto 29, 3)) ∧ (decode cX12_stepOn 186 = .ok (.aload_n 0, 1)) ∧ (decode cX12_stepOn 187 = .ok (.dup, 1)) ∧ (decode cX12_stepOn 188 = .ok (.getfield 153, 3)) ∧ (decode cX12_stepOn 191 = .ok (.iconst 1, 1)) ∧ (decode cX12_stepOn 192 = .ok (.iadd, 1)) ∧ (decode cX12_stepOn 193 = .ok (.putfield 153, 3)) ∧ (decode cX12_stepOn 196 = .ok (.aload_n 0, 1)) := by decide +kernel
theorem dX12_stepOn_179 : decode cX12_stepOn 179 = .ok (.iconst 2, 1) := bdX12_stepOn_179.1
theorem dX12_stepOn_180 : decode cX12_stepOn 180 = .ok (.putfield 163, 3) := bdX12_stepOn_179.2.1
theorem dX12_stepOn_183 : decode cX12_stepOn 183 = .ok (.goto 29, 3) := bdX12_stepOn_179.2.2.1
theorem dX12_stepOn_186 : decode cX12_stepOn 186 = .ok (.aload_n 0, 1) := bdX12_stepOn_179.2.2.2.1
theorem dX12_stepOn_187 : decode cX12_stepOn 187 = .ok (.dup, 1) := bdX12_stepOn_179.2.2.2.2.1
theorem dX12_stepOn_188 : decode cX12_stepOn 188 = .ok (.getfield 153, 3) := bdX12_stepOn_179.2.2.2.2.2.1
theorem dX12_stepOn_191 : decode cX12_stepOn 191 = .ok (.iconst 1, 1) := bdX12_stepOn_179.2.2.2.2.2.2.1
theorem dX12_stepOn_192 : decode cX12_stepOn 192 = .ok (.iadd, 1) := bdX12_stepOn_179.2.2.2.2.2.2.2.1
theorem dX12_stepOn_193 : decode cX12_stepOn 193 = .ok (.putfield 153, 3) := bdX12_stepOn_179.2.2.2.2.2.2.2.2.1
theorem dX12_stepOn_196 : decode cX12_stepOn 196 = .ok (.aload_n 0, 1) := bdX12_stepOn_179.2.2.2.2.2.2.2.2.2
theorem bdX12_stepOn_197 : (decode cX12_stepOn 197 = .ok (.iload_n 1, 1)) ∧ (decode cX12_stepOn 198 = .ok (.invokestatic 183, 3)) ∧ (decode cX12_stepOn 201 = .ok (.ifCond .eq 7, 3)) ∧ (decode cX12_stepOn 204 = .ok (.iconst 3, 1)) ∧ (decode cX12_stepOn 205 = .ok (.goto 4, 3)) ∧ (decode cX12_stepOn 208 = .ok (.iconst 4, 1)) ∧ (decode cX12_stepOn 209 = .ok (.putfield 163, 3)) ∧ (decode cX12_stepOn 212 = .ok (.aload_n 0, 1)) ∧ (decode cX12_stepOn 213 = .ok (.aload_n 0, 1)) ∧ (decode cX12_stepOn 214 = .ok (.getfield 153, 3)) := by decide +kernel
theorem dX12_stepOn_197 : decode cX12_stepOn 197 = .ok (.iload_n 1, 1) := bdX12_stepOn_197.1
theorem dX12_stepOn_198 : decode cX12_stepOn 198 = .ok (.invokestatic 183, 3) := bdX12_stepOn_197.2.1
theorem dX12_stepOn_201 : decode cX12_stepOn 201 = .ok (.ifCond .eq 7, 3) := bdX12_stepOn_197.2.2.1
theorem dX12_stepOn_204 : decode cX12_stepOn 204 = .ok (.iconst 3, 1) := bdX12_stepOn_197.2.2.2.1
theorem dX12_stepOn_205 : decode cX12_stepOn 205 = .ok (.goto 4, 3) := bdX12_stepOn_197.2.2.2.2.1
theorem dX12_stepOn_208 : decode cX12_stepOn 208 = .ok (.iconst 4, 1) := bdX12_stepOn_197.2.2.2.2.2.1
theorem dX12_stepOn_209 : decode cX12_stepOn 209 = .ok (.putfield 163, 3) := bdX12_stepOn_197.2.2.2.2.2.2.1
theorem dX12_stepOn_212 : decode cX12_stepOn 212 = .ok (.aload_n 0, 1) := bdX12_stepOn_197.2.2.2.2.2.2.2.1
theorem dX12_stepOn_213 : decode cX12_stepOn 213 = .ok (.aload_n 0, 1) := bdX12_stepOn_197.2.2.2.2.2.2.2.2.1
theorem dX12_stepOn_214 : decode cX12_stepOn 214 = .ok (.getfield 153, 3) := bdX12_stepOn_197.2.2.2.2.2.2.2.2.2
theorem bdX12_stepOn_217 : (decode cX12_stepOn 217 = .ok (.putfield 186, 3)) ∧ (decode cX12_stepOn 220 = .ok (.return_, 1)) := by decide +kernel
theorem dX12_stepOn_217 : decode cX12_stepOn 217 = .ok (.putfield 186, 3) := bdX12_stepOn_217.1
theorem dX12_stepOn_220 : decode cX12_stepOn 220 = .ok (.return_, 1) := bdX12_stepOn_217.2
theorem bdX12_wrong_0 : (decode cX12_wrong 0 = .ok (.aload_n 0, 1)) ∧ (decode cX12_wrong 1 = .ok (.getfield 189, 3)) ∧ (decode cX12_wrong 4 = .ok (.ifCond .eq 4, 3)) ∧ (decode cX12_wrong 7 = .ok (.return_, 1)) ∧ (decode cX12_wrong 8 = .ok (.aload_n 0, 1)) ∧ (decode cX12_wrong 9 = .ok (.iload_n 1, 1)) ∧ (decode cX12_wrong 10 = .ok (.putfield 189, 3)) ∧ (decode cX12_wrong 13 = .ok (.aload_n 0, 1)) ∧ (decode cX12_wrong 14 = .ok (.aload_n 0, 1)) ∧ (decode cX12_wrong 15 = .ok (.getfield 160, 3)) := by decide +kernel
theorem dX12_wrong_0 : decode cX12_wrong 0 = .ok (.aload_n 0, 1) := bdX12_wrong_0.1
theorem dX12_wrong_1 : decode cX12_wrong 1 = .ok (.getfield 189, 3) := bdX12_wrong_0.2.1
theorem dX12_wrong_4 : decode cX12_wrong 4 = .ok (.ifCond .eq 4, 3) := bdX12_wrong_0.2.2.1
theorem dX12_wrong_7 : decode cX12_wrong 7 = .ok (.return_, 1) := bdX12_wrong_0.2.2.2.1
theorem dX12_wrong_8 : decode cX12_wrong 8 = .ok (.aload_n 0, 1) := bdX12_wrong_0.2.2.2.2.1
theorem dX12_wrong_9 : decode cX12_wrong 9 = .ok (.iload_n 1, 1) := bdX12_wrong_0.2.2.2.2.2.1
theorem dX12_wrong_10 : decode cX12_wrong 10 = .ok (.putfield 189, 3) := bdX12_wrong_0.2.2.2.2.2.2.1
theorem dX12_wrong_13 : decode cX12_wrong 13 = .ok (.aload_n 0, 1) := bdX12_wrong_0.2.2.2.2.2.2.2.1
theorem dX12_wrong_14 : decode cX12_wrong 14 = .ok (.aload_n 0, 1) := bdX12_wrong_0.2.2.2.2.2.2.2.2.1
theorem dX12_wrong_15 : decode cX12_wrong 15 = .ok (.getfield 160, 3) := bdX12_wrong_0.2.2.2.2.2.2.2.2.2
theorem bdX12_wrong_18 : (decode cX12_wrong 18 = .ok (.putfield 192, 3)) ∧ (decode cX12_wrong 21 = .ok (.return_, 1)) := by decide +kernel
theorem dX12_wrong_18 : decode cX12_wrong 18 = .ok (.putfield 192, 3) := bdX12_wrong_18.1
theorem dX12_wrong_21 : decode cX12_wrong 21 = .ok (.return_, 1) := bdX12_wrong_18.2
theorem bdX12_is_0 : (decode cX12_is 0 = .ok (.aload_n 0, 1)) ∧ (decode cX12_is 1 = .ok (.getfield 189, 3)) ∧ (decode cX12_is 4 = .ok (.ifCond .ne 31, 3)) ∧ (decode cX12_is 7 = .ok (.aload_n 0, 1)) ∧ (decode cX12_is 8 = .ok (.getfield 163, 3)) ∧ (decode cX12_is 11 = .ok (.iconst 1, 1)) ∧ (decode cX12_is 12 = .ok (.if_icmp .ne 23, 3)) ∧ (decode cX12_is 15 = .ok (.aload_n 1, 1)) ∧ (decode cX12_is 16 = .ok (.invokevirtual 195, 3)) ∧ (decode cX12_is 19 = .ok (.aload_n 0, 1)) := by decide +kernel
theorem dX12_is_0 : decode cX12_is 0 = .ok (.aload_n 0, 1) := bdX12_is_0.1
theorem dX12_is_1 : decode cX12_is 1 = .ok (.getfield 189, 3) := bdX12_is_0.2.1
theorem dX12_is_4 : decode cX12_is 4 = .ok (.ifCond .ne 31, 3) := bdX12_is_0.2.2.1
theorem dX12_is_7 : decode cX12_is 7 = .ok (.aload_n 0, 1) := bdX12_is_0.2.2.2.1
theorem dX12_is_8 : decode cX12_is 8 = .ok (.getfield 163, 3) := bdX12_is_0.2.2.2.2.1
theorem dX12_is_11 : decode cX12_is 11 = .ok (.iconst 1, 1) := bdX12_is_0.2.2.2.2.2.1
theorem dX12_is_12 : decode cX12_is 12 = .ok (.if_icmp .ne 23, 3) := bdX12_is_0.2.2.2.2.2.2.1
theorem dX12_is_15 : decode cX12_is 15 = .ok (.aload_n 1, 1) := bdX12_is_0.2.2.2.2.2.2.2.1
theorem dX12_is_16 : decode cX12_is 16 = .ok (.invokevirtual 195, 3) := bdX12_is_0.2.2.2.2.2.2.2.2.1
theorem dX12_is_19 : decode cX12_is 19 = .ok (.aload_n 0, 1) := bdX12_is_0.2.2.2.2.2.2.2.2.2
theorem bdX12_is_20 : (decode cX12_is 20 = .ok (.getfield 186, 3)) ∧ (decode cX12_is 23 = .ok (.aload_n 0, 1)) ∧ (decode cX12_is 24 = .ok (.getfield 160, 3)) ∧ (decode cX12_is 27 = .ok (.isub, 1)) ∧ (decode cX12_is 28 = .ok (.if_icmp .ne 7, 3)) ∧ (decode cX12_is 31 = .ok (.iconst 1, 1)) ∧ (decode cX12_is 32 = .ok (.goto 4, 3)) ∧ (decode cX12_is 35 = .ok (.iconst 0, 1)) ∧ (decode cX12_is 36 = .ok (.istore_n 2, 1)) ∧ (decode cX12_is 37 = .ok (.iconst 0, 1)) := by decide +kernel
theorem dX12_is_20 : decode cX12_is 20 = .ok (.getfield 186, 3) := bdX12_is_20.1
theorem dX12_is_23 : decode cX12_is 23 = .ok (.aload_n 0, 1) := bdX12_is_20.2.1
theorem dX12_is_24 : decode cX12_is 24 = .ok (.getfield 160, 3) := bdX12_is_20.2.2.1
theorem dX12_is_27 : decode cX12_is 27 = .ok (.isub, 1) := bdX12_is_20.2.2.2.1
theorem dX12_is_28 : decode cX12_is 28 = .ok (.if_icmp .ne 7, 3) := bdX12_is_20.2.2.2.2.1
theorem dX12_is_31 : decode cX12_is 31 = .ok (.iconst 1, 1) := bdX12_is_20.2.2.2.2.2.1
theorem dX12_is_32 : decode cX12_is 32 = .ok (.goto 4, 3) := bdX12_is_20.2.2.2.2.2.2.1
theorem dX12_is_35 : decode cX12_is 35 = .ok (.iconst 0, 1) := bdX12_is_20.2.2.2.2.2.2.2.1
theorem dX12_is_36 : decode cX12_is 36 = .ok (.istore_n 2, 1) := bdX12_is_20.2.2.2.2.2.2.2.2.1
theorem dX12_is_37 : decode cX12_is 37 = .ok (.iconst 0, 1) := bdX12_is_20.2.2.2.2.2.2.2.2.2
theorem bdX12_is_38 : (decode cX12_is 38 = .ok (.istore_n 3, 1)) ∧ (decode cX12_is 39 = .ok (.iload_n 2, 1)) ∧ (decode cX12_is 40 = .ok (.ifCond .eq 42, 3)) ∧ (decode cX12_is 43 = .ok (.iload_n 3, 1)) ∧ (decode cX12_is 44 = .ok (.aload_n 1, 1)) ∧ (decode cX12_is 45 = .ok (.invokevirtual 195, 3)) ∧ (decode cX12_is 48 = .ok (.if_icmp .ge 34, 3)) ∧ (decode cX12_is 51 = .ok (.aload_n 1, 1)) ∧ (decode cX12_is 52 = .ok (.iload_n 3, 1)) ∧ (decode cX12_is 53 = .ok (.invokevirtual 199, 3)) := by decide +kernel
theorem dX12_is_38 : decode cX12_is 38 = .ok (.istore_n 3, 1) := bdX12_is_38.1
theorem dX12_is_39 : decode cX12_is 39 = .ok (.iload_n 2, 1) := bdX12_is_38.2.1
theorem dX12_is_40 : decode cX12_is 40 = .ok (.ifCond .eq 42, 3) := bdX12_is_38.2.2.1
theorem dX12_is_43 : decode cX12_is 43 = .ok (.iload_n 3, 1) := bdX12_is_38.2.2.2.1
theorem dX12_is_44 : decode cX12_is 44 = .ok (.aload_n 1, 1) := bdX12_is_38.2.2.2.2.1
theorem dX12_is_45 : decode cX12_is 45 = .ok (.invokevirtual 195, 3) := bdX12_is_38.2.2.2.2.2.1
theorem dX12_is_48 : decode cX12_is 48 = .ok (.if_icmp .ge 34, 3) := bdX12_is_38.2.2.2.2.2.2.1
theorem dX12_is_51 : decode cX12_is 51 = .ok (.aload_n 1, 1) := bdX12_is_38.2.2.2.2.2.2.2.1
theorem dX12_is_52 : decode cX12_is 52 = .ok (.iload_n 3, 1) := bdX12_is_38.2.2.2.2.2.2.2.2.1
theorem dX12_is_53 : decode cX12_is 53 = .ok (.invokevirtual 199, 3) := bdX12_is_38.2.2.2.2.2.2.2.2.2
theorem bdX12_is_56 : (decode cX12_is 56 = .ok (.aload_n 0, 1)) ∧ (decode cX12_is 57 = .ok (.getfield 66, 3)) ∧ (decode cX12_is 60 = .ok (.aload_n 0, 1)) ∧ (decode cX12_is 61 = .ok (.getfield 160, 3)) ∧ (decode cX12_is 64 = .ok (.iload_n 3, 1)) ∧ (decode cX12_is 65 = .ok (.iadd, 1)) ∧ (decode cX12_is 66 = .ok (.iaload, 1)) ∧ (decode cX12_is 67 = .ok (.if_icmp .ne 7, 3)) ∧ (decode cX12_is 70 = .ok (.iconst 1, 1)) ∧ (decode cX12_is 71 = .ok (.goto 4, 3)) := by decide +kernel
theorem dX12_is_56 : decode cX12_is 56 = .ok (.aload_n 0, 1) := bdX12_is_56.1
theorem dX12_is_57 : decode cX12_is 57 = .ok (.getfield 66, 3) := bdX12_is_56.2.1
theorem dX12_is_60 : decode cX12_is 60 = .ok (.aload_n 0, 1) := bdX12_is_56.2.2.1
theorem dX12_is_61 : decode cX12_is 61 = .ok (.getfield 160, 3) := bdX12_is_56.2.2.2.1
theorem dX12_is_64 : decode cX12_is 64 = .ok (.iload_n 3, 1) := bdX12_is_56.2.2.2.2.1
theorem dX12_is_65 : decode cX12_is 65 = .ok (.iadd, 1) := bdX12_is_56.2.2.2.2.2.1
theorem dX12_is_66 : decode cX12_is 66 = .ok (.iaload, 1) := bdX12_is_56.2.2.2.2.2.2.1
theorem dX12_is_67 : decode cX12_is 67 = .ok (.if_icmp .ne 7, 3) := bdX12_is_56.2.2.2.2.2.2.2.1
theorem dX12_is_70 : decode cX12_is 70 = .ok (.iconst 1, 1) := bdX12_is_56.2.2.2.2.2.2.2.2.1
theorem dX12_is_71 : decode cX12_is 71 = .ok (.goto 4, 3) := bdX12_is_56.2.2.2.2.2.2.2.2.2
theorem bdX12_is_74 : (decode cX12_is 74 = .ok (.iconst 0, 1)) ∧ (decode cX12_is 75 = .ok (.istore_n 2, 1)) ∧ (decode cX12_is 76 = .ok (.iinc 3 1, 3)) ∧ (decode cX12_is 79 = .ok (.goto (-40), 3)) ∧ (decode cX12_is 82 = .ok (.iload_n 2, 1)) ∧ (decode cX12_is 83 = .ok (.ireturn, 1)) := by decide +kernel
theorem dX12_is_74 : decode cX12_is 74 = .ok (.iconst 0, 1) := bdX12_is_74.1
theorem dX12_is_75 : decode cX12_is 75 = .ok (.istore_n 2, 1) := bdX12_is_74.2.1
theorem dX12_is_76 : decode cX12_is 76 = .ok (.iinc 3 1, 3) := bdX12_is_74.2.2.1
theorem dX12_is_79 : decode cX12_is 79 = .ok (.goto (-40), 3) := bdX12_is_74.2.2.2.1
theorem dX12_is_82 : decode cX12_is 82 = .ok (.iload_n 2, 1) := bdX12_is_74.2.2.2.2.1
theorem dX12_is_83 : decode cX12_is 83 = .ok (.ireturn, 1) := bdX12_is_74.2.2.2.2.2
theorem bdX12_which_0 : (decode cX12_which 0 = .ok (.iconst 0, 1)) ∧ (decode cX12_which 1 = .ok (.istore_n 2, 1)) ∧ (decode cX12_which 2 = .ok (.iload_n 2, 1)) ∧ (decode cX12_which 3 = .ok (.aload_n 1, 1)) ∧ (decode cX12_which 4 = .ok (.arraylength, 1)) ∧ (decode cX12_which 5 = .ok (.if_icmp .ge 21, 3)) ∧ (decode cX12_which 8 = .ok (.aload_n 0, 1)) ∧ (decode cX12_which 9 = .ok (.aload_n 1, 1)) ∧ (decode cX12_which 10 = .ok (.iload_n 2, 1)) ∧ (decode cX12_which 11 = .ok (.aaload, 1)) := by decide +kernel
theorem dX12_which_0 : decode cX12_which 0 = .ok (.iconst 0, 1) := bdX12_which_0.1
theorem dX12_which_1 : decode cX12_which 1 = .ok (.istore_n 2, 1) := bdX12_which_0.2.1
theorem dX12_which_2 : decode cX12_which 2 = .ok (.iload_n 2, 1) := bdX12_which_0.2.2.1
theorem dX12_which_3 : decode cX12_which 3 = .ok (.aload_n 1, 1) := bdX12_which_0.2.2.2.1
theorem dX12_which_4 : decode cX12_which 4 = .ok (.arraylength, 1) := bdX12_which_0.2.2.2.2.1
theorem dX12_which_5 : decode cX12_which 5 = .ok (.if_icmp .ge 21, 3) := bdX12_which_0.2.2.2.2.2.1
theorem dX12_which_8 : decode cX12_which 8 = .ok (.aload_n 0, 1) := bdX12_which_0.2.2.2.2.2.2.1
theorem dX12_which_9 : decode cX12_which 9 = .ok (.aload_n 1, 1) := bdX12_which_0.2.2.2.2.2.2.2.1
theorem dX12_which_10 : decode cX12_which 10 = .ok (.iload_n 2, 1) := bdX12_which_0.2.2.2.2.2.2.2.2.1
theorem dX12_which_11 : decode cX12_which 11 = .ok (.aaload, 1) := bdX12_which_0.2.2.2.2.2.2.2.2.2
theorem bdX12_which_12 : (decode cX12_which 12 = .ok (.invokevirtual 203, 3)) ∧ (decode cX12_which 15 = .ok (.ifCond .eq 5, 3)) ∧ (decode cX12_which 18 = .ok (.iload_n 2, 1)) ∧ (decode cX12_which 19 = .ok (.ireturn, 1)) ∧ (decode cX12_which 20 = .ok (.iinc 2 1, 3)) ∧ (decode cX12_which 23 = .ok (.goto (-21), 3)) ∧ (decode cX12_which 26 = .ok (.iconst (-1), 1)) ∧ (decode cX12_which 27 = .ok (.ireturn, 1)) := by decide +kernel
theorem dX12_which_12 : decode cX12_which 12 = .ok (.invokevirtual 203, 3) := bdX12_which_12.1
theorem dX12_which_15 : decode cX12_which 15 = .ok (.ifCond .eq 5, 3) := bdX12_which_12.2.1
theorem dX12_which_18 : decode cX12_which 18 = .ok (.iload_n 2, 1) := bdX12_which_12.2.2.1
theorem dX12_which_19 : decode cX12_which 19 = .ok (.ireturn, 1) := bdX12_which_12.2.2.2.1
theorem dX12_which_20 : decode cX12_which 20 = .ok (.iinc 2 1, 3) := bdX12_which_12.2.2.2.2.1
theorem dX12_which_23 : decode cX12_which 23 = .ok (.goto (-21), 3) := bdX12_which_12.2.2.2.2.2.1
theorem dX12_which_26 : decode cX12_which 26 = .ok (.iconst (-1), 1) := bdX12_which_12.2.2.2.2.2.2.1
theorem dX12_which_27 : decode cX12_which 27 = .ok (.ireturn, 1) := bdX12_which_12.2.2.2.2.2.2.2
theorem bdX12_isMarked_0 : (decode cX12_isMarked 0 = .ok (.aload_n 0, 1)) ∧ (decode cX12_isMarked 1 = .ok (.getfield 189, 3)) ∧ (decode cX12_isMarked 4 = .ok (.ifCond .ne 28, 3)) ∧ (decode cX12_isMarked 7 = .ok (.aload_n 0, 1)) ∧ (decode cX12_isMarked 8 = .ok (.getfield 163, 3)) ∧ (decode cX12_isMarked 11 = .ok (.iconst 3, 1)) ∧ (decode cX12_isMarked 12 = .ok (.if_icmp .ne 20, 3)) ∧ (decode cX12_isMarked 15 = .ok (.aload_n 0, 1)) ∧ (decode cX12_isMarked 16 = .ok (.getfield 66, 3)) ∧ (decode cX12_isMarked 19 = .ok (.aload_n 0, 1)) := by decide +kernel
theorem dX12_isMarked_0 : decode cX12_isMarked 0 = .ok (.aload_n 0, 1) := bdX12_isMarked_0.1
theorem dX12_isMarked_1 : decode cX12_isMarked 1 = .ok (.getfield 189, 3) := bdX12_isMarked_0.2.1
theorem dX12_isMarked_4 : decode cX12_isMarked 4 = .ok (.ifCond .ne 28, 3) := bdX12_isMarked_0.2.2.1
theorem dX12_isMarked_7 : decode cX12_isMarked 7 = .ok (.aload_n 0, 1) := bdX12_isMarked_0.2.2.2.1
theorem dX12_isMarked_8 : decode cX12_isMarked 8 = .ok (.getfield 163, 3) := bdX12_isMarked_0.2.2.2.2.1
theorem dX12_isMarked_11 : decode cX12_isMarked 11 = .ok (.iconst 3, 1) := bdX12_isMarked_0.2.2.2.2.2.1
theorem dX12_isMarked_12 : decode cX12_isMarked 12 = .ok (.if_icmp .ne 20, 3) := bdX12_isMarked_0.2.2.2.2.2.2.1
theorem dX12_isMarked_15 : decode cX12_isMarked 15 = .ok (.aload_n 0, 1) := bdX12_isMarked_0.2.2.2.2.2.2.2.1
theorem dX12_isMarked_16 : decode cX12_isMarked 16 = .ok (.getfield 66, 3) := bdX12_isMarked_0.2.2.2.2.2.2.2.2.1
theorem dX12_isMarked_19 : decode cX12_isMarked 19 = .ok (.aload_n 0, 1) := bdX12_isMarked_0.2.2.2.2.2.2.2.2.2
theorem bdX12_isMarked_20 : (decode cX12_isMarked 20 = .ok (.getfield 160, 3)) ∧ (decode cX12_isMarked 23 = .ok (.iaload, 1)) ∧ (decode cX12_isMarked 24 = .ok (.iload_n 1, 1)) ∧ (decode cX12_isMarked 25 = .ok (.if_icmp .ne 7, 3)) ∧ (decode cX12_isMarked 28 = .ok (.iconst 1, 1)) ∧ (decode cX12_isMarked 29 = .ok (.goto 4, 3)) ∧ (decode cX12_isMarked 32 = .ok (.iconst 0, 1)) ∧ (decode cX12_isMarked 33 = .ok (.ireturn, 1)) := by decide +kernel
theorem dX12_isMarked_20 : decode cX12_isMarked 20 = .ok (.getfield 160, 3) := bdX12_isMarked_20.1
theorem dX12_isMarked_23 : decode cX12_isMarked 23 = .ok (.iaload, 1) := bdX12_isMarked_20.2.1
theorem dX12_isMarked_24 : decode cX12_isMarked 24 = .ok (.iload_n 1, 1) := bdX12_isMarked_20.2.2.1
theorem dX12_isMarked_25 : decode cX12_isMarked 25 = .ok (.if_icmp .ne 7, 3) := bdX12_isMarked_20.2.2.2.1
theorem dX12_isMarked_28 : decode cX12_isMarked 28 = .ok (.iconst 1, 1) := bdX12_isMarked_20.2.2.2.2.1
theorem dX12_isMarked_29 : decode cX12_isMarked 29 = .ok (.goto 4, 3) := bdX12_isMarked_20.2.2.2.2.2.1
theorem dX12_isMarked_32 : decode cX12_isMarked 32 = .ok (.iconst 0, 1) := bdX12_isMarked_20.2.2.2.2.2.2.1
theorem dX12_isMarked_33 : decode cX12_isMarked 33 = .ok (.ireturn, 1) := bdX12_isMarked_20.2.2.2.2.2.2.2
theorem bdX12_mark_0 : (decode cX12_mark 0 = .ok (.aload_n 0, 1)) ∧ (decode cX12_mark 1 = .ok (.getfield 189, 3)) ∧ (decode cX12_mark 4 = .ok (.ifCond .ne 16, 3)) ∧ (decode cX12_mark 7 = .ok (.aload_n 0, 1)) ∧ (decode cX12_mark 8 = .ok (.iload_n 1, 1)) ∧ (decode cX12_mark 9 = .ok (.invokevirtual 207, 3)) ∧ (decode cX12_mark 12 = .ok (.ifCond .ne 8, 3)) ∧ (decode cX12_mark 15 = .ok (.aload_n 0, 1)) ∧ (decode cX12_mark 16 = .ok (.iconst 1, 1)) ∧ (decode cX12_mark 17 = .ok (.invokevirtual 210, 3)) := by decide +kernel
theorem dX12_mark_0 : decode cX12_mark 0 = .ok (.aload_n 0, 1) := bdX12_mark_0.1
theorem dX12_mark_1 : decode cX12_mark 1 = .ok (.getfield 189, 3) := bdX12_mark_0.2.1
theorem dX12_mark_4 : decode cX12_mark 4 = .ok (.ifCond .ne 16, 3) := bdX12_mark_0.2.2.1
theorem dX12_mark_7 : decode cX12_mark 7 = .ok (.aload_n 0, 1) := bdX12_mark_0.2.2.2.1
theorem dX12_mark_8 : decode cX12_mark 8 = .ok (.iload_n 1, 1) := bdX12_mark_0.2.2.2.2.1
theorem dX12_mark_9 : decode cX12_mark 9 = .ok (.invokevirtual 207, 3) := bdX12_mark_0.2.2.2.2.2.1
theorem dX12_mark_12 : decode cX12_mark 12 = .ok (.ifCond .ne 8, 3) := bdX12_mark_0.2.2.2.2.2.2.1
theorem dX12_mark_15 : decode cX12_mark 15 = .ok (.aload_n 0, 1) := bdX12_mark_0.2.2.2.2.2.2.2.1
theorem dX12_mark_16 : decode cX12_mark 16 = .ok (.iconst 1, 1) := bdX12_mark_0.2.2.2.2.2.2.2.2.1
theorem dX12_mark_17 : decode cX12_mark 17 = .ok (.invokevirtual 210, 3) := bdX12_mark_0.2.2.2.2.2.2.2.2.2
theorem bdX12_mark_20 : (decode cX12_mark 20 = .ok (.aload_n 0, 1)) ∧ (decode cX12_mark 21 = .ok (.getfield 189, 3)) ∧ (decode cX12_mark 24 = .ok (.ifCond .ne 7, 3)) ∧ (decode cX12_mark 27 = .ok (.aload_n 0, 1)) ∧ (decode cX12_mark 28 = .ok (.invokevirtual 214, 3)) ∧ (decode cX12_mark 31 = .ok (.return_, 1)) := by decide +kernel
theorem dX12_mark_20 : decode cX12_mark 20 = .ok (.aload_n 0, 1) := bdX12_mark_20.1
theorem dX12_mark_21 : decode cX12_mark 21 = .ok (.getfield 189, 3) := bdX12_mark_20.2.1
theorem dX12_mark_24 : decode cX12_mark 24 = .ok (.ifCond .ne 7, 3) := bdX12_mark_20.2.2.1
theorem dX12_mark_27 : decode cX12_mark 27 = .ok (.aload_n 0, 1) := bdX12_mark_20.2.2.2.1
theorem dX12_mark_28 : decode cX12_mark 28 = .ok (.invokevirtual 214, 3) := bdX12_mark_20.2.2.2.2.1
theorem dX12_mark_31 : decode cX12_mark 31 = .ok (.return_, 1) := bdX12_mark_20.2.2.2.2.2
theorem bdX12_numberNow_0 : (decode cX12_numberNow 0 = .ok (.aload_n 0, 1)) ∧ (decode cX12_numberNow 1 = .ok (.getfield 189, 3)) ∧ (decode cX12_numberNow 4 = .ok (.ifCond .eq 5, 3)) ∧ (decode cX12_numberNow 7 = .ok (.iconst 0, 1)) ∧ (decode cX12_numberNow 8 = .ok (.ireturn, 1)) ∧ (decode cX12_numberNow 9 = .ok (.aload_n 0, 1)) ∧ (decode cX12_numberNow 10 = .ok (.getfield 163, 3)) ∧ (decode cX12_numberNow 13 = .ok (.iconst 2, 1)) ∧ (decode cX12_numberNow 14 = .ok (.if_icmp .eq 11, 3)) ∧ (decode cX12_numberNow 17 = .ok (.aload_n 0, 1)) := by decide +kernel
theorem dX12_numberNow_0 : decode cX12_numberNow 0 = .ok (.aload_n 0, 1) := bdX12_numberNow_0.1
theorem dX12_numberNow_1 : decode cX12_numberNow 1 = .ok (.getfield 189, 3) := bdX12_numberNow_0.2.1
theorem dX12_numberNow_4 : decode cX12_numberNow 4 = .ok (.ifCond .eq 5, 3) := bdX12_numberNow_0.2.2.1
theorem dX12_numberNow_7 : decode cX12_numberNow 7 = .ok (.iconst 0, 1) := bdX12_numberNow_0.2.2.2.1
theorem dX12_numberNow_8 : decode cX12_numberNow 8 = .ok (.ireturn, 1) := bdX12_numberNow_0.2.2.2.2.1
theorem dX12_numberNow_9 : decode cX12_numberNow 9 = .ok (.aload_n 0, 1) := bdX12_numberNow_0.2.2.2.2.2.1
theorem dX12_numberNow_10 : decode cX12_numberNow 10 = .ok (.getfield 163, 3) := bdX12_numberNow_0.2.2.2.2.2.2.1
theorem dX12_numberNow_13 : decode cX12_numberNow 13 = .ok (.iconst 2, 1) := bdX12_numberNow_0.2.2.2.2.2.2.2.1
theorem dX12_numberNow_14 : decode cX12_numberNow 14 = .ok (.if_icmp .eq 11, 3) := bdX12_numberNow_0.2.2.2.2.2.2.2.2.1
theorem dX12_numberNow_17 : decode cX12_numberNow 17 = .ok (.aload_n 0, 1) := bdX12_numberNow_0.2.2.2.2.2.2.2.2.2
theorem bdX12_numberNow_18 : (decode cX12_numberNow 18 = .ok (.iconst 1, 1)) ∧ (decode cX12_numberNow 19 = .ok (.invokevirtual 210, 3)) ∧ (decode cX12_numberNow 22 = .ok (.goto 37, 3)) ∧ (decode cX12_numberNow 25 = .ok (.aload_n 0, 1)) ∧ (decode cX12_numberNow 26 = .ok (.getfield 186, 3)) ∧ (decode cX12_numberNow 29 = .ok (.aload_n 0, 1)) ∧ (decode cX12_numberNow 30 = .ok (.getfield 160, 3)) ∧ (decode cX12_numberNow 33 = .ok (.isub, 1)) ∧ (decode cX12_numberNow 34 = .ok (.iconst 4, 1)) ∧ (decode cX12_numberNow 35 = .ok (.if_icmp .gt 19, 3)) := by decide +kernel
theorem dX12_numberNow_18 : decode cX12_numberNow 18 = .ok (.iconst 1, 1) := bdX12_numberNow_18.1
theorem dX12_numberNow_19 : decode cX12_numberNow 19 = .ok (.invokevirtual 210, 3) := bdX12_numberNow_18.2.1
theorem dX12_numberNow_22 : decode cX12_numberNow 22 = .ok (.goto 37, 3) := bdX12_numberNow_18.2.2.1
theorem dX12_numberNow_25 : decode cX12_numberNow 25 = .ok (.aload_n 0, 1) := bdX12_numberNow_18.2.2.2.1
theorem dX12_numberNow_26 : decode cX12_numberNow 26 = .ok (.getfield 186, 3) := bdX12_numberNow_18.2.2.2.2.1
theorem dX12_numberNow_29 : decode cX12_numberNow 29 = .ok (.aload_n 0, 1) := bdX12_numberNow_18.2.2.2.2.2.1
theorem dX12_numberNow_30 : decode cX12_numberNow 30 = .ok (.getfield 160, 3) := bdX12_numberNow_18.2.2.2.2.2.2.1
theorem dX12_numberNow_33 : decode cX12_numberNow 33 = .ok (.isub, 1) := bdX12_numberNow_18.2.2.2.2.2.2.2.1
theorem dX12_numberNow_34 : decode cX12_numberNow 34 = .ok (.iconst 4, 1) := bdX12_numberNow_18.2.2.2.2.2.2.2.2.1
theorem dX12_numberNow_35 : decode cX12_numberNow 35 = .ok (.if_icmp .gt 19, 3) := bdX12_numberNow_18.2.2.2.2.2.2.2.2.2
theorem bdX12_numberNow_38 : (decode cX12_numberNow 38 = .ok (.aload_n 0, 1)) ∧ (decode cX12_numberNow 39 = .ok (.getfield 173, 3)) ∧ (decode cX12_numberNow 42 = .ok (.iload_n 1, 1)) ∧ (decode cX12_numberNow 43 = .ok (.if_icmp .lt 11, 3)) ∧ (decode cX12_numberNow 46 = .ok (.aload_n 0, 1)) ∧ (decode cX12_numberNow 47 = .ok (.getfield 173, 3)) ∧ (decode cX12_numberNow 50 = .ok (.iload_n 2, 1)) ∧ (decode cX12_numberNow 51 = .ok (.if_icmp .le 8, 3)) ∧ (decode cX12_numberNow 54 = .ok (.aload_n 0, 1)) ∧ (decode cX12_numberNow 55 = .ok (.iconst 2, 1)) := by decide +kernel
theorem dX12_numberNow_38 : decode cX12_numberNow 38 = .ok (.aload_n 0, 1) := bdX12_numberNow_38.1
theorem dX12_numberNow_39 : decode cX12_numberNow 39 = .ok (.getfield 173, 3) := bdX12_numberNow_38.2.1
theorem dX12_numberNow_42 : decode cX12_numberNow 42 = .ok (.iload_n 1, 1) := bdX12_numberNow_38.2.2.1
theorem dX12_numberNow_43 : decode cX12_numberNow 43 = .ok (.if_icmp .lt 11, 3) := bdX12_numberNow_38.2.2.2.1
theorem dX12_numberNow_46 : decode cX12_numberNow 46 = .ok (.aload_n 0, 1) := bdX12_numberNow_38.2.2.2.2.1
theorem dX12_numberNow_47 : decode cX12_numberNow 47 = .ok (.getfield 173, 3) := bdX12_numberNow_38.2.2.2.2.2.1
theorem dX12_numberNow_50 : decode cX12_numberNow 50 = .ok (.iload_n 2, 1) := bdX12_numberNow_38.2.2.2.2.2.2.1
theorem dX12_numberNow_51 : decode cX12_numberNow 51 = .ok (.if_icmp .le 8, 3) := bdX12_numberNow_38.2.2.2.2.2.2.2.1
theorem dX12_numberNow_54 : decode cX12_numberNow 54 = .ok (.aload_n 0, 1) := bdX12_numberNow_38.2.2.2.2.2.2.2.2.1
theorem dX12_numberNow_55 : decode cX12_numberNow 55 = .ok (.iconst 2, 1) := bdX12_numberNow_38.2.2.2.2.2.2.2.2.2
theorem bdX12_numberNow_56 : (decode cX12_numberNow 56 = .ok (.invokevirtual 210, 3)) ∧ (decode cX12_numberNow 59 = .ok (.aload_n 0, 1)) ∧ (decode cX12_numberNow 60 = .ok (.getfield 189, 3)) ∧ (decode cX12_numberNow 63 = .ok (.ifCond .ne 10, 3)) ∧ (decode cX12_numberNow 66 = .ok (.aload_n 0, 1)) ∧ (decode cX12_numberNow 67 = .ok (.getfield 173, 3)) ∧ (decode cX12_numberNow 70 = .ok (.goto 4, 3)) ∧ (decode cX12_numberNow 73 = .ok (.iconst 0, 1)) ∧ (decode cX12_numberNow 74 = .ok (.ireturn, 1)) := by decide +kernel
theorem dX12_numberNow_56 : decode cX12_numberNow 56 = .ok (.invokevirtual 210, 3) := bdX12_numberNow_56.1
theorem dX12_numberNow_59 : decode cX12_numberNow 59 = .ok (.aload_n 0, 1) := bdX12_numberNow_56.2.1
theorem dX12_numberNow_60 : decode cX12_numberNow 60 = .ok (.getfield 189, 3) := bdX12_numberNow_56.2.2.1
theorem dX12_numberNow_63 : decode cX12_numberNow 63 = .ok (.ifCond .ne 10, 3) := bdX12_numberNow_56.2.2.2.1
theorem dX12_numberNow_66 : decode cX12_numberNow 66 = .ok (.aload_n 0, 1) := bdX12_numberNow_56.2.2.2.2.1
theorem dX12_numberNow_67 : decode cX12_numberNow 67 = .ok (.getfield 173, 3) := bdX12_numberNow_56.2.2.2.2.2.1
theorem dX12_numberNow_70 : decode cX12_numberNow 70 = .ok (.goto 4, 3) := bdX12_numberNow_56.2.2.2.2.2.2.1
theorem dX12_numberNow_73 : decode cX12_numberNow 73 = .ok (.iconst 0, 1) := bdX12_numberNow_56.2.2.2.2.2.2.2.1
theorem dX12_numberNow_74 : decode cX12_numberNow 74 = .ok (.ireturn, 1) := bdX12_numberNow_56.2.2.2.2.2.2.2.2
theorem bdX12_readNumber_0 : (decode cX12_readNumber 0 = .ok (.aload_n 0, 1)) ∧ (decode cX12_readNumber 1 = .ok (.iload_n 1, 1)) ∧ (decode cX12_readNumber 2 = .ok (.iload_n 2, 1)) ∧ (decode cX12_readNumber 3 = .ok (.invokevirtual 217, 3)) ∧ (decode cX12_readNumber 6 = .ok (.istore_n 3, 1)) ∧ (decode cX12_readNumber 7 = .ok (.aload_n 0, 1)) ∧ (decode cX12_readNumber 8 = .ok (.getfield 189, 3)) ∧ (decode cX12_readNumber 11 = .ok (.ifCond .ne 7, 3)) ∧ (decode cX12_readNumber 14 = .ok (.aload_n 0, 1)) ∧ (decode cX12_readNumber 15 = .ok (.invokevirtual 214, 3)) := by decide +kernel
theorem dX12_readNumber_0 : decode cX12_readNumber 0 = .ok (.aload_n 0, 1) := bdX12_readNumber_0.1
theorem dX12_readNumber_1 : decode cX12_readNumber 1 = .ok (.iload_n 1, 1) := bdX12_readNumber_0.2.1
theorem dX12_readNumber_2 : decode cX12_readNumber 2 = .ok (.iload_n 2, 1) := bdX12_readNumber_0.2.2.1
theorem dX12_readNumber_3 : decode cX12_readNumber 3 = .ok (.invokevirtual 217, 3) := bdX12_readNumber_0.2.2.2.1
theorem dX12_readNumber_6 : decode cX12_readNumber 6 = .ok (.istore_n 3, 1) := bdX12_readNumber_0.2.2.2.2.1
theorem dX12_readNumber_7 : decode cX12_readNumber 7 = .ok (.aload_n 0, 1) := bdX12_readNumber_0.2.2.2.2.2.1
theorem dX12_readNumber_8 : decode cX12_readNumber 8 = .ok (.getfield 189, 3) := bdX12_readNumber_0.2.2.2.2.2.2.1
theorem dX12_readNumber_11 : decode cX12_readNumber 11 = .ok (.ifCond .ne 7, 3) := bdX12_readNumber_0.2.2.2.2.2.2.2.1
theorem dX12_readNumber_14 : decode cX12_readNumber 14 = .ok (.aload_n 0, 1) := bdX12_readNumber_0.2.2.2.2.2.2.2.2.1
theorem dX12_readNumber_15 : decode cX12_readNumber 15 = .ok (.invokevirtual 214, 3) := bdX12_readNumber_0.2.2.2.2.2.2.2.2.2
theorem bdX12_readNumber_18 : (decode cX12_readNumber 18 = .ok (.iload_n 3, 1)) ∧ (decode cX12_readNumber 19 = .ok (.ireturn, 1)) := by decide +kernel
theorem dX12_readNumber_18 : decode cX12_readNumber 18 = .ok (.iload_n 3, 1) := bdX12_readNumber_18.1
theorem dX12_readNumber_19 : decode cX12_readNumber 19 = .ok (.ireturn, 1) := bdX12_readNumber_18.2
theorem bdX12_lay_0 : (decode cX12_lay 0 = .ok (.aload_n 0, 1)) ∧ (decode cX12_lay 1 = .ok (.getfield 189, 3)) ∧ (decode cX12_lay 4 = .ok (.ifCond .eq 4, 3)) ∧ (decode cX12_lay 7 = .ok (.return_, 1)) ∧ (decode cX12_lay 8 = .ok (.bipush 8, 2)) ∧ (decode cX12_lay 10 = .ok (.aload_n 0, 1)) ∧ (decode cX12_lay 11 = .ok (.getfield 220, 3)) ∧ (decode cX12_lay 14 = .ok (.ifCond .eq 8, 3)) ∧ (decode cX12_lay 17 = .ok (.bipush 7, 2)) ∧ (decode cX12_lay 19 = .ok (.goto 5, 3)) := by decide +kernel
theorem dX12_lay_0 : decode cX12_lay 0 = .ok (.aload_n 0, 1) := bdX12_lay_0.1
theorem dX12_lay_1 : decode cX12_lay 1 = .ok (.getfield 189, 3) := bdX12_lay_0.2.1
theorem dX12_lay_4 : decode cX12_lay 4 = .ok (.ifCond .eq 4, 3) := bdX12_lay_0.2.2.1
theorem dX12_lay_7 : decode cX12_lay 7 = .ok (.return_, 1) := bdX12_lay_0.2.2.2.1
theorem dX12_lay_8 : decode cX12_lay 8 = .ok (.bipush 8, 2) := bdX12_lay_0.2.2.2.2.1
theorem dX12_lay_10 : decode cX12_lay 10 = .ok (.aload_n 0, 1) := bdX12_lay_0.2.2.2.2.2.1
theorem dX12_lay_11 : decode cX12_lay 11 = .ok (.getfield 220, 3) := bdX12_lay_0.2.2.2.2.2.2.1
theorem dX12_lay_14 : decode cX12_lay 14 = .ok (.ifCond .eq 8, 3) := bdX12_lay_0.2.2.2.2.2.2.2.1
theorem dX12_lay_17 : decode cX12_lay 17 = .ok (.bipush 7, 2) := bdX12_lay_0.2.2.2.2.2.2.2.2.1
theorem dX12_lay_19 : decode cX12_lay 19 = .ok (.goto 5, 3) := bdX12_lay_0.2.2.2.2.2.2.2.2.2
theorem bdX12_lay_22 : (decode cX12_lay 22 = .ok (.bipush 6, 2)) ∧ (decode cX12_lay 24 = .ok (.iadd, 1)) ∧ (decode cX12_lay 25 = .ok (.istore_n 2, 1)) ∧ (decode cX12_lay 26 = .ok (.aload_n 0, 1)) ∧ (decode cX12_lay 27 = .ok (.getfield 220, 3)) ∧ (decode cX12_lay 30 = .ok (.ifCond .eq 10, 3)) ∧ (decode cX12_lay 33 = .ok (.aload_n 0, 1)) ∧ (decode cX12_lay 34 = .ok (.getfield 60, 3)) ∧ (decode cX12_lay 37 = .ok (.goto 7, 3)) ∧ (decode cX12_lay 40 = .ok (.aload_n 0, 1)) := by decide +kernel
theorem dX12_lay_22 : decode cX12_lay 22 = .ok (.bipush 6, 2) := bdX12_lay_22.1
theorem dX12_lay_24 : decode cX12_lay 24 = .ok (.iadd, 1) := bdX12_lay_22.2.1
theorem dX12_lay_25 : decode cX12_lay 25 = .ok (.istore_n 2, 1) := bdX12_lay_22.2.2.1
theorem dX12_lay_26 : decode cX12_lay 26 = .ok (.aload_n 0, 1) := bdX12_lay_22.2.2.2.1
theorem dX12_lay_27 : decode cX12_lay 27 = .ok (.getfield 220, 3) := bdX12_lay_22.2.2.2.2.1
theorem dX12_lay_30 : decode cX12_lay 30 = .ok (.ifCond .eq 10, 3) := bdX12_lay_22.2.2.2.2.2.1
theorem dX12_lay_33 : decode cX12_lay 33 = .ok (.aload_n 0, 1) := bdX12_lay_22.2.2.2.2.2.2.1
theorem dX12_lay_34 : decode cX12_lay 34 = .ok (.getfield 60, 3) := bdX12_lay_22.2.2.2.2.2.2.2.1
theorem dX12_lay_37 : decode cX12_lay 37 = .ok (.goto 7, 3) := bdX12_lay_22.2.2.2.2.2.2.2.2.1
theorem dX12_lay_40 : decode cX12_lay 40 = .ok (.aload_n 0, 1) := bdX12_lay_22.2.2.2.2.2.2.2.2.2
theorem bdX12_lay_41 : (decode cX12_lay 41 = .ok (.getfield 57, 3)) ∧ (decode cX12_lay 44 = .ok (.astore_n 3, 1)) ∧ (decode cX12_lay 45 = .ok (.aload_n 3, 1)) ∧ (decode cX12_lay 46 = .ok (.sipush 700, 3)) ∧ (decode cX12_lay 49 = .ok (.aload_n 0, 1)) ∧ (decode cX12_lay 50 = .ok (.getfield 35, 3)) ∧ (decode cX12_lay 53 = .ok (.iload_n 2, 1)) ∧ (decode cX12_lay 54 = .ok (.iaload, 1)) ∧ (decode cX12_lay 55 = .ok (.iadd, 1)) ∧ (decode cX12_lay 56 = .ok (.iload_n 1, 1)) := by decide +kernel
theorem dX12_lay_41 : decode cX12_lay 41 = .ok (.getfield 57, 3) := bdX12_lay_41.1
theorem dX12_lay_44 : decode cX12_lay 44 = .ok (.astore_n 3, 1) := bdX12_lay_41.2.1
theorem dX12_lay_45 : decode cX12_lay 45 = .ok (.aload_n 3, 1) := bdX12_lay_41.2.2.1
theorem dX12_lay_46 : decode cX12_lay 46 = .ok (.sipush 700, 3) := bdX12_lay_41.2.2.2.1
theorem dX12_lay_49 : decode cX12_lay 49 = .ok (.aload_n 0, 1) := bdX12_lay_41.2.2.2.2.1
theorem dX12_lay_50 : decode cX12_lay 50 = .ok (.getfield 35, 3) := bdX12_lay_41.2.2.2.2.2.1
theorem dX12_lay_53 : decode cX12_lay 53 = .ok (.iload_n 2, 1) := bdX12_lay_41.2.2.2.2.2.2.1
theorem dX12_lay_54 : decode cX12_lay 54 = .ok (.iaload, 1) := bdX12_lay_41.2.2.2.2.2.2.2.1
theorem dX12_lay_55 : decode cX12_lay 55 = .ok (.iadd, 1) := bdX12_lay_41.2.2.2.2.2.2.2.2.1
theorem dX12_lay_56 : decode cX12_lay 56 = .ok (.iload_n 1, 1) := bdX12_lay_41.2.2.2.2.2.2.2.2.2
theorem bdX12_lay_57 : (decode cX12_lay 57 = .ok (.iastore, 1)) ∧ (decode cX12_lay 58 = .ok (.aload_n 0, 1)) ∧ (decode cX12_lay 59 = .ok (.getfield 35, 3)) ∧ (decode cX12_lay 62 = .ok (.iload_n 2, 1)) ∧ (decode cX12_lay 63 = .ok (.dup2, 1)) ∧ (decode cX12_lay 64 = .ok (.iaload, 1)) ∧ (decode cX12_lay 65 = .ok (.iconst 1, 1)) ∧ (decode cX12_lay 66 = .ok (.iadd, 1)) ∧ (decode cX12_lay 67 = .ok (.iastore, 1)) ∧ (decode cX12_lay 68 = .ok (.return_, 1)) := by decide +kernel
theorem dX12_lay_57 : decode cX12_lay 57 = .ok (.iastore, 1) := bdX12_lay_57.1
theorem dX12_lay_58 : decode cX12_lay 58 = .ok (.aload_n 0, 1) := bdX12_lay_57.2.1
theorem dX12_lay_59 : decode cX12_lay 59 = .ok (.getfield 35, 3) := bdX12_lay_57.2.2.1
theorem dX12_lay_62 : decode cX12_lay 62 = .ok (.iload_n 2, 1) := bdX12_lay_57.2.2.2.1
theorem dX12_lay_63 : decode cX12_lay 63 = .ok (.dup2, 1) := bdX12_lay_57.2.2.2.2.1
theorem dX12_lay_64 : decode cX12_lay 64 = .ok (.iaload, 1) := bdX12_lay_57.2.2.2.2.2.1
theorem dX12_lay_65 : decode cX12_lay 65 = .ok (.iconst 1, 1) := bdX12_lay_57.2.2.2.2.2.2.1
theorem dX12_lay_66 : decode cX12_lay 66 = .ok (.iadd, 1) := bdX12_lay_57.2.2.2.2.2.2.2.1
theorem dX12_lay_67 : decode cX12_lay 67 = .ok (.iastore, 1) := bdX12_lay_57.2.2.2.2.2.2.2.2.1
theorem dX12_lay_68 : decode cX12_lay 68 = .ok (.return_, 1) := bdX12_lay_57.2.2.2.2.2.2.2.2.2
theorem bdX12_readPart_0 : (decode cX12_readPart 0 = .ok (.aload_n 0, 1)) ∧ (decode cX12_readPart 1 = .ok (.getfield 189, 3)) ∧ (decode cX12_readPart 4 = .ok (.ifCond .eq 4, 3)) ∧ (decode cX12_readPart 7 = .ok (.return_, 1)) ∧ (decode cX12_readPart 8 = .ok (.aload_n 0, 1)) ∧ (decode cX12_readPart 9 = .ok (.getfield 163, 3)) ∧ (decode cX12_readPart 12 = .ok (.iconst 2, 1)) ∧ (decode cX12_readPart 13 = .ok (.if_icmp .ne 16, 3)) ∧ (decode cX12_readPart 16 = .ok (.aload_n 0, 1)) ∧ (decode cX12_readPart 17 = .ok (.aload_n 0, 1)) := by decide +kernel
theorem dX12_readPart_0 : decode cX12_readPart 0 = .ok (.aload_n 0, 1) := bdX12_readPart_0.1
theorem dX12_readPart_1 : decode cX12_readPart 1 = .ok (.getfield 189, 3) := bdX12_readPart_0.2.1
theorem dX12_readPart_4 : decode cX12_readPart 4 = .ok (.ifCond .eq 4, 3) := bdX12_readPart_0.2.2.1
theorem dX12_readPart_7 : decode cX12_readPart 7 = .ok (.return_, 1) := bdX12_readPart_0.2.2.2.1
theorem dX12_readPart_8 : decode cX12_readPart 8 = .ok (.aload_n 0, 1) := bdX12_readPart_0.2.2.2.2.1
theorem dX12_readPart_9 : decode cX12_readPart 9 = .ok (.getfield 163, 3) := bdX12_readPart_0.2.2.2.2.2.1
theorem dX12_readPart_12 : decode cX12_readPart 12 = .ok (.iconst 2, 1) := bdX12_readPart_0.2.2.2.2.2.2.1
theorem dX12_readPart_13 : decode cX12_readPart 13 = .ok (.if_icmp .ne 16, 3) := bdX12_readPart_0.2.2.2.2.2.2.2.1
theorem dX12_readPart_16 : decode cX12_readPart 16 = .ok (.aload_n 0, 1) := bdX12_readPart_0.2.2.2.2.2.2.2.2.1
theorem dX12_readPart_17 : decode cX12_readPart 17 = .ok (.aload_n 0, 1) := bdX12_readPart_0.2.2.2.2.2.2.2.2.2
theorem bdX12_readPart_18 : (decode cX12_readPart 18 = .ok (.iconst 0, 1)) ∧ (decode cX12_readPart 19 = .ok (.sipush 9999, 3)) ∧ (decode cX12_readPart 22 = .ok (.invokevirtual 224, 3)) ∧ (decode cX12_readPart 25 = .ok (.invokevirtual 227, 3)) ∧ (decode cX12_readPart 28 = .ok (.return_, 1)) ∧ (decode cX12_readPart 29 = .ok (.aload_n 0, 1)) ∧ (decode cX12_readPart 30 = .ok (.getfield 163, 3)) ∧ (decode cX12_readPart 33 = .ok (.iconst 1, 1)) ∧ (decode cX12_readPart 34 = .ok (.if_icmp .ne 41, 3)) ∧ (decode cX12_readPart 37 = .ok (.aload_n 0, 1)) := by decide +kernel
theorem dX12_readPart_18 : decode cX12_readPart 18 = .ok (.iconst 0, 1) := bdX12_readPart_18.1
theorem dX12_readPart_19 : decode cX12_readPart 19 = .ok (.sipush 9999, 3) := bdX12_readPart_18.2.1
theorem dX12_readPart_22 : decode cX12_readPart 22 = .ok (.invokevirtual 224, 3) := bdX12_readPart_18.2.2.1
theorem dX12_readPart_25 : decode cX12_readPart 25 = .ok (.invokevirtual 227, 3) := bdX12_readPart_18.2.2.2.1
theorem dX12_readPart_28 : decode cX12_readPart 28 = .ok (.return_, 1) := bdX12_readPart_18.2.2.2.2.1
theorem dX12_readPart_29 : decode cX12_readPart 29 = .ok (.aload_n 0, 1) := bdX12_readPart_18.2.2.2.2.2.1
theorem dX12_readPart_30 : decode cX12_readPart 30 = .ok (.getfield 163, 3) := bdX12_readPart_18.2.2.2.2.2.2.1
theorem dX12_readPart_33 : decode cX12_readPart 33 = .ok (.iconst 1, 1) := bdX12_readPart_18.2.2.2.2.2.2.2.1
theorem dX12_readPart_34 : decode cX12_readPart 34 = .ok (.if_icmp .ne 41, 3) := bdX12_readPart_18.2.2.2.2.2.2.2.2.1
theorem dX12_readPart_37 : decode cX12_readPart 37 = .ok (.aload_n 0, 1) := bdX12_readPart_18.2.2.2.2.2.2.2.2.2
theorem bdX12_readPart_38 : (decode cX12_readPart 38 = .ok (.aload_n 0, 1)) ∧ (decode cX12_readPart 39 = .ok (.getfield 32, 3)) ∧ (decode cX12_readPart 42 = .ok (.invokevirtual 230, 3)) ∧ (decode cX12_readPart 45 = .ok (.istore_n 2, 1)) ∧ (decode cX12_readPart 46 = .ok (.iload_n 2, 1)) ∧ (decode cX12_readPart 47 = .ok (.iconst (-1), 1)) ∧ (decode cX12_readPart 48 = .ok (.if_icmp .ne 8, 3)) ∧ (decode cX12_readPart 51 = .ok (.aload_n 0, 1)) ∧ (decode cX12_readPart 52 = .ok (.iconst 3, 1)) ∧ (decode cX12_readPart 53 = .ok (.invokevirtual 210, 3)) := by decide +kernel
theorem dX12_readPart_38 : decode cX12_readPart 38 = .ok (.aload_n 0, 1) := bdX12_readPart_38.1
theorem dX12_readPart_39 : decode cX12_readPart 39 = .ok (.getfield 32, 3) := bdX12_readPart_38.2.1
theorem dX12_readPart_42 : decode cX12_readPart 42 = .ok (.invokevirtual 230, 3) := bdX12_readPart_38.2.2.1
theorem dX12_readPart_45 : decode cX12_readPart 45 = .ok (.istore_n 2, 1) := bdX12_readPart_38.2.2.2.1
theorem dX12_readPart_46 : decode cX12_readPart 46 = .ok (.iload_n 2, 1) := bdX12_readPart_38.2.2.2.2.1
theorem dX12_readPart_47 : decode cX12_readPart 47 = .ok (.iconst (-1), 1) := bdX12_readPart_38.2.2.2.2.2.1
theorem dX12_readPart_48 : decode cX12_readPart 48 = .ok (.if_icmp .ne 8, 3) := bdX12_readPart_38.2.2.2.2.2.2.1
theorem dX12_readPart_51 : decode cX12_readPart 51 = .ok (.aload_n 0, 1) := bdX12_readPart_38.2.2.2.2.2.2.2.1
theorem dX12_readPart_52 : decode cX12_readPart 52 = .ok (.iconst 3, 1) := bdX12_readPart_38.2.2.2.2.2.2.2.2.1
theorem dX12_readPart_53 : decode cX12_readPart 53 = .ok (.invokevirtual 210, 3) := bdX12_readPart_38.2.2.2.2.2.2.2.2.2
theorem bdX12_readPart_56 : (decode cX12_readPart 56 = .ok (.aload_n 0, 1)) ∧ (decode cX12_readPart 57 = .ok (.iconst (-1), 1)) ∧ (decode cX12_readPart 58 = .ok (.iload_n 2, 1)) ∧ (decode cX12_readPart 59 = .ok (.isub, 1)) ∧ (decode cX12_readPart 60 = .ok (.invokevirtual 227, 3)) ∧ (decode cX12_readPart 63 = .ok (.aload_n 0, 1)) ∧ (decode cX12_readPart 64 = .ok (.getfield 189, 3)) ∧ (decode cX12_readPart 67 = .ok (.ifCond .ne 7, 3)) ∧ (decode cX12_readPart 70 = .ok (.aload_n 0, 1)) ∧ (decode cX12_readPart 71 = .ok (.invokevirtual 214, 3)) := by decide +kernel
theorem dX12_readPart_56 : decode cX12_readPart 56 = .ok (.aload_n 0, 1) := bdX12_readPart_56.1
theorem dX12_readPart_57 : decode cX12_readPart 57 = .ok (.iconst (-1), 1) := bdX12_readPart_56.2.1
theorem dX12_readPart_58 : decode cX12_readPart 58 = .ok (.iload_n 2, 1) := bdX12_readPart_56.2.2.1
theorem dX12_readPart_59 : decode cX12_readPart 59 = .ok (.isub, 1) := bdX12_readPart_56.2.2.2.1
theorem dX12_readPart_60 : decode cX12_readPart 60 = .ok (.invokevirtual 227, 3) := bdX12_readPart_56.2.2.2.2.1
theorem dX12_readPart_63 : decode cX12_readPart 63 = .ok (.aload_n 0, 1) := bdX12_readPart_56.2.2.2.2.2.1
theorem dX12_readPart_64 : decode cX12_readPart 64 = .ok (.getfield 189, 3) := bdX12_readPart_56.2.2.2.2.2.2.1
theorem dX12_readPart_67 : decode cX12_readPart 67 = .ok (.ifCond .ne 7, 3) := bdX12_readPart_56.2.2.2.2.2.2.2.1
theorem dX12_readPart_70 : decode cX12_readPart 70 = .ok (.aload_n 0, 1) := bdX12_readPart_56.2.2.2.2.2.2.2.2.1
theorem dX12_readPart_71 : decode cX12_readPart 71 = .ok (.invokevirtual 214, 3) := bdX12_readPart_56.2.2.2.2.2.2.2.2.2
theorem bdX12_readPart_74 : (decode cX12_readPart 74 = .ok (.return_, 1)) ∧ (decode cX12_readPart 75 = .ok (.aload_n 0, 1)) ∧ (decode cX12_readPart 76 = .ok (.bipush 40, 2)) ∧ (decode cX12_readPart 78 = .ok (.invokevirtual 234, 3)) ∧ (decode cX12_readPart 81 = .ok (.aload_n 0, 1)) ∧ (decode cX12_readPart 82 = .ok (.iload_n 1, 1)) ∧ (decode cX12_readPart 83 = .ok (.iconst 1, 1)) ∧ (decode cX12_readPart 84 = .ok (.iadd, 1)) ∧ (decode cX12_readPart 85 = .ok (.invokevirtual 237, 3)) ∧ (decode cX12_readPart 88 = .ok (.aload_n 0, 1)) := by decide +kernel
theorem dX12_readPart_74 : decode cX12_readPart 74 = .ok (.return_, 1) := bdX12_readPart_74.1
theorem dX12_readPart_75 : decode cX12_readPart 75 = .ok (.aload_n 0, 1) := bdX12_readPart_74.2.1
theorem dX12_readPart_76 : decode cX12_readPart 76 = .ok (.bipush 40, 2) := bdX12_readPart_74.2.2.1
theorem dX12_readPart_78 : decode cX12_readPart 78 = .ok (.invokevirtual 234, 3) := bdX12_readPart_74.2.2.2.1
theorem dX12_readPart_81 : decode cX12_readPart 81 = .ok (.aload_n 0, 1) := bdX12_readPart_74.2.2.2.2.1
theorem dX12_readPart_82 : decode cX12_readPart 82 = .ok (.iload_n 1, 1) := bdX12_readPart_74.2.2.2.2.2.1
theorem dX12_readPart_83 : decode cX12_readPart 83 = .ok (.iconst 1, 1) := bdX12_readPart_74.2.2.2.2.2.2.1
theorem dX12_readPart_84 : decode cX12_readPart 84 = .ok (.iadd, 1) := bdX12_readPart_74.2.2.2.2.2.2.2.1
theorem dX12_readPart_85 : decode cX12_readPart 85 = .ok (.invokevirtual 237, 3) := bdX12_readPart_74.2.2.2.2.2.2.2.2.1
theorem dX12_readPart_88 : decode cX12_readPart 88 = .ok (.aload_n 0, 1) := bdX12_readPart_74.2.2.2.2.2.2.2.2.2
theorem bdX12_readPart_89 : (decode cX12_readPart 89 = .ok (.bipush 41, 2)) ∧ (decode cX12_readPart 91 = .ok (.invokevirtual 234, 3)) ∧ (decode cX12_readPart 94 = .ok (.return_, 1)) := by decide +kernel
theorem dX12_readPart_89 : decode cX12_readPart 89 = .ok (.bipush 41, 2) := bdX12_readPart_89.1
theorem dX12_readPart_91 : decode cX12_readPart 91 = .ok (.invokevirtual 234, 3) := bdX12_readPart_89.2.1
theorem dX12_readPart_94 : decode cX12_readPart 94 = .ok (.return_, 1) := bdX12_readPart_89.2.2
theorem bdX12_readProduct_0 : (decode cX12_readProduct 0 = .ok (.aload_n 0, 1)) ∧ (decode cX12_readProduct 1 = .ok (.iload_n 1, 1)) ∧ (decode cX12_readProduct 2 = .ok (.invokevirtual 240, 3)) ∧ (decode cX12_readProduct 5 = .ok (.aload_n 0, 1)) ∧ (decode cX12_readProduct 6 = .ok (.bipush 42, 2)) ∧ (decode cX12_readProduct 8 = .ok (.invokevirtual 207, 3)) ∧ (decode cX12_readProduct 11 = .ok (.ifCond .ne 12, 3)) ∧ (decode cX12_readProduct 14 = .ok (.aload_n 0, 1)) ∧ (decode cX12_readProduct 15 = .ok (.bipush 47, 2)) ∧ (decode cX12_readProduct 17 = .ok (.invokevirtual 207, 3)) := by decide +kernel
theorem dX12_readProduct_0 : decode cX12_readProduct 0 = .ok (.aload_n 0, 1) := bdX12_readProduct_0.1
theorem dX12_readProduct_1 : decode cX12_readProduct 1 = .ok (.iload_n 1, 1) := bdX12_readProduct_0.2.1
theorem dX12_readProduct_2 : decode cX12_readProduct 2 = .ok (.invokevirtual 240, 3) := bdX12_readProduct_0.2.2.1
theorem dX12_readProduct_5 : decode cX12_readProduct 5 = .ok (.aload_n 0, 1) := bdX12_readProduct_0.2.2.2.1
theorem dX12_readProduct_6 : decode cX12_readProduct 6 = .ok (.bipush 42, 2) := bdX12_readProduct_0.2.2.2.2.1
theorem dX12_readProduct_8 : decode cX12_readProduct 8 = .ok (.invokevirtual 207, 3) := bdX12_readProduct_0.2.2.2.2.2.1
theorem dX12_readProduct_11 : decode cX12_readProduct 11 = .ok (.ifCond .ne 12, 3) := bdX12_readProduct_0.2.2.2.2.2.2.1
theorem dX12_readProduct_14 : decode cX12_readProduct 14 = .ok (.aload_n 0, 1) := bdX12_readProduct_0.2.2.2.2.2.2.2.1
theorem dX12_readProduct_15 : decode cX12_readProduct 15 = .ok (.bipush 47, 2) := bdX12_readProduct_0.2.2.2.2.2.2.2.2.1
theorem dX12_readProduct_17 : decode cX12_readProduct 17 = .ok (.invokevirtual 207, 3) := bdX12_readProduct_0.2.2.2.2.2.2.2.2.2
theorem bdX12_readProduct_20 : (decode cX12_readProduct 20 = .ok (.ifCond .eq 37, 3)) ∧ (decode cX12_readProduct 23 = .ok (.aload_n 0, 1)) ∧ (decode cX12_readProduct 24 = .ok (.bipush 42, 2)) ∧ (decode cX12_readProduct 26 = .ok (.invokevirtual 207, 3)) ∧ (decode cX12_readProduct 29 = .ok (.ifCond .eq 8, 3)) ∧ (decode cX12_readProduct 32 = .ok (.bipush (-22), 2)) ∧ (decode cX12_readProduct 34 = .ok (.goto 5, 3)) ∧ (decode cX12_readProduct 37 = .ok (.bipush (-23), 2)) ∧ (decode cX12_readProduct 39 = .ok (.istore_n 2, 1)) ∧ (decode cX12_readProduct 40 = .ok (.aload_n 0, 1)) := by decide +kernel
theorem dX12_readProduct_20 : decode cX12_readProduct 20 = .ok (.ifCond .eq 37, 3) := bdX12_readProduct_20.1
theorem dX12_readProduct_23 : decode cX12_readProduct 23 = .ok (.aload_n 0, 1) := bdX12_readProduct_20.2.1
theorem dX12_readProduct_24 : decode cX12_readProduct 24 = .ok (.bipush 42, 2) := bdX12_readProduct_20.2.2.1
theorem dX12_readProduct_26 : decode cX12_readProduct 26 = .ok (.invokevirtual 207, 3) := bdX12_readProduct_20.2.2.2.1
theorem dX12_readProduct_29 : decode cX12_readProduct 29 = .ok (.ifCond .eq 8, 3) := bdX12_readProduct_20.2.2.2.2.1
theorem dX12_readProduct_32 : decode cX12_readProduct 32 = .ok (.bipush (-22), 2) := bdX12_readProduct_20.2.2.2.2.2.1
theorem dX12_readProduct_34 : decode cX12_readProduct 34 = .ok (.goto 5, 3) := bdX12_readProduct_20.2.2.2.2.2.2.1
theorem dX12_readProduct_37 : decode cX12_readProduct 37 = .ok (.bipush (-23), 2) := bdX12_readProduct_20.2.2.2.2.2.2.2.1
theorem dX12_readProduct_39 : decode cX12_readProduct 39 = .ok (.istore_n 2, 1) := bdX12_readProduct_20.2.2.2.2.2.2.2.2.1
theorem dX12_readProduct_40 : decode cX12_readProduct 40 = .ok (.aload_n 0, 1) := bdX12_readProduct_20.2.2.2.2.2.2.2.2.2
theorem bdX12_readProduct_41 : (decode cX12_readProduct 41 = .ok (.invokevirtual 214, 3)) ∧ (decode cX12_readProduct 44 = .ok (.aload_n 0, 1)) ∧ (decode cX12_readProduct 45 = .ok (.iload_n 1, 1)) ∧ (decode cX12_readProduct 46 = .ok (.invokevirtual 240, 3)) ∧ (decode cX12_readProduct 49 = .ok (.aload_n 0, 1)) ∧ (decode cX12_readProduct 50 = .ok (.iload_n 2, 1)) ∧ (decode cX12_readProduct 51 = .ok (.invokevirtual 227, 3)) ∧ (decode cX12_readProduct 54 = .ok (.goto (-49), 3)) ∧ (decode cX12_readProduct 57 = .ok (.return_, 1)) := by decide +kernel
theorem dX12_readProduct_41 : decode cX12_readProduct 41 = .ok (.invokevirtual 214, 3) := bdX12_readProduct_41.1
theorem dX12_readProduct_44 : decode cX12_readProduct 44 = .ok (.aload_n 0, 1) := bdX12_readProduct_41.2.1
theorem dX12_readProduct_45 : decode cX12_readProduct 45 = .ok (.iload_n 1, 1) := bdX12_readProduct_41.2.2.1
theorem dX12_readProduct_46 : decode cX12_readProduct 46 = .ok (.invokevirtual 240, 3) := bdX12_readProduct_41.2.2.2.1
theorem dX12_readProduct_49 : decode cX12_readProduct 49 = .ok (.aload_n 0, 1) := bdX12_readProduct_41.2.2.2.2.1
theorem dX12_readProduct_50 : decode cX12_readProduct 50 = .ok (.iload_n 2, 1) := bdX12_readProduct_41.2.2.2.2.2.1
theorem dX12_readProduct_51 : decode cX12_readProduct 51 = .ok (.invokevirtual 227, 3) := bdX12_readProduct_41.2.2.2.2.2.2.1
theorem dX12_readProduct_54 : decode cX12_readProduct 54 = .ok (.goto (-49), 3) := bdX12_readProduct_41.2.2.2.2.2.2.2.1
theorem dX12_readProduct_57 : decode cX12_readProduct 57 = .ok (.return_, 1) := bdX12_readProduct_41.2.2.2.2.2.2.2.2
theorem bdX12_readSum_0 : (decode cX12_readSum 0 = .ok (.aload_n 0, 1)) ∧ (decode cX12_readSum 1 = .ok (.iload_n 1, 1)) ∧ (decode cX12_readSum 2 = .ok (.invokevirtual 243, 3)) ∧ (decode cX12_readSum 5 = .ok (.aload_n 0, 1)) ∧ (decode cX12_readSum 6 = .ok (.bipush 43, 2)) ∧ (decode cX12_readSum 8 = .ok (.invokevirtual 207, 3)) ∧ (decode cX12_readSum 11 = .ok (.ifCond .ne 12, 3)) ∧ (decode cX12_readSum 14 = .ok (.aload_n 0, 1)) ∧ (decode cX12_readSum 15 = .ok (.bipush 45, 2)) ∧ (decode cX12_readSum 17 = .ok (.invokevirtual 207, 3)) := by decide +kernel
theorem dX12_readSum_0 : decode cX12_readSum 0 = .ok (.aload_n 0, 1) := bdX12_readSum_0.1
theorem dX12_readSum_1 : decode cX12_readSum 1 = .ok (.iload_n 1, 1) := bdX12_readSum_0.2.1
theorem dX12_readSum_2 : decode cX12_readSum 2 = .ok (.invokevirtual 243, 3) := bdX12_readSum_0.2.2.1
theorem dX12_readSum_5 : decode cX12_readSum 5 = .ok (.aload_n 0, 1) := bdX12_readSum_0.2.2.2.1
theorem dX12_readSum_6 : decode cX12_readSum 6 = .ok (.bipush 43, 2) := bdX12_readSum_0.2.2.2.2.1
theorem dX12_readSum_8 : decode cX12_readSum 8 = .ok (.invokevirtual 207, 3) := bdX12_readSum_0.2.2.2.2.2.1
theorem dX12_readSum_11 : decode cX12_readSum 11 = .ok (.ifCond .ne 12, 3) := bdX12_readSum_0.2.2.2.2.2.2.1
theorem dX12_readSum_14 : decode cX12_readSum 14 = .ok (.aload_n 0, 1) := bdX12_readSum_0.2.2.2.2.2.2.2.1
theorem dX12_readSum_15 : decode cX12_readSum 15 = .ok (.bipush 45, 2) := bdX12_readSum_0.2.2.2.2.2.2.2.2.1
theorem dX12_readSum_17 : decode cX12_readSum 17 = .ok (.invokevirtual 207, 3) := bdX12_readSum_0.2.2.2.2.2.2.2.2.2
theorem bdX12_readSum_20 : (decode cX12_readSum 20 = .ok (.ifCond .eq 37, 3)) ∧ (decode cX12_readSum 23 = .ok (.aload_n 0, 1)) ∧ (decode cX12_readSum 24 = .ok (.bipush 43, 2)) ∧ (decode cX12_readSum 26 = .ok (.invokevirtual 207, 3)) ∧ (decode cX12_readSum 29 = .ok (.ifCond .eq 8, 3)) ∧ (decode cX12_readSum 32 = .ok (.bipush (-20), 2)) ∧ (decode cX12_readSum 34 = .ok (.goto 5, 3)) ∧ (decode cX12_readSum 37 = .ok (.bipush (-21), 2)) ∧ (decode cX12_readSum 39 = .ok (.istore_n 2, 1)) ∧ (decode cX12_readSum 40 = .ok (.aload_n 0, 1)) := by decide +kernel
theorem dX12_readSum_20 : decode cX12_readSum 20 = .ok (.ifCond .eq 37, 3) := bdX12_readSum_20.1
theorem dX12_readSum_23 : decode cX12_readSum 23 = .ok (.aload_n 0, 1) := bdX12_readSum_20.2.1
theorem dX12_readSum_24 : decode cX12_readSum 24 = .ok (.bipush 43, 2) := bdX12_readSum_20.2.2.1
theorem dX12_readSum_26 : decode cX12_readSum 26 = .ok (.invokevirtual 207, 3) := bdX12_readSum_20.2.2.2.1
theorem dX12_readSum_29 : decode cX12_readSum 29 = .ok (.ifCond .eq 8, 3) := bdX12_readSum_20.2.2.2.2.1
theorem dX12_readSum_32 : decode cX12_readSum 32 = .ok (.bipush (-20), 2) := bdX12_readSum_20.2.2.2.2.2.1
theorem dX12_readSum_34 : decode cX12_readSum 34 = .ok (.goto 5, 3) := bdX12_readSum_20.2.2.2.2.2.2.1
theorem dX12_readSum_37 : decode cX12_readSum 37 = .ok (.bipush (-21), 2) := bdX12_readSum_20.2.2.2.2.2.2.2.1
theorem dX12_readSum_39 : decode cX12_readSum 39 = .ok (.istore_n 2, 1) := bdX12_readSum_20.2.2.2.2.2.2.2.2.1
theorem dX12_readSum_40 : decode cX12_readSum 40 = .ok (.aload_n 0, 1) := bdX12_readSum_20.2.2.2.2.2.2.2.2.2
theorem bdX12_readSum_41 : (decode cX12_readSum 41 = .ok (.invokevirtual 214, 3)) ∧ (decode cX12_readSum 44 = .ok (.aload_n 0, 1)) ∧ (decode cX12_readSum 45 = .ok (.iload_n 1, 1)) ∧ (decode cX12_readSum 46 = .ok (.invokevirtual 243, 3)) ∧ (decode cX12_readSum 49 = .ok (.aload_n 0, 1)) ∧ (decode cX12_readSum 50 = .ok (.iload_n 2, 1)) ∧ (decode cX12_readSum 51 = .ok (.invokevirtual 227, 3)) ∧ (decode cX12_readSum 54 = .ok (.goto (-49), 3)) ∧ (decode cX12_readSum 57 = .ok (.return_, 1)) := by decide +kernel
theorem dX12_readSum_41 : decode cX12_readSum 41 = .ok (.invokevirtual 214, 3) := bdX12_readSum_41.1
theorem dX12_readSum_44 : decode cX12_readSum 44 = .ok (.aload_n 0, 1) := bdX12_readSum_41.2.1
theorem dX12_readSum_45 : decode cX12_readSum 45 = .ok (.iload_n 1, 1) := bdX12_readSum_41.2.2.1
theorem dX12_readSum_46 : decode cX12_readSum 46 = .ok (.invokevirtual 243, 3) := bdX12_readSum_41.2.2.2.1
theorem dX12_readSum_49 : decode cX12_readSum 49 = .ok (.aload_n 0, 1) := bdX12_readSum_41.2.2.2.2.1
theorem dX12_readSum_50 : decode cX12_readSum 50 = .ok (.iload_n 2, 1) := bdX12_readSum_41.2.2.2.2.2.1
theorem dX12_readSum_51 : decode cX12_readSum 51 = .ok (.invokevirtual 227, 3) := bdX12_readSum_41.2.2.2.2.2.2.1
theorem dX12_readSum_54 : decode cX12_readSum 54 = .ok (.goto (-49), 3) := bdX12_readSum_41.2.2.2.2.2.2.2.1
theorem dX12_readSum_57 : decode cX12_readSum 57 = .ok (.return_, 1) := bdX12_readSum_41.2.2.2.2.2.2.2.2
theorem bdX12_readNot_0 : (decode cX12_readNot 0 = .ok (.iconst 0, 1)) ∧ (decode cX12_readNot 1 = .ok (.istore_n 2, 1)) ∧ (decode cX12_readNot 2 = .ok (.aload_n 0, 1)) ∧ (decode cX12_readNot 3 = .ok (.ldc 246, 2)) ∧ (decode cX12_readNot 5 = .ok (.invokevirtual 203, 3)) ∧ (decode cX12_readNot 8 = .ok (.ifCond .eq 31, 3)) ∧ (decode cX12_readNot 11 = .ok (.iload_n 2, 1)) ∧ (decode cX12_readNot 12 = .ok (.bipush 6, 2)) ∧ (decode cX12_readNot 14 = .ok (.if_icmp .ne 8, 3)) ∧ (decode cX12_readNot 17 = .ok (.aload_n 0, 1)) := by decide +kernel
theorem dX12_readNot_0 : decode cX12_readNot 0 = .ok (.iconst 0, 1) := bdX12_readNot_0.1
theorem dX12_readNot_1 : decode cX12_readNot 1 = .ok (.istore_n 2, 1) := bdX12_readNot_0.2.1
theorem dX12_readNot_2 : decode cX12_readNot 2 = .ok (.aload_n 0, 1) := bdX12_readNot_0.2.2.1
theorem dX12_readNot_3 : decode cX12_readNot 3 = .ok (.ldc 246, 2) := bdX12_readNot_0.2.2.2.1
theorem dX12_readNot_5 : decode cX12_readNot 5 = .ok (.invokevirtual 203, 3) := bdX12_readNot_0.2.2.2.2.1
theorem dX12_readNot_8 : decode cX12_readNot 8 = .ok (.ifCond .eq 31, 3) := bdX12_readNot_0.2.2.2.2.2.1
theorem dX12_readNot_11 : decode cX12_readNot 11 = .ok (.iload_n 2, 1) := bdX12_readNot_0.2.2.2.2.2.2.1
theorem dX12_readNot_12 : decode cX12_readNot 12 = .ok (.bipush 6, 2) := bdX12_readNot_0.2.2.2.2.2.2.2.1
theorem dX12_readNot_14 : decode cX12_readNot 14 = .ok (.if_icmp .ne 8, 3) := bdX12_readNot_0.2.2.2.2.2.2.2.2.1
theorem dX12_readNot_17 : decode cX12_readNot 17 = .ok (.aload_n 0, 1) := bdX12_readNot_0.2.2.2.2.2.2.2.2.2
theorem bdX12_readNot_18 : (decode cX12_readNot 18 = .ok (.iconst 2, 1)) ∧ (decode cX12_readNot 19 = .ok (.invokevirtual 210, 3)) ∧ (decode cX12_readNot 22 = .ok (.iinc 2 1, 3)) ∧ (decode cX12_readNot 25 = .ok (.aload_n 0, 1)) ∧ (decode cX12_readNot 26 = .ok (.getfield 189, 3)) ∧ (decode cX12_readNot 29 = .ok (.ifCond .ne (-27), 3)) ∧ (decode cX12_readNot 32 = .ok (.aload_n 0, 1)) ∧ (decode cX12_readNot 33 = .ok (.invokevirtual 214, 3)) ∧ (decode cX12_readNot 36 = .ok (.goto (-34), 3)) ∧ (decode cX12_readNot 39 = .ok (.aload_n 0, 1)) := by decide +kernel
theorem dX12_readNot_18 : decode cX12_readNot 18 = .ok (.iconst 2, 1) := bdX12_readNot_18.1
theorem dX12_readNot_19 : decode cX12_readNot 19 = .ok (.invokevirtual 210, 3) := bdX12_readNot_18.2.1
theorem dX12_readNot_22 : decode cX12_readNot 22 = .ok (.iinc 2 1, 3) := bdX12_readNot_18.2.2.1
theorem dX12_readNot_25 : decode cX12_readNot 25 = .ok (.aload_n 0, 1) := bdX12_readNot_18.2.2.2.1
theorem dX12_readNot_26 : decode cX12_readNot 26 = .ok (.getfield 189, 3) := bdX12_readNot_18.2.2.2.2.1
theorem dX12_readNot_29 : decode cX12_readNot 29 = .ok (.ifCond .ne (-27), 3) := bdX12_readNot_18.2.2.2.2.2.1
theorem dX12_readNot_32 : decode cX12_readNot 32 = .ok (.aload_n 0, 1) := bdX12_readNot_18.2.2.2.2.2.2.1
theorem dX12_readNot_33 : decode cX12_readNot 33 = .ok (.invokevirtual 214, 3) := bdX12_readNot_18.2.2.2.2.2.2.2.1
theorem dX12_readNot_36 : decode cX12_readNot 36 = .ok (.goto (-34), 3) := bdX12_readNot_18.2.2.2.2.2.2.2.2.1
theorem dX12_readNot_39 : decode cX12_readNot 39 = .ok (.aload_n 0, 1) := bdX12_readNot_18.2.2.2.2.2.2.2.2.2
theorem bdX12_readNot_40 : (decode cX12_readNot 40 = .ok (.iload_n 1, 1)) ∧ (decode cX12_readNot 41 = .ok (.invokevirtual 248, 3)) ∧ (decode cX12_readNot 44 = .ok (.aload_n 0, 1)) ∧ (decode cX12_readNot 45 = .ok (.bipush 60, 2)) ∧ (decode cX12_readNot 47 = .ok (.invokevirtual 207, 3)) ∧ (decode cX12_readNot 50 = .ok (.ifCond .ne 12, 3)) ∧ (decode cX12_readNot 53 = .ok (.aload_n 0, 1)) ∧ (decode cX12_readNot 54 = .ok (.bipush 61, 2)) ∧ (decode cX12_readNot 56 = .ok (.invokevirtual 207, 3)) ∧ (decode cX12_readNot 59 = .ok (.ifCond .eq 34, 3)) := by decide +kernel
theorem dX12_readNot_40 : decode cX12_readNot 40 = .ok (.iload_n 1, 1) := bdX12_readNot_40.1
theorem dX12_readNot_41 : decode cX12_readNot 41 = .ok (.invokevirtual 248, 3) := bdX12_readNot_40.2.1
theorem dX12_readNot_44 : decode cX12_readNot 44 = .ok (.aload_n 0, 1) := bdX12_readNot_40.2.2.1
theorem dX12_readNot_45 : decode cX12_readNot 45 = .ok (.bipush 60, 2) := bdX12_readNot_40.2.2.2.1
theorem dX12_readNot_47 : decode cX12_readNot 47 = .ok (.invokevirtual 207, 3) := bdX12_readNot_40.2.2.2.2.1
theorem dX12_readNot_50 : decode cX12_readNot 50 = .ok (.ifCond .ne 12, 3) := bdX12_readNot_40.2.2.2.2.2.1
theorem dX12_readNot_53 : decode cX12_readNot 53 = .ok (.aload_n 0, 1) := bdX12_readNot_40.2.2.2.2.2.2.1
theorem dX12_readNot_54 : decode cX12_readNot 54 = .ok (.bipush 61, 2) := bdX12_readNot_40.2.2.2.2.2.2.2.1
theorem dX12_readNot_56 : decode cX12_readNot 56 = .ok (.invokevirtual 207, 3) := bdX12_readNot_40.2.2.2.2.2.2.2.2.1
theorem dX12_readNot_59 : decode cX12_readNot 59 = .ok (.ifCond .eq 34, 3) := bdX12_readNot_40.2.2.2.2.2.2.2.2.2
theorem bdX12_readNot_62 : (decode cX12_readNot 62 = .ok (.aload_n 0, 1)) ∧ (decode cX12_readNot 63 = .ok (.bipush 60, 2)) ∧ (decode cX12_readNot 65 = .ok (.invokevirtual 207, 3)) ∧ (decode cX12_readNot 68 = .ok (.ifCond .eq 8, 3)) ∧ (decode cX12_readNot 71 = .ok (.bipush (-24), 2)) ∧ (decode cX12_readNot 73 = .ok (.goto 5, 3)) ∧ (decode cX12_readNot 76 = .ok (.bipush (-25), 2)) ∧ (decode cX12_readNot 78 = .ok (.istore_n 3, 1)) ∧ (decode cX12_readNot 79 = .ok (.aload_n 0, 1)) ∧ (decode cX12_readNot 80 = .ok (.invokevirtual 214, 3)) := by decide +kernel
theorem dX12_readNot_62 : decode cX12_readNot 62 = .ok (.aload_n 0, 1) := bdX12_readNot_62.1
theorem dX12_readNot_63 : decode cX12_readNot 63 = .ok (.bipush 60, 2) := bdX12_readNot_62.2.1
theorem dX12_readNot_65 : decode cX12_readNot 65 = .ok (.invokevirtual 207, 3) := bdX12_readNot_62.2.2.1
theorem dX12_readNot_68 : decode cX12_readNot 68 = .ok (.ifCond .eq 8, 3) := bdX12_readNot_62.2.2.2.1
theorem dX12_readNot_71 : decode cX12_readNot 71 = .ok (.bipush (-24), 2) := bdX12_readNot_62.2.2.2.2.1
theorem dX12_readNot_73 : decode cX12_readNot 73 = .ok (.goto 5, 3) := bdX12_readNot_62.2.2.2.2.2.1
theorem dX12_readNot_76 : decode cX12_readNot 76 = .ok (.bipush (-25), 2) := bdX12_readNot_62.2.2.2.2.2.2.1
theorem dX12_readNot_78 : decode cX12_readNot 78 = .ok (.istore_n 3, 1) := bdX12_readNot_62.2.2.2.2.2.2.2.1
theorem dX12_readNot_79 : decode cX12_readNot 79 = .ok (.aload_n 0, 1) := bdX12_readNot_62.2.2.2.2.2.2.2.2.1
theorem dX12_readNot_80 : decode cX12_readNot 80 = .ok (.invokevirtual 214, 3) := bdX12_readNot_62.2.2.2.2.2.2.2.2.2
theorem bdX12_readNot_83 : (decode cX12_readNot 83 = .ok (.aload_n 0, 1)) ∧ (decode cX12_readNot 84 = .ok (.iload_n 1, 1)) ∧ (decode cX12_readNot 85 = .ok (.invokevirtual 248, 3)) ∧ (decode cX12_readNot 88 = .ok (.aload_n 0, 1)) ∧ (decode cX12_readNot 89 = .ok (.iload_n 3, 1)) ∧ (decode cX12_readNot 90 = .ok (.invokevirtual 227, 3)) ∧ (decode cX12_readNot 93 = .ok (.iconst 0, 1)) ∧ (decode cX12_readNot 94 = .ok (.istore_n 3, 1)) ∧ (decode cX12_readNot 95 = .ok (.iload_n 3, 1)) ∧ (decode cX12_readNot 96 = .ok (.iload_n 2, 1)) := by decide +kernel
theorem dX12_readNot_83 : decode cX12_readNot 83 = .ok (.aload_n 0, 1) := bdX12_readNot_83.1
theorem dX12_readNot_84 : decode cX12_readNot 84 = .ok (.iload_n 1, 1) := bdX12_readNot_83.2.1
theorem dX12_readNot_85 : decode cX12_readNot 85 = .ok (.invokevirtual 248, 3) := bdX12_readNot_83.2.2.1
theorem dX12_readNot_88 : decode cX12_readNot 88 = .ok (.aload_n 0, 1) := bdX12_readNot_83.2.2.2.1
theorem dX12_readNot_89 : decode cX12_readNot 89 = .ok (.iload_n 3, 1) := bdX12_readNot_83.2.2.2.2.1
theorem dX12_readNot_90 : decode cX12_readNot 90 = .ok (.invokevirtual 227, 3) := bdX12_readNot_83.2.2.2.2.2.1
theorem dX12_readNot_93 : decode cX12_readNot 93 = .ok (.iconst 0, 1) := bdX12_readNot_83.2.2.2.2.2.2.1
theorem dX12_readNot_94 : decode cX12_readNot 94 = .ok (.istore_n 3, 1) := bdX12_readNot_83.2.2.2.2.2.2.2.1
theorem dX12_readNot_95 : decode cX12_readNot 95 = .ok (.iload_n 3, 1) := bdX12_readNot_83.2.2.2.2.2.2.2.2.1
theorem dX12_readNot_96 : decode cX12_readNot 96 = .ok (.iload_n 2, 1) := bdX12_readNot_83.2.2.2.2.2.2.2.2.2
theorem bdX12_readNot_97 : (decode cX12_readNot 97 = .ok (.if_icmp .ge 15, 3)) ∧ (decode cX12_readNot 100 = .ok (.aload_n 0, 1)) ∧ (decode cX12_readNot 101 = .ok (.bipush (-28), 2)) ∧ (decode cX12_readNot 103 = .ok (.invokevirtual 227, 3)) ∧ (decode cX12_readNot 106 = .ok (.iinc 3 1, 3)) ∧ (decode cX12_readNot 109 = .ok (.goto (-14), 3)) ∧ (decode cX12_readNot 112 = .ok (.return_, 1)) := by decide +kernel
theorem dX12_readNot_97 : decode cX12_readNot 97 = .ok (.if_icmp .ge 15, 3) := bdX12_readNot_97.1
theorem dX12_readNot_100 : decode cX12_readNot 100 = .ok (.aload_n 0, 1) := bdX12_readNot_97.2.1
theorem dX12_readNot_101 : decode cX12_readNot 101 = .ok (.bipush (-28), 2) := bdX12_readNot_97.2.2.1
theorem dX12_readNot_103 : decode cX12_readNot 103 = .ok (.invokevirtual 227, 3) := bdX12_readNot_97.2.2.2.1
theorem dX12_readNot_106 : decode cX12_readNot 106 = .ok (.iinc 3 1, 3) := bdX12_readNot_97.2.2.2.2.1
theorem dX12_readNot_109 : decode cX12_readNot 109 = .ok (.goto (-14), 3) := bdX12_readNot_97.2.2.2.2.2.1
theorem dX12_readNot_112 : decode cX12_readNot 112 = .ok (.return_, 1) := bdX12_readNot_97.2.2.2.2.2.2
theorem bdX12_readAnd_0 : (decode cX12_readAnd 0 = .ok (.aload_n 0, 1)) ∧ (decode cX12_readAnd 1 = .ok (.iload_n 1, 1)) ∧ (decode cX12_readAnd 2 = .ok (.invokevirtual 251, 3)) ∧ (decode cX12_readAnd 5 = .ok (.aload_n 0, 1)) ∧ (decode cX12_readAnd 6 = .ok (.ldc 254, 2)) ∧ (decode cX12_readAnd 8 = .ok (.invokevirtual 203, 3)) ∧ (decode cX12_readAnd 11 = .ok (.ifCond .eq 21, 3)) ∧ (decode cX12_readAnd 14 = .ok (.aload_n 0, 1)) ∧ (decode cX12_readAnd 15 = .ok (.invokevirtual 214, 3)) ∧ (decode cX12_readAnd 18 = .ok (.aload_n 0, 1)) := by decide +kernel
theorem dX12_readAnd_0 : decode cX12_readAnd 0 = .ok (.aload_n 0, 1) := bdX12_readAnd_0.1
theorem dX12_readAnd_1 : decode cX12_readAnd 1 = .ok (.iload_n 1, 1) := bdX12_readAnd_0.2.1
theorem dX12_readAnd_2 : decode cX12_readAnd 2 = .ok (.invokevirtual 251, 3) := bdX12_readAnd_0.2.2.1
theorem dX12_readAnd_5 : decode cX12_readAnd 5 = .ok (.aload_n 0, 1) := bdX12_readAnd_0.2.2.2.1
theorem dX12_readAnd_6 : decode cX12_readAnd 6 = .ok (.ldc 254, 2) := bdX12_readAnd_0.2.2.2.2.1
theorem dX12_readAnd_8 : decode cX12_readAnd 8 = .ok (.invokevirtual 203, 3) := bdX12_readAnd_0.2.2.2.2.2.1
theorem dX12_readAnd_11 : decode cX12_readAnd 11 = .ok (.ifCond .eq 21, 3) := bdX12_readAnd_0.2.2.2.2.2.2.1
theorem dX12_readAnd_14 : decode cX12_readAnd 14 = .ok (.aload_n 0, 1) := bdX12_readAnd_0.2.2.2.2.2.2.2.1
theorem dX12_readAnd_15 : decode cX12_readAnd 15 = .ok (.invokevirtual 214, 3) := bdX12_readAnd_0.2.2.2.2.2.2.2.2.1
theorem dX12_readAnd_18 : decode cX12_readAnd 18 = .ok (.aload_n 0, 1) := bdX12_readAnd_0.2.2.2.2.2.2.2.2.2
theorem bdX12_readAnd_19 : (decode cX12_readAnd 19 = .ok (.iload_n 1, 1)) ∧ (decode cX12_readAnd 20 = .ok (.invokevirtual 251, 3)) ∧ (decode cX12_readAnd 23 = .ok (.aload_n 0, 1)) ∧ (decode cX12_readAnd 24 = .ok (.bipush (-26), 2)) ∧ (decode cX12_readAnd 26 = .ok (.invokevirtual 227, 3)) ∧ (decode cX12_readAnd 29 = .ok (.goto (-24), 3)) ∧ (decode cX12_readAnd 32 = .ok (.return_, 1)) := by decide +kernel
theorem dX12_readAnd_19 : decode cX12_readAnd 19 = .ok (.iload_n 1, 1) := bdX12_readAnd_19.1
theorem dX12_readAnd_20 : decode cX12_readAnd 20 = .ok (.invokevirtual 251, 3) := bdX12_readAnd_19.2.1
theorem dX12_readAnd_23 : decode cX12_readAnd 23 = .ok (.aload_n 0, 1) := bdX12_readAnd_19.2.2.1
theorem dX12_readAnd_24 : decode cX12_readAnd 24 = .ok (.bipush (-26), 2) := bdX12_readAnd_19.2.2.2.1
theorem dX12_readAnd_26 : decode cX12_readAnd 26 = .ok (.invokevirtual 227, 3) := bdX12_readAnd_19.2.2.2.2.1
theorem dX12_readAnd_29 : decode cX12_readAnd 29 = .ok (.goto (-24), 3) := bdX12_readAnd_19.2.2.2.2.2.1
theorem dX12_readAnd_32 : decode cX12_readAnd 32 = .ok (.return_, 1) := bdX12_readAnd_19.2.2.2.2.2.2
theorem bdX12_readExpression_0 : (decode cX12_readExpression 0 = .ok (.aload_n 0, 1)) ∧ (decode cX12_readExpression 1 = .ok (.getfield 189, 3)) ∧ (decode cX12_readExpression 4 = .ok (.ifCond .eq 4, 3)) ∧ (decode cX12_readExpression 7 = .ok (.return_, 1)) ∧ (decode cX12_readExpression 8 = .ok (.aload_n 0, 1)) ∧ (decode cX12_readExpression 9 = .ok (.getfield 163, 3)) ∧ (decode cX12_readExpression 12 = .ok (.iconst 2, 1)) ∧ (decode cX12_readExpression 13 = .ok (.if_icmp .eq 20, 3)) ∧ (decode cX12_readExpression 16 = .ok (.aload_n 0, 1)) ∧ (decode cX12_readExpression 17 = .ok (.getfield 163, 3)) := by decide +kernel
theorem dX12_readExpression_0 : decode cX12_readExpression 0 = .ok (.aload_n 0, 1) := bdX12_readExpression_0.1
theorem dX12_readExpression_1 : decode cX12_readExpression 1 = .ok (.getfield 189, 3) := bdX12_readExpression_0.2.1
theorem dX12_readExpression_4 : decode cX12_readExpression 4 = .ok (.ifCond .eq 4, 3) := bdX12_readExpression_0.2.2.1
theorem dX12_readExpression_7 : decode cX12_readExpression 7 = .ok (.return_, 1) := bdX12_readExpression_0.2.2.2.1
theorem dX12_readExpression_8 : decode cX12_readExpression 8 = .ok (.aload_n 0, 1) := bdX12_readExpression_0.2.2.2.2.1
theorem dX12_readExpression_9 : decode cX12_readExpression 9 = .ok (.getfield 163, 3) := bdX12_readExpression_0.2.2.2.2.2.1
theorem dX12_readExpression_12 : decode cX12_readExpression 12 = .ok (.iconst 2, 1) := bdX12_readExpression_0.2.2.2.2.2.2.1
theorem dX12_readExpression_13 : decode cX12_readExpression 13 = .ok (.if_icmp .eq 20, 3) := bdX12_readExpression_0.2.2.2.2.2.2.2.1
theorem dX12_readExpression_16 : decode cX12_readExpression 16 = .ok (.aload_n 0, 1) := bdX12_readExpression_0.2.2.2.2.2.2.2.2.1
theorem dX12_readExpression_17 : decode cX12_readExpression 17 = .ok (.getfield 163, 3) := bdX12_readExpression_0.2.2.2.2.2.2.2.2.2
theorem bdX12_readExpression_20 : (decode cX12_readExpression 20 = .ok (.iconst 1, 1)) ∧ (decode cX12_readExpression 21 = .ok (.if_icmp .eq 12, 3)) ∧ (decode cX12_readExpression 24 = .ok (.aload_n 0, 1)) ∧ (decode cX12_readExpression 25 = .ok (.bipush 40, 2)) ∧ (decode cX12_readExpression 27 = .ok (.invokevirtual 207, 3)) ∧ (decode cX12_readExpression 30 = .ok (.ifCond .eq 7, 3)) ∧ (decode cX12_readExpression 33 = .ok (.iconst 1, 1)) ∧ (decode cX12_readExpression 34 = .ok (.goto 4, 3)) ∧ (decode cX12_readExpression 37 = .ok (.iconst 0, 1)) ∧ (decode cX12_readExpression 38 = .ok (.istore_n 2, 1)) := by decide +kernel
theorem dX12_readExpression_20 : decode cX12_readExpression 20 = .ok (.iconst 1, 1) := bdX12_readExpression_20.1
theorem dX12_readExpression_21 : decode cX12_readExpression 21 = .ok (.if_icmp .eq 12, 3) := bdX12_readExpression_20.2.1
theorem dX12_readExpression_24 : decode cX12_readExpression 24 = .ok (.aload_n 0, 1) := bdX12_readExpression_20.2.2.1
theorem dX12_readExpression_25 : decode cX12_readExpression 25 = .ok (.bipush 40, 2) := bdX12_readExpression_20.2.2.2.1
theorem dX12_readExpression_27 : decode cX12_readExpression 27 = .ok (.invokevirtual 207, 3) := bdX12_readExpression_20.2.2.2.2.1
theorem dX12_readExpression_30 : decode cX12_readExpression 30 = .ok (.ifCond .eq 7, 3) := bdX12_readExpression_20.2.2.2.2.2.1
theorem dX12_readExpression_33 : decode cX12_readExpression 33 = .ok (.iconst 1, 1) := bdX12_readExpression_20.2.2.2.2.2.2.1
theorem dX12_readExpression_34 : decode cX12_readExpression 34 = .ok (.goto 4, 3) := bdX12_readExpression_20.2.2.2.2.2.2.2.1
theorem dX12_readExpression_37 : decode cX12_readExpression 37 = .ok (.iconst 0, 1) := bdX12_readExpression_20.2.2.2.2.2.2.2.2.1
theorem dX12_readExpression_38 : decode cX12_readExpression 38 = .ok (.istore_n 2, 1) := bdX12_readExpression_20.2.2.2.2.2.2.2.2.2
theorem bdX12_readExpression_39 : (decode cX12_readExpression 39 = .ok (.iload_n 2, 1)) ∧ (decode cX12_readExpression 40 = .ok (.ifCond .ne 11, 3)) ∧ (decode cX12_readExpression 43 = .ok (.aload_n 0, 1)) ∧ (decode cX12_readExpression 44 = .ok (.iconst 1, 1)) ∧ (decode cX12_readExpression 45 = .ok (.invokevirtual 210, 3)) ∧ (decode cX12_readExpression 48 = .ok (.goto 14, 3)) ∧ (decode cX12_readExpression 51 = .ok (.iload_n 1, 1)) ∧ (decode cX12_readExpression 52 = .ok (.bipush 6, 2)) ∧ (decode cX12_readExpression 54 = .ok (.if_icmp .ne 8, 3)) ∧ (decode cX12_readExpression 57 = .ok (.aload_n 0, 1)) := by decide +kernel
theorem dX12_readExpression_39 : decode cX12_readExpression 39 = .ok (.iload_n 2, 1) := bdX12_readExpression_39.1
theorem dX12_readExpression_40 : decode cX12_readExpression 40 = .ok (.ifCond .ne 11, 3) := bdX12_readExpression_39.2.1
theorem dX12_readExpression_43 : decode cX12_readExpression 43 = .ok (.aload_n 0, 1) := bdX12_readExpression_39.2.2.1
theorem dX12_readExpression_44 : decode cX12_readExpression 44 = .ok (.iconst 1, 1) := bdX12_readExpression_39.2.2.2.1
theorem dX12_readExpression_45 : decode cX12_readExpression 45 = .ok (.invokevirtual 210, 3) := bdX12_readExpression_39.2.2.2.2.1
theorem dX12_readExpression_48 : decode cX12_readExpression 48 = .ok (.goto 14, 3) := bdX12_readExpression_39.2.2.2.2.2.1
theorem dX12_readExpression_51 : decode cX12_readExpression 51 = .ok (.iload_n 1, 1) := bdX12_readExpression_39.2.2.2.2.2.2.1
theorem dX12_readExpression_52 : decode cX12_readExpression 52 = .ok (.bipush 6, 2) := bdX12_readExpression_39.2.2.2.2.2.2.2.1
theorem dX12_readExpression_54 : decode cX12_readExpression 54 = .ok (.if_icmp .ne 8, 3) := bdX12_readExpression_39.2.2.2.2.2.2.2.2.1
theorem dX12_readExpression_57 : decode cX12_readExpression 57 = .ok (.aload_n 0, 1) := bdX12_readExpression_39.2.2.2.2.2.2.2.2.2
theorem bdX12_readExpression_58 : (decode cX12_readExpression 58 = .ok (.iconst 2, 1)) ∧ (decode cX12_readExpression 59 = .ok (.invokevirtual 210, 3)) ∧ (decode cX12_readExpression 62 = .ok (.aload_n 0, 1)) ∧ (decode cX12_readExpression 63 = .ok (.iload_n 1, 1)) ∧ (decode cX12_readExpression 64 = .ok (.invokevirtual 256, 3)) ∧ (decode cX12_readExpression 67 = .ok (.aload_n 0, 1)) ∧ (decode cX12_readExpression 68 = .ok (.ldc_w 259, 3)) ∧ (decode cX12_readExpression 71 = .ok (.invokevirtual 203, 3)) ∧ (decode cX12_readExpression 74 = .ok (.ifCond .eq 21, 3)) ∧ (decode cX12_readExpression 77 = .ok (.aload_n 0, 1)) := by decide +kernel
theorem dX12_readExpression_58 : decode cX12_readExpression 58 = .ok (.iconst 2, 1) := bdX12_readExpression_58.1
theorem dX12_readExpression_59 : decode cX12_readExpression 59 = .ok (.invokevirtual 210, 3) := bdX12_readExpression_58.2.1
theorem dX12_readExpression_62 : decode cX12_readExpression 62 = .ok (.aload_n 0, 1) := bdX12_readExpression_58.2.2.1
theorem dX12_readExpression_63 : decode cX12_readExpression 63 = .ok (.iload_n 1, 1) := bdX12_readExpression_58.2.2.2.1
theorem dX12_readExpression_64 : decode cX12_readExpression 64 = .ok (.invokevirtual 256, 3) := bdX12_readExpression_58.2.2.2.2.1
theorem dX12_readExpression_67 : decode cX12_readExpression 67 = .ok (.aload_n 0, 1) := bdX12_readExpression_58.2.2.2.2.2.1
theorem dX12_readExpression_68 : decode cX12_readExpression 68 = .ok (.ldc_w 259, 3) := bdX12_readExpression_58.2.2.2.2.2.2.1
theorem dX12_readExpression_71 : decode cX12_readExpression 71 = .ok (.invokevirtual 203, 3) := bdX12_readExpression_58.2.2.2.2.2.2.2.1
theorem dX12_readExpression_74 : decode cX12_readExpression 74 = .ok (.ifCond .eq 21, 3) := bdX12_readExpression_58.2.2.2.2.2.2.2.2.1
theorem dX12_readExpression_77 : decode cX12_readExpression 77 = .ok (.aload_n 0, 1) := bdX12_readExpression_58.2.2.2.2.2.2.2.2.2
theorem bdX12_readExpression_78 : (decode cX12_readExpression 78 = .ok (.invokevirtual 214, 3)) ∧ (decode cX12_readExpression 81 = .ok (.aload_n 0, 1)) ∧ (decode cX12_readExpression 82 = .ok (.iload_n 1, 1)) ∧ (decode cX12_readExpression 83 = .ok (.invokevirtual 256, 3)) ∧ (decode cX12_readExpression 86 = .ok (.aload_n 0, 1)) ∧ (decode cX12_readExpression 87 = .ok (.bipush (-27), 2)) ∧ (decode cX12_readExpression 89 = .ok (.invokevirtual 227, 3)) ∧ (decode cX12_readExpression 92 = .ok (.goto (-25), 3)) ∧ (decode cX12_readExpression 95 = .ok (.return_, 1)) := by decide +kernel
theorem dX12_readExpression_78 : decode cX12_readExpression 78 = .ok (.invokevirtual 214, 3) := bdX12_readExpression_78.1
theorem dX12_readExpression_81 : decode cX12_readExpression 81 = .ok (.aload_n 0, 1) := bdX12_readExpression_78.2.1
theorem dX12_readExpression_82 : decode cX12_readExpression 82 = .ok (.iload_n 1, 1) := bdX12_readExpression_78.2.2.1
theorem dX12_readExpression_83 : decode cX12_readExpression 83 = .ok (.invokevirtual 256, 3) := bdX12_readExpression_78.2.2.2.1
theorem dX12_readExpression_86 : decode cX12_readExpression 86 = .ok (.aload_n 0, 1) := bdX12_readExpression_78.2.2.2.2.1
theorem dX12_readExpression_87 : decode cX12_readExpression 87 = .ok (.bipush (-27), 2) := bdX12_readExpression_78.2.2.2.2.2.1
theorem dX12_readExpression_89 : decode cX12_readExpression 89 = .ok (.invokevirtual 227, 3) := bdX12_readExpression_78.2.2.2.2.2.2.1
theorem dX12_readExpression_92 : decode cX12_readExpression 92 = .ok (.goto (-25), 3) := bdX12_readExpression_78.2.2.2.2.2.2.2.1
theorem dX12_readExpression_95 : decode cX12_readExpression 95 = .ok (.return_, 1) := bdX12_readExpression_78.2.2.2.2.2.2.2.2
theorem bdX12_another_0 : (decode cX12_another 0 = .ok (.aload_n 0, 1)) ∧ (decode cX12_another 1 = .ok (.getfield 35, 3)) ∧ (decode cX12_another 4 = .ok (.bipush 8, 2)) ∧ (decode cX12_another 6 = .ok (.iload_n 1, 1)) ∧ (decode cX12_another 7 = .ok (.iadd, 1)) ∧ (decode cX12_another 8 = .ok (.iaload, 1)) ∧ (decode cX12_another 9 = .ok (.iload_n 2, 1)) ∧ (decode cX12_another 10 = .ok (.if_icmp .ne 8, 3)) ∧ (decode cX12_another 13 = .ok (.aload_n 0, 1)) ∧ (decode cX12_another 14 = .ok (.iconst 2, 1)) := by decide +kernel
theorem dX12_another_0 : decode cX12_another 0 = .ok (.aload_n 0, 1) := bdX12_another_0.1
theorem dX12_another_1 : decode cX12_another 1 = .ok (.getfield 35, 3) := bdX12_another_0.2.1
theorem dX12_another_4 : decode cX12_another 4 = .ok (.bipush 8, 2) := bdX12_another_0.2.2.1
theorem dX12_another_6 : decode cX12_another 6 = .ok (.iload_n 1, 1) := bdX12_another_0.2.2.2.1
theorem dX12_another_7 : decode cX12_another 7 = .ok (.iadd, 1) := bdX12_another_0.2.2.2.2.1
theorem dX12_another_8 : decode cX12_another 8 = .ok (.iaload, 1) := bdX12_another_0.2.2.2.2.2.1
theorem dX12_another_9 : decode cX12_another 9 = .ok (.iload_n 2, 1) := bdX12_another_0.2.2.2.2.2.2.1
theorem dX12_another_10 : decode cX12_another 10 = .ok (.if_icmp .ne 8, 3) := bdX12_another_0.2.2.2.2.2.2.2.1
theorem dX12_another_13 : decode cX12_another 13 = .ok (.aload_n 0, 1) := bdX12_another_0.2.2.2.2.2.2.2.2.1
theorem dX12_another_14 : decode cX12_another 14 = .ok (.iconst 2, 1) := bdX12_another_0.2.2.2.2.2.2.2.2.2
theorem bdX12_another_15 : (decode cX12_another 15 = .ok (.invokevirtual 210, 3)) ∧ (decode cX12_another 18 = .ok (.aload_n 0, 1)) ∧ (decode cX12_another 19 = .ok (.getfield 189, 3)) ∧ (decode cX12_another 22 = .ok (.ifCond .eq 5, 3)) ∧ (decode cX12_another 25 = .ok (.iconst 0, 1)) ∧ (decode cX12_another 26 = .ok (.ireturn, 1)) ∧ (decode cX12_another 27 = .ok (.aload_n 0, 1)) ∧ (decode cX12_another 28 = .ok (.invokevirtual 214, 3)) ∧ (decode cX12_another 31 = .ok (.iconst 1, 1)) ∧ (decode cX12_another 32 = .ok (.ireturn, 1)) := by decide +kernel
theorem dX12_another_15 : decode cX12_another 15 = .ok (.invokevirtual 210, 3) := bdX12_another_15.1
theorem dX12_another_18 : decode cX12_another 18 = .ok (.aload_n 0, 1) := bdX12_another_15.2.1
theorem dX12_another_19 : decode cX12_another 19 = .ok (.getfield 189, 3) := bdX12_another_15.2.2.1
theorem dX12_another_22 : decode cX12_another 22 = .ok (.ifCond .eq 5, 3) := bdX12_another_15.2.2.2.1
theorem dX12_another_25 : decode cX12_another 25 = .ok (.iconst 0, 1) := bdX12_another_15.2.2.2.2.1
theorem dX12_another_26 : decode cX12_another 26 = .ok (.ireturn, 1) := bdX12_another_15.2.2.2.2.2.1
theorem dX12_another_27 : decode cX12_another 27 = .ok (.aload_n 0, 1) := bdX12_another_15.2.2.2.2.2.2.1
theorem dX12_another_28 : decode cX12_another 28 = .ok (.invokevirtual 214, 3) := bdX12_another_15.2.2.2.2.2.2.2.1
theorem dX12_another_31 : decode cX12_another 31 = .ok (.iconst 1, 1) := bdX12_another_15.2.2.2.2.2.2.2.2.1
theorem dX12_another_32 : decode cX12_another 32 = .ok (.ireturn, 1) := bdX12_another_15.2.2.2.2.2.2.2.2.2
theorem bdX12_sayHouse_0 : (decode cX12_sayHouse 0 = .ok (.aload_n 0, 1)) ∧ (decode cX12_sayHouse 1 = .ok (.iconst 0, 1)) ∧ (decode cX12_sayHouse 2 = .ok (.bipush 8, 2)) ∧ (decode cX12_sayHouse 4 = .ok (.invokevirtual 261, 3)) ∧ (decode cX12_sayHouse 7 = .ok (.ifCond .ne 4, 3)) ∧ (decode cX12_sayHouse 10 = .ok (.return_, 1)) ∧ (decode cX12_sayHouse 11 = .ok (.bipush 8, 2)) ∧ (decode cX12_sayHouse 13 = .ok (.aload_n 0, 1)) ∧ (decode cX12_sayHouse 14 = .ok (.getfield 35, 3)) ∧ (decode cX12_sayHouse 17 = .ok (.bipush 8, 2)) := by decide +kernel
theorem dX12_sayHouse_0 : decode cX12_sayHouse 0 = .ok (.aload_n 0, 1) := bdX12_sayHouse_0.1
theorem dX12_sayHouse_1 : decode cX12_sayHouse 1 = .ok (.iconst 0, 1) := bdX12_sayHouse_0.2.1
theorem dX12_sayHouse_2 : decode cX12_sayHouse 2 = .ok (.bipush 8, 2) := bdX12_sayHouse_0.2.2.1
theorem dX12_sayHouse_4 : decode cX12_sayHouse 4 = .ok (.invokevirtual 261, 3) := bdX12_sayHouse_0.2.2.2.1
theorem dX12_sayHouse_7 : decode cX12_sayHouse 7 = .ok (.ifCond .ne 4, 3) := bdX12_sayHouse_0.2.2.2.2.1
theorem dX12_sayHouse_10 : decode cX12_sayHouse 10 = .ok (.return_, 1) := bdX12_sayHouse_0.2.2.2.2.2.1
theorem dX12_sayHouse_11 : decode cX12_sayHouse 11 = .ok (.bipush 8, 2) := bdX12_sayHouse_0.2.2.2.2.2.2.1
theorem dX12_sayHouse_13 : decode cX12_sayHouse 13 = .ok (.aload_n 0, 1) := bdX12_sayHouse_0.2.2.2.2.2.2.2.1
theorem dX12_sayHouse_14 : decode cX12_sayHouse 14 = .ok (.getfield 35, 3) := bdX12_sayHouse_0.2.2.2.2.2.2.2.2.1
theorem dX12_sayHouse_17 : decode cX12_sayHouse 17 = .ok (.bipush 8, 2) := bdX12_sayHouse_0.2.2.2.2.2.2.2.2.2
theorem bdX12_sayHouse_19 : (decode cX12_sayHouse 19 = .ok (.iaload, 1)) ∧ (decode cX12_sayHouse 20 = .ok (.iadd, 1)) ∧ (decode cX12_sayHouse 21 = .ok (.istore_n 1, 1)) ∧ (decode cX12_sayHouse 22 = .ok (.aload_n 0, 1)) ∧ (decode cX12_sayHouse 23 = .ok (.getfield 39, 3)) ∧ (decode cX12_sayHouse 26 = .ok (.iload_n 1, 1)) ∧ (decode cX12_sayHouse 27 = .ok (.aload_n 0, 1)) ∧ (decode cX12_sayHouse 28 = .ok (.iconst 0, 1)) ∧ (decode cX12_sayHouse 29 = .ok (.bipush 9, 2)) ∧ (decode cX12_sayHouse 31 = .ok (.invokevirtual 224, 3)) := by decide +kernel
theorem dX12_sayHouse_19 : decode cX12_sayHouse 19 = .ok (.iaload, 1) := bdX12_sayHouse_19.1
theorem dX12_sayHouse_20 : decode cX12_sayHouse 20 = .ok (.iadd, 1) := bdX12_sayHouse_19.2.1
theorem dX12_sayHouse_21 : decode cX12_sayHouse 21 = .ok (.istore_n 1, 1) := bdX12_sayHouse_19.2.2.1
theorem dX12_sayHouse_22 : decode cX12_sayHouse 22 = .ok (.aload_n 0, 1) := bdX12_sayHouse_19.2.2.2.1
theorem dX12_sayHouse_23 : decode cX12_sayHouse 23 = .ok (.getfield 39, 3) := bdX12_sayHouse_19.2.2.2.2.1
theorem dX12_sayHouse_26 : decode cX12_sayHouse 26 = .ok (.iload_n 1, 1) := bdX12_sayHouse_19.2.2.2.2.2.1
theorem dX12_sayHouse_27 : decode cX12_sayHouse 27 = .ok (.aload_n 0, 1) := bdX12_sayHouse_19.2.2.2.2.2.2.1
theorem dX12_sayHouse_28 : decode cX12_sayHouse 28 = .ok (.iconst 0, 1) := bdX12_sayHouse_19.2.2.2.2.2.2.2.1
theorem dX12_sayHouse_29 : decode cX12_sayHouse 29 = .ok (.bipush 9, 2) := bdX12_sayHouse_19.2.2.2.2.2.2.2.2.1
theorem dX12_sayHouse_31 : decode cX12_sayHouse 31 = .ok (.invokevirtual 224, 3) := bdX12_sayHouse_19.2.2.2.2.2.2.2.2.2
theorem bdX12_sayHouse_34 : (decode cX12_sayHouse 34 = .ok (.iastore, 1)) ∧ (decode cX12_sayHouse 35 = .ok (.aload_n 0, 1)) ∧ (decode cX12_sayHouse 36 = .ok (.getfield 42, 3)) ∧ (decode cX12_sayHouse 39 = .ok (.iload_n 1, 1)) ∧ (decode cX12_sayHouse 40 = .ok (.aload_n 0, 1)) ∧ (decode cX12_sayHouse 41 = .ok (.iconst 0, 1)) ∧ (decode cX12_sayHouse 42 = .ok (.bipush 9, 2)) ∧ (decode cX12_sayHouse 44 = .ok (.invokevirtual 224, 3)) ∧ (decode cX12_sayHouse 47 = .ok (.iastore, 1)) ∧ (decode cX12_sayHouse 48 = .ok (.aload_n 0, 1)) := by decide +kernel
theorem dX12_sayHouse_34 : decode cX12_sayHouse 34 = .ok (.iastore, 1) := bdX12_sayHouse_34.1
theorem dX12_sayHouse_35 : decode cX12_sayHouse 35 = .ok (.aload_n 0, 1) := bdX12_sayHouse_34.2.1
theorem dX12_sayHouse_36 : decode cX12_sayHouse 36 = .ok (.getfield 42, 3) := bdX12_sayHouse_34.2.2.1
theorem dX12_sayHouse_39 : decode cX12_sayHouse 39 = .ok (.iload_n 1, 1) := bdX12_sayHouse_34.2.2.2.1
theorem dX12_sayHouse_40 : decode cX12_sayHouse 40 = .ok (.aload_n 0, 1) := bdX12_sayHouse_34.2.2.2.2.1
theorem dX12_sayHouse_41 : decode cX12_sayHouse 41 = .ok (.iconst 0, 1) := bdX12_sayHouse_34.2.2.2.2.2.1
theorem dX12_sayHouse_42 : decode cX12_sayHouse 42 = .ok (.bipush 9, 2) := bdX12_sayHouse_34.2.2.2.2.2.2.1
theorem dX12_sayHouse_44 : decode cX12_sayHouse 44 = .ok (.invokevirtual 224, 3) := bdX12_sayHouse_34.2.2.2.2.2.2.2.1
theorem dX12_sayHouse_47 : decode cX12_sayHouse 47 = .ok (.iastore, 1) := bdX12_sayHouse_34.2.2.2.2.2.2.2.2.1
theorem dX12_sayHouse_48 : decode cX12_sayHouse 48 = .ok (.aload_n 0, 1) := bdX12_sayHouse_34.2.2.2.2.2.2.2.2.2
theorem bdX12_sayHouse_49 : (decode cX12_sayHouse 49 = .ok (.getfield 44, 3)) ∧ (decode cX12_sayHouse 52 = .ok (.iload_n 1, 1)) ∧ (decode cX12_sayHouse 53 = .ok (.aload_n 0, 1)) ∧ (decode cX12_sayHouse 54 = .ok (.iconst 0, 1)) ∧ (decode cX12_sayHouse 55 = .ok (.iconst 2, 1)) ∧ (decode cX12_sayHouse 56 = .ok (.invokevirtual 224, 3)) ∧ (decode cX12_sayHouse 59 = .ok (.iastore, 1)) ∧ (decode cX12_sayHouse 60 = .ok (.aload_n 0, 1)) ∧ (decode cX12_sayHouse 61 = .ok (.getfield 35, 3)) ∧ (decode cX12_sayHouse 64 = .ok (.bipush 8, 2)) := by decide +kernel
theorem dX12_sayHouse_49 : decode cX12_sayHouse 49 = .ok (.getfield 44, 3) := bdX12_sayHouse_49.1
theorem dX12_sayHouse_52 : decode cX12_sayHouse 52 = .ok (.iload_n 1, 1) := bdX12_sayHouse_49.2.1
theorem dX12_sayHouse_53 : decode cX12_sayHouse 53 = .ok (.aload_n 0, 1) := bdX12_sayHouse_49.2.2.1
theorem dX12_sayHouse_54 : decode cX12_sayHouse 54 = .ok (.iconst 0, 1) := bdX12_sayHouse_49.2.2.2.1
theorem dX12_sayHouse_55 : decode cX12_sayHouse 55 = .ok (.iconst 2, 1) := bdX12_sayHouse_49.2.2.2.2.1
theorem dX12_sayHouse_56 : decode cX12_sayHouse 56 = .ok (.invokevirtual 224, 3) := bdX12_sayHouse_49.2.2.2.2.2.1
theorem dX12_sayHouse_59 : decode cX12_sayHouse 59 = .ok (.iastore, 1) := bdX12_sayHouse_49.2.2.2.2.2.2.1
theorem dX12_sayHouse_60 : decode cX12_sayHouse 60 = .ok (.aload_n 0, 1) := bdX12_sayHouse_49.2.2.2.2.2.2.2.1
theorem dX12_sayHouse_61 : decode cX12_sayHouse 61 = .ok (.getfield 35, 3) := bdX12_sayHouse_49.2.2.2.2.2.2.2.2.1
theorem dX12_sayHouse_64 : decode cX12_sayHouse 64 = .ok (.bipush 8, 2) := bdX12_sayHouse_49.2.2.2.2.2.2.2.2.2
theorem bdX12_sayHouse_66 : (decode cX12_sayHouse 66 = .ok (.dup2, 1)) ∧ (decode cX12_sayHouse 67 = .ok (.iaload, 1)) ∧ (decode cX12_sayHouse 68 = .ok (.iconst 1, 1)) ∧ (decode cX12_sayHouse 69 = .ok (.iadd, 1)) ∧ (decode cX12_sayHouse 70 = .ok (.iastore, 1)) ∧ (decode cX12_sayHouse 71 = .ok (.return_, 1)) := by decide +kernel
theorem dX12_sayHouse_66 : decode cX12_sayHouse 66 = .ok (.dup2, 1) := bdX12_sayHouse_66.1
theorem dX12_sayHouse_67 : decode cX12_sayHouse 67 = .ok (.iaload, 1) := bdX12_sayHouse_66.2.1
theorem dX12_sayHouse_68 : decode cX12_sayHouse 68 = .ok (.iconst 1, 1) := bdX12_sayHouse_66.2.2.1
theorem dX12_sayHouse_69 : decode cX12_sayHouse 69 = .ok (.iadd, 1) := bdX12_sayHouse_66.2.2.2.1
theorem dX12_sayHouse_70 : decode cX12_sayHouse 70 = .ok (.iastore, 1) := bdX12_sayHouse_66.2.2.2.2.1
theorem dX12_sayHouse_71 : decode cX12_sayHouse 71 = .ok (.return_, 1) := bdX12_sayHouse_66.2.2.2.2.2
theorem bdX12_sayPlot_0 : (decode cX12_sayPlot 0 = .ok (.aload_n 0, 1)) ∧ (decode cX12_sayPlot 1 = .ok (.iconst 1, 1)) ∧ (decode cX12_sayPlot 2 = .ok (.bipush 9, 2)) ∧ (decode cX12_sayPlot 4 = .ok (.invokevirtual 261, 3)) ∧ (decode cX12_sayPlot 7 = .ok (.ifCond .ne 4, 3)) ∧ (decode cX12_sayPlot 10 = .ok (.return_, 1)) ∧ (decode cX12_sayPlot 11 = .ok (.bipush 9, 2)) ∧ (decode cX12_sayPlot 13 = .ok (.aload_n 0, 1)) ∧ (decode cX12_sayPlot 14 = .ok (.getfield 35, 3)) ∧ (decode cX12_sayPlot 17 = .ok (.bipush 9, 2)) := by decide +kernel
theorem dX12_sayPlot_0 : decode cX12_sayPlot 0 = .ok (.aload_n 0, 1) := bdX12_sayPlot_0.1
theorem dX12_sayPlot_1 : decode cX12_sayPlot 1 = .ok (.iconst 1, 1) := bdX12_sayPlot_0.2.1
theorem dX12_sayPlot_2 : decode cX12_sayPlot 2 = .ok (.bipush 9, 2) := bdX12_sayPlot_0.2.2.1
theorem dX12_sayPlot_4 : decode cX12_sayPlot 4 = .ok (.invokevirtual 261, 3) := bdX12_sayPlot_0.2.2.2.1
theorem dX12_sayPlot_7 : decode cX12_sayPlot 7 = .ok (.ifCond .ne 4, 3) := bdX12_sayPlot_0.2.2.2.2.1
theorem dX12_sayPlot_10 : decode cX12_sayPlot 10 = .ok (.return_, 1) := bdX12_sayPlot_0.2.2.2.2.2.1
theorem dX12_sayPlot_11 : decode cX12_sayPlot 11 = .ok (.bipush 9, 2) := bdX12_sayPlot_0.2.2.2.2.2.2.1
theorem dX12_sayPlot_13 : decode cX12_sayPlot 13 = .ok (.aload_n 0, 1) := bdX12_sayPlot_0.2.2.2.2.2.2.2.1
theorem dX12_sayPlot_14 : decode cX12_sayPlot 14 = .ok (.getfield 35, 3) := bdX12_sayPlot_0.2.2.2.2.2.2.2.2.1
theorem dX12_sayPlot_17 : decode cX12_sayPlot 17 = .ok (.bipush 9, 2) := bdX12_sayPlot_0.2.2.2.2.2.2.2.2.2
theorem bdX12_sayPlot_19 : (decode cX12_sayPlot 19 = .ok (.iaload, 1)) ∧ (decode cX12_sayPlot 20 = .ok (.iadd, 1)) ∧ (decode cX12_sayPlot 21 = .ok (.istore_n 1, 1)) ∧ (decode cX12_sayPlot 22 = .ok (.aload_n 0, 1)) ∧ (decode cX12_sayPlot 23 = .ok (.getfield 46, 3)) ∧ (decode cX12_sayPlot 26 = .ok (.iload_n 1, 1)) ∧ (decode cX12_sayPlot 27 = .ok (.aload_n 0, 1)) ∧ (decode cX12_sayPlot 28 = .ok (.iconst 0, 1)) ∧ (decode cX12_sayPlot 29 = .ok (.bipush 20, 2)) ∧ (decode cX12_sayPlot 31 = .ok (.invokevirtual 224, 3)) := by decide +kernel
theorem dX12_sayPlot_19 : decode cX12_sayPlot 19 = .ok (.iaload, 1) := bdX12_sayPlot_19.1
theorem dX12_sayPlot_20 : decode cX12_sayPlot 20 = .ok (.iadd, 1) := bdX12_sayPlot_19.2.1
theorem dX12_sayPlot_21 : decode cX12_sayPlot 21 = .ok (.istore_n 1, 1) := bdX12_sayPlot_19.2.2.1
theorem dX12_sayPlot_22 : decode cX12_sayPlot 22 = .ok (.aload_n 0, 1) := bdX12_sayPlot_19.2.2.2.1
theorem dX12_sayPlot_23 : decode cX12_sayPlot 23 = .ok (.getfield 46, 3) := bdX12_sayPlot_19.2.2.2.2.1
theorem dX12_sayPlot_26 : decode cX12_sayPlot 26 = .ok (.iload_n 1, 1) := bdX12_sayPlot_19.2.2.2.2.2.1
theorem dX12_sayPlot_27 : decode cX12_sayPlot 27 = .ok (.aload_n 0, 1) := bdX12_sayPlot_19.2.2.2.2.2.2.1
theorem dX12_sayPlot_28 : decode cX12_sayPlot 28 = .ok (.iconst 0, 1) := bdX12_sayPlot_19.2.2.2.2.2.2.2.1
theorem dX12_sayPlot_29 : decode cX12_sayPlot 29 = .ok (.bipush 20, 2) := bdX12_sayPlot_19.2.2.2.2.2.2.2.2.1
theorem dX12_sayPlot_31 : decode cX12_sayPlot 31 = .ok (.invokevirtual 224, 3) := bdX12_sayPlot_19.2.2.2.2.2.2.2.2.2
theorem bdX12_sayPlot_34 : (decode cX12_sayPlot 34 = .ok (.iastore, 1)) ∧ (decode cX12_sayPlot 35 = .ok (.aload_n 0, 1)) ∧ (decode cX12_sayPlot 36 = .ok (.getfield 49, 3)) ∧ (decode cX12_sayPlot 39 = .ok (.iload_n 1, 1)) ∧ (decode cX12_sayPlot 40 = .ok (.aload_n 0, 1)) ∧ (decode cX12_sayPlot 41 = .ok (.iconst 0, 1)) ∧ (decode cX12_sayPlot 42 = .ok (.bipush 20, 2)) ∧ (decode cX12_sayPlot 44 = .ok (.invokevirtual 217, 3)) ∧ (decode cX12_sayPlot 47 = .ok (.iastore, 1)) ∧ (decode cX12_sayPlot 48 = .ok (.bipush 9, 2)) := by decide +kernel
theorem dX12_sayPlot_34 : decode cX12_sayPlot 34 = .ok (.iastore, 1) := bdX12_sayPlot_34.1
theorem dX12_sayPlot_35 : decode cX12_sayPlot 35 = .ok (.aload_n 0, 1) := bdX12_sayPlot_34.2.1
theorem dX12_sayPlot_36 : decode cX12_sayPlot 36 = .ok (.getfield 49, 3) := bdX12_sayPlot_34.2.2.1
theorem dX12_sayPlot_39 : decode cX12_sayPlot 39 = .ok (.iload_n 1, 1) := bdX12_sayPlot_34.2.2.2.1
theorem dX12_sayPlot_40 : decode cX12_sayPlot 40 = .ok (.aload_n 0, 1) := bdX12_sayPlot_34.2.2.2.2.1
theorem dX12_sayPlot_41 : decode cX12_sayPlot 41 = .ok (.iconst 0, 1) := bdX12_sayPlot_34.2.2.2.2.2.1
theorem dX12_sayPlot_42 : decode cX12_sayPlot 42 = .ok (.bipush 20, 2) := bdX12_sayPlot_34.2.2.2.2.2.2.1
theorem dX12_sayPlot_44 : decode cX12_sayPlot 44 = .ok (.invokevirtual 217, 3) := bdX12_sayPlot_34.2.2.2.2.2.2.2.1
theorem dX12_sayPlot_47 : decode cX12_sayPlot 47 = .ok (.iastore, 1) := bdX12_sayPlot_34.2.2.2.2.2.2.2.2.1
theorem dX12_sayPlot_48 : decode cX12_sayPlot 48 = .ok (.bipush 9, 2) := bdX12_sayPlot_34.2.2.2.2.2.2.2.2.2
theorem bdX12_sayPlot_50 : (decode cX12_sayPlot 50 = .ok (.istore_n 2, 1)) ∧ (decode cX12_sayPlot 51 = .ok (.aload_n 0, 1)) ∧ (decode cX12_sayPlot 52 = .ok (.getfield 189, 3)) ∧ (decode cX12_sayPlot 55 = .ok (.ifCond .ne 49, 3)) ∧ (decode cX12_sayPlot 58 = .ok (.iload_n 2, 1)) ∧ (decode cX12_sayPlot 59 = .ok (.iload_n 1, 1)) ∧ (decode cX12_sayPlot 60 = .ok (.if_icmp .ge 44, 3)) ∧ (decode cX12_sayPlot 63 = .ok (.aload_n 0, 1)) ∧ (decode cX12_sayPlot 64 = .ok (.getfield 46, 3)) ∧ (decode cX12_sayPlot 67 = .ok (.iload_n 2, 1)) := by decide +kernel
theorem dX12_sayPlot_50 : decode cX12_sayPlot 50 = .ok (.istore_n 2, 1) := bdX12_sayPlot_50.1
theorem dX12_sayPlot_51 : decode cX12_sayPlot 51 = .ok (.aload_n 0, 1) := bdX12_sayPlot_50.2.1
theorem dX12_sayPlot_52 : decode cX12_sayPlot 52 = .ok (.getfield 189, 3) := bdX12_sayPlot_50.2.2.1
theorem dX12_sayPlot_55 : decode cX12_sayPlot 55 = .ok (.ifCond .ne 49, 3) := bdX12_sayPlot_50.2.2.2.1
theorem dX12_sayPlot_58 : decode cX12_sayPlot 58 = .ok (.iload_n 2, 1) := bdX12_sayPlot_50.2.2.2.2.1
theorem dX12_sayPlot_59 : decode cX12_sayPlot 59 = .ok (.iload_n 1, 1) := bdX12_sayPlot_50.2.2.2.2.2.1
theorem dX12_sayPlot_60 : decode cX12_sayPlot 60 = .ok (.if_icmp .ge 44, 3) := bdX12_sayPlot_50.2.2.2.2.2.2.1
theorem dX12_sayPlot_63 : decode cX12_sayPlot 63 = .ok (.aload_n 0, 1) := bdX12_sayPlot_50.2.2.2.2.2.2.2.1
theorem dX12_sayPlot_64 : decode cX12_sayPlot 64 = .ok (.getfield 46, 3) := bdX12_sayPlot_50.2.2.2.2.2.2.2.2.1
theorem dX12_sayPlot_67 : decode cX12_sayPlot 67 = .ok (.iload_n 2, 1) := bdX12_sayPlot_50.2.2.2.2.2.2.2.2.2
theorem bdX12_sayPlot_68 : (decode cX12_sayPlot 68 = .ok (.iaload, 1)) ∧ (decode cX12_sayPlot 69 = .ok (.aload_n 0, 1)) ∧ (decode cX12_sayPlot 70 = .ok (.getfield 46, 3)) ∧ (decode cX12_sayPlot 73 = .ok (.iload_n 1, 1)) ∧ (decode cX12_sayPlot 74 = .ok (.iaload, 1)) ∧ (decode cX12_sayPlot 75 = .ok (.if_icmp .ne 23, 3)) ∧ (decode cX12_sayPlot 78 = .ok (.aload_n 0, 1)) ∧ (decode cX12_sayPlot 79 = .ok (.getfield 49, 3)) ∧ (decode cX12_sayPlot 82 = .ok (.iload_n 2, 1)) ∧ (decode cX12_sayPlot 83 = .ok (.iaload, 1)) := by decide +kernel
theorem dX12_sayPlot_68 : decode cX12_sayPlot 68 = .ok (.iaload, 1) := bdX12_sayPlot_68.1
theorem dX12_sayPlot_69 : decode cX12_sayPlot 69 = .ok (.aload_n 0, 1) := bdX12_sayPlot_68.2.1
theorem dX12_sayPlot_70 : decode cX12_sayPlot 70 = .ok (.getfield 46, 3) := bdX12_sayPlot_68.2.2.1
theorem dX12_sayPlot_73 : decode cX12_sayPlot 73 = .ok (.iload_n 1, 1) := bdX12_sayPlot_68.2.2.2.1
theorem dX12_sayPlot_74 : decode cX12_sayPlot 74 = .ok (.iaload, 1) := bdX12_sayPlot_68.2.2.2.2.1
theorem dX12_sayPlot_75 : decode cX12_sayPlot 75 = .ok (.if_icmp .ne 23, 3) := bdX12_sayPlot_68.2.2.2.2.2.1
theorem dX12_sayPlot_78 : decode cX12_sayPlot 78 = .ok (.aload_n 0, 1) := bdX12_sayPlot_68.2.2.2.2.2.2.1
theorem dX12_sayPlot_79 : decode cX12_sayPlot 79 = .ok (.getfield 49, 3) := bdX12_sayPlot_68.2.2.2.2.2.2.2.1
theorem dX12_sayPlot_82 : decode cX12_sayPlot 82 = .ok (.iload_n 2, 1) := bdX12_sayPlot_68.2.2.2.2.2.2.2.2.1
theorem dX12_sayPlot_83 : decode cX12_sayPlot 83 = .ok (.iaload, 1) := bdX12_sayPlot_68.2.2.2.2.2.2.2.2.2
theorem bdX12_sayPlot_84 : (decode cX12_sayPlot 84 = .ok (.aload_n 0, 1)) ∧ (decode cX12_sayPlot 85 = .ok (.getfield 49, 3)) ∧ (decode cX12_sayPlot 88 = .ok (.iload_n 1, 1)) ∧ (decode cX12_sayPlot 89 = .ok (.iaload, 1)) ∧ (decode cX12_sayPlot 90 = .ok (.if_icmp .ne 8, 3)) ∧ (decode cX12_sayPlot 93 = .ok (.aload_n 0, 1)) ∧ (decode cX12_sayPlot 94 = .ok (.iconst 4, 1)) ∧ (decode cX12_sayPlot 95 = .ok (.invokevirtual 210, 3)) ∧ (decode cX12_sayPlot 98 = .ok (.iinc 2 1, 3)) ∧ (decode cX12_sayPlot 101 = .ok (.goto (-50), 3)) := by decide +kernel
theorem dX12_sayPlot_84 : decode cX12_sayPlot 84 = .ok (.aload_n 0, 1) := bdX12_sayPlot_84.1
theorem dX12_sayPlot_85 : decode cX12_sayPlot 85 = .ok (.getfield 49, 3) := bdX12_sayPlot_84.2.1
theorem dX12_sayPlot_88 : decode cX12_sayPlot 88 = .ok (.iload_n 1, 1) := bdX12_sayPlot_84.2.2.1
theorem dX12_sayPlot_89 : decode cX12_sayPlot 89 = .ok (.iaload, 1) := bdX12_sayPlot_84.2.2.2.1
theorem dX12_sayPlot_90 : decode cX12_sayPlot 90 = .ok (.if_icmp .ne 8, 3) := bdX12_sayPlot_84.2.2.2.2.1
theorem dX12_sayPlot_93 : decode cX12_sayPlot 93 = .ok (.aload_n 0, 1) := bdX12_sayPlot_84.2.2.2.2.2.1
theorem dX12_sayPlot_94 : decode cX12_sayPlot 94 = .ok (.iconst 4, 1) := bdX12_sayPlot_84.2.2.2.2.2.2.1
theorem dX12_sayPlot_95 : decode cX12_sayPlot 95 = .ok (.invokevirtual 210, 3) := bdX12_sayPlot_84.2.2.2.2.2.2.2.1
theorem dX12_sayPlot_98 : decode cX12_sayPlot 98 = .ok (.iinc 2 1, 3) := bdX12_sayPlot_84.2.2.2.2.2.2.2.2.1
theorem dX12_sayPlot_101 : decode cX12_sayPlot 101 = .ok (.goto (-50), 3) := bdX12_sayPlot_84.2.2.2.2.2.2.2.2.2
theorem bdX12_sayPlot_104 : (decode cX12_sayPlot 104 = .ok (.aload_n 0, 1)) ∧ (decode cX12_sayPlot 105 = .ok (.getfield 189, 3)) ∧ (decode cX12_sayPlot 108 = .ok (.ifCond .ne 7, 3)) ∧ (decode cX12_sayPlot 111 = .ok (.aload_n 0, 1)) ∧ (decode cX12_sayPlot 112 = .ok (.invokevirtual 214, 3)) ∧ (decode cX12_sayPlot 115 = .ok (.aload_n 0, 1)) ∧ (decode cX12_sayPlot 116 = .ok (.getfield 52, 3)) ∧ (decode cX12_sayPlot 119 = .ok (.iload_n 1, 1)) ∧ (decode cX12_sayPlot 120 = .ok (.aload_n 0, 1)) ∧ (decode cX12_sayPlot 121 = .ok (.iconst 0, 1)) := by decide +kernel
theorem dX12_sayPlot_104 : decode cX12_sayPlot 104 = .ok (.aload_n 0, 1) := bdX12_sayPlot_104.1
theorem dX12_sayPlot_105 : decode cX12_sayPlot 105 = .ok (.getfield 189, 3) := bdX12_sayPlot_104.2.1
theorem dX12_sayPlot_108 : decode cX12_sayPlot 108 = .ok (.ifCond .ne 7, 3) := bdX12_sayPlot_104.2.2.1
theorem dX12_sayPlot_111 : decode cX12_sayPlot 111 = .ok (.aload_n 0, 1) := bdX12_sayPlot_104.2.2.2.1
theorem dX12_sayPlot_112 : decode cX12_sayPlot 112 = .ok (.invokevirtual 214, 3) := bdX12_sayPlot_104.2.2.2.2.1
theorem dX12_sayPlot_115 : decode cX12_sayPlot 115 = .ok (.aload_n 0, 1) := bdX12_sayPlot_104.2.2.2.2.2.1
theorem dX12_sayPlot_116 : decode cX12_sayPlot 116 = .ok (.getfield 52, 3) := bdX12_sayPlot_104.2.2.2.2.2.2.1
theorem dX12_sayPlot_119 : decode cX12_sayPlot 119 = .ok (.iload_n 1, 1) := bdX12_sayPlot_104.2.2.2.2.2.2.2.1
theorem dX12_sayPlot_120 : decode cX12_sayPlot 120 = .ok (.aload_n 0, 1) := bdX12_sayPlot_104.2.2.2.2.2.2.2.2.1
theorem dX12_sayPlot_121 : decode cX12_sayPlot 121 = .ok (.iconst 0, 1) := bdX12_sayPlot_104.2.2.2.2.2.2.2.2.2
theorem bdX12_sayPlot_122 : (decode cX12_sayPlot 122 = .ok (.bipush 9, 2)) ∧ (decode cX12_sayPlot 124 = .ok (.invokevirtual 224, 3)) ∧ (decode cX12_sayPlot 127 = .ok (.iastore, 1)) ∧ (decode cX12_sayPlot 128 = .ok (.aload_n 0, 1)) ∧ (decode cX12_sayPlot 129 = .ok (.getfield 35, 3)) ∧ (decode cX12_sayPlot 132 = .ok (.bipush 9, 2)) ∧ (decode cX12_sayPlot 134 = .ok (.dup2, 1)) ∧ (decode cX12_sayPlot 135 = .ok (.iaload, 1)) ∧ (decode cX12_sayPlot 136 = .ok (.iconst 1, 1)) ∧ (decode cX12_sayPlot 137 = .ok (.iadd, 1)) := by decide +kernel
theorem dX12_sayPlot_122 : decode cX12_sayPlot 122 = .ok (.bipush 9, 2) := bdX12_sayPlot_122.1
theorem dX12_sayPlot_124 : decode cX12_sayPlot 124 = .ok (.invokevirtual 224, 3) := bdX12_sayPlot_122.2.1
theorem dX12_sayPlot_127 : decode cX12_sayPlot 127 = .ok (.iastore, 1) := bdX12_sayPlot_122.2.2.1
theorem dX12_sayPlot_128 : decode cX12_sayPlot 128 = .ok (.aload_n 0, 1) := bdX12_sayPlot_122.2.2.2.1
theorem dX12_sayPlot_129 : decode cX12_sayPlot 129 = .ok (.getfield 35, 3) := bdX12_sayPlot_122.2.2.2.2.1
theorem dX12_sayPlot_132 : decode cX12_sayPlot 132 = .ok (.bipush 9, 2) := bdX12_sayPlot_122.2.2.2.2.2.1
theorem dX12_sayPlot_134 : decode cX12_sayPlot 134 = .ok (.dup2, 1) := bdX12_sayPlot_122.2.2.2.2.2.2.1
theorem dX12_sayPlot_135 : decode cX12_sayPlot 135 = .ok (.iaload, 1) := bdX12_sayPlot_122.2.2.2.2.2.2.2.1
theorem dX12_sayPlot_136 : decode cX12_sayPlot 136 = .ok (.iconst 1, 1) := bdX12_sayPlot_122.2.2.2.2.2.2.2.2.1
theorem dX12_sayPlot_137 : decode cX12_sayPlot 137 = .ok (.iadd, 1) := bdX12_sayPlot_122.2.2.2.2.2.2.2.2.2
theorem bdX12_sayPlot_138 : (decode cX12_sayPlot 138 = .ok (.iastore, 1)) ∧ (decode cX12_sayPlot 139 = .ok (.return_, 1)) := by decide +kernel
theorem dX12_sayPlot_138 : decode cX12_sayPlot 138 = .ok (.iastore, 1) := bdX12_sayPlot_138.1
theorem dX12_sayPlot_139 : decode cX12_sayPlot 139 = .ok (.return_, 1) := bdX12_sayPlot_138.2
theorem bdX12_sayRain_0 : (decode cX12_sayRain 0 = .ok (.iconst 1, 1)) ∧ (decode cX12_sayRain 1 = .ok (.istore_n 1, 1)) ∧ (decode cX12_sayRain 2 = .ok (.aload_n 0, 1)) ∧ (decode cX12_sayRain 3 = .ok (.getfield 189, 3)) ∧ (decode cX12_sayRain 6 = .ok (.ifCond .ne 92, 3)) ∧ (decode cX12_sayRain 9 = .ok (.iload_n 1, 1)) ∧ (decode cX12_sayRain 10 = .ok (.ifCond .ne 11, 3)) ∧ (decode cX12_sayRain 13 = .ok (.aload_n 0, 1)) ∧ (decode cX12_sayRain 14 = .ok (.getfield 163, 3)) ∧ (decode cX12_sayRain 17 = .ok (.iconst 2, 1)) := by decide +kernel
theorem dX12_sayRain_0 : decode cX12_sayRain 0 = .ok (.iconst 1, 1) := bdX12_sayRain_0.1
theorem dX12_sayRain_1 : decode cX12_sayRain 1 = .ok (.istore_n 1, 1) := bdX12_sayRain_0.2.1
theorem dX12_sayRain_2 : decode cX12_sayRain 2 = .ok (.aload_n 0, 1) := bdX12_sayRain_0.2.2.1
theorem dX12_sayRain_3 : decode cX12_sayRain 3 = .ok (.getfield 189, 3) := bdX12_sayRain_0.2.2.2.1
theorem dX12_sayRain_6 : decode cX12_sayRain 6 = .ok (.ifCond .ne 92, 3) := bdX12_sayRain_0.2.2.2.2.1
theorem dX12_sayRain_9 : decode cX12_sayRain 9 = .ok (.iload_n 1, 1) := bdX12_sayRain_0.2.2.2.2.2.1
theorem dX12_sayRain_10 : decode cX12_sayRain 10 = .ok (.ifCond .ne 11, 3) := bdX12_sayRain_0.2.2.2.2.2.2.1
theorem dX12_sayRain_13 : decode cX12_sayRain 13 = .ok (.aload_n 0, 1) := bdX12_sayRain_0.2.2.2.2.2.2.2.1
theorem dX12_sayRain_14 : decode cX12_sayRain 14 = .ok (.getfield 163, 3) := bdX12_sayRain_0.2.2.2.2.2.2.2.2.1
theorem dX12_sayRain_17 : decode cX12_sayRain 17 = .ok (.iconst 2, 1) := bdX12_sayRain_0.2.2.2.2.2.2.2.2.2
theorem bdX12_sayRain_18 : (decode cX12_sayRain 18 = .ok (.if_icmp .ne 80, 3)) ∧ (decode cX12_sayRain 21 = .ok (.iconst 0, 1)) ∧ (decode cX12_sayRain 22 = .ok (.istore_n 1, 1)) ∧ (decode cX12_sayRain 23 = .ok (.aload_n 0, 1)) ∧ (decode cX12_sayRain 24 = .ok (.getfield 163, 3)) ∧ (decode cX12_sayRain 27 = .ok (.iconst 2, 1)) ∧ (decode cX12_sayRain 28 = .ok (.if_icmp .ne 20, 3)) ∧ (decode cX12_sayRain 31 = .ok (.aload_n 0, 1)) ∧ (decode cX12_sayRain 32 = .ok (.getfield 35, 3)) ∧ (decode cX12_sayRain 35 = .ok (.bipush 10, 2)) := by decide +kernel
theorem dX12_sayRain_18 : decode cX12_sayRain 18 = .ok (.if_icmp .ne 80, 3) := bdX12_sayRain_18.1
theorem dX12_sayRain_21 : decode cX12_sayRain 21 = .ok (.iconst 0, 1) := bdX12_sayRain_18.2.1
theorem dX12_sayRain_22 : decode cX12_sayRain 22 = .ok (.istore_n 1, 1) := bdX12_sayRain_18.2.2.1
theorem dX12_sayRain_23 : decode cX12_sayRain 23 = .ok (.aload_n 0, 1) := bdX12_sayRain_18.2.2.2.1
theorem dX12_sayRain_24 : decode cX12_sayRain 24 = .ok (.getfield 163, 3) := bdX12_sayRain_18.2.2.2.2.1
theorem dX12_sayRain_27 : decode cX12_sayRain 27 = .ok (.iconst 2, 1) := bdX12_sayRain_18.2.2.2.2.2.1
theorem dX12_sayRain_28 : decode cX12_sayRain 28 = .ok (.if_icmp .ne 20, 3) := bdX12_sayRain_18.2.2.2.2.2.2.1
theorem dX12_sayRain_31 : decode cX12_sayRain 31 = .ok (.aload_n 0, 1) := bdX12_sayRain_18.2.2.2.2.2.2.2.1
theorem dX12_sayRain_32 : decode cX12_sayRain 32 = .ok (.getfield 35, 3) := bdX12_sayRain_18.2.2.2.2.2.2.2.2.1
theorem dX12_sayRain_35 : decode cX12_sayRain 35 = .ok (.bipush 10, 2) := bdX12_sayRain_18.2.2.2.2.2.2.2.2.2
theorem bdX12_sayRain_37 : (decode cX12_sayRain 37 = .ok (.iaload, 1)) ∧ (decode cX12_sayRain 38 = .ok (.bipush 10, 2)) ∧ (decode cX12_sayRain 40 = .ok (.if_icmp .ne 8, 3)) ∧ (decode cX12_sayRain 43 = .ok (.aload_n 0, 1)) ∧ (decode cX12_sayRain 44 = .ok (.iconst 2, 1)) ∧ (decode cX12_sayRain 45 = .ok (.invokevirtual 210, 3)) ∧ (decode cX12_sayRain 48 = .ok (.aload_n 0, 1)) ∧ (decode cX12_sayRain 49 = .ok (.iconst 0, 1)) ∧ (decode cX12_sayRain 50 = .ok (.bipush 9, 2)) ∧ (decode cX12_sayRain 52 = .ok (.invokevirtual 217, 3)) := by decide +kernel
theorem dX12_sayRain_37 : decode cX12_sayRain 37 = .ok (.iaload, 1) := bdX12_sayRain_37.1
theorem dX12_sayRain_38 : decode cX12_sayRain 38 = .ok (.bipush 10, 2) := bdX12_sayRain_37.2.1
theorem dX12_sayRain_40 : decode cX12_sayRain 40 = .ok (.if_icmp .ne 8, 3) := bdX12_sayRain_37.2.2.1
theorem dX12_sayRain_43 : decode cX12_sayRain 43 = .ok (.aload_n 0, 1) := bdX12_sayRain_37.2.2.2.1
theorem dX12_sayRain_44 : decode cX12_sayRain 44 = .ok (.iconst 2, 1) := bdX12_sayRain_37.2.2.2.2.1
theorem dX12_sayRain_45 : decode cX12_sayRain 45 = .ok (.invokevirtual 210, 3) := bdX12_sayRain_37.2.2.2.2.2.1
theorem dX12_sayRain_48 : decode cX12_sayRain 48 = .ok (.aload_n 0, 1) := bdX12_sayRain_37.2.2.2.2.2.2.1
theorem dX12_sayRain_49 : decode cX12_sayRain 49 = .ok (.iconst 0, 1) := bdX12_sayRain_37.2.2.2.2.2.2.2.1
theorem dX12_sayRain_50 : decode cX12_sayRain 50 = .ok (.bipush 9, 2) := bdX12_sayRain_37.2.2.2.2.2.2.2.2.1
theorem dX12_sayRain_52 : decode cX12_sayRain 52 = .ok (.invokevirtual 217, 3) := bdX12_sayRain_37.2.2.2.2.2.2.2.2.2
theorem bdX12_sayRain_55 : (decode cX12_sayRain 55 = .ok (.istore_n 2, 1)) ∧ (decode cX12_sayRain 56 = .ok (.aload_n 0, 1)) ∧ (decode cX12_sayRain 57 = .ok (.getfield 189, 3)) ∧ (decode cX12_sayRain 60 = .ok (.ifCond .eq 4, 3)) ∧ (decode cX12_sayRain 63 = .ok (.return_, 1)) ∧ (decode cX12_sayRain 64 = .ok (.aload_n 0, 1)) ∧ (decode cX12_sayRain 65 = .ok (.invokevirtual 214, 3)) ∧ (decode cX12_sayRain 68 = .ok (.aload_n 0, 1)) ∧ (decode cX12_sayRain 69 = .ok (.getfield 55, 3)) ∧ (decode cX12_sayRain 72 = .ok (.bipush 10, 2)) := by decide +kernel
theorem dX12_sayRain_55 : decode cX12_sayRain 55 = .ok (.istore_n 2, 1) := bdX12_sayRain_55.1
theorem dX12_sayRain_56 : decode cX12_sayRain 56 = .ok (.aload_n 0, 1) := bdX12_sayRain_55.2.1
theorem dX12_sayRain_57 : decode cX12_sayRain 57 = .ok (.getfield 189, 3) := bdX12_sayRain_55.2.2.1
theorem dX12_sayRain_60 : decode cX12_sayRain 60 = .ok (.ifCond .eq 4, 3) := bdX12_sayRain_55.2.2.2.1
theorem dX12_sayRain_63 : decode cX12_sayRain 63 = .ok (.return_, 1) := bdX12_sayRain_55.2.2.2.2.1
theorem dX12_sayRain_64 : decode cX12_sayRain 64 = .ok (.aload_n 0, 1) := bdX12_sayRain_55.2.2.2.2.2.1
theorem dX12_sayRain_65 : decode cX12_sayRain 65 = .ok (.invokevirtual 214, 3) := bdX12_sayRain_55.2.2.2.2.2.2.1
theorem dX12_sayRain_68 : decode cX12_sayRain 68 = .ok (.aload_n 0, 1) := bdX12_sayRain_55.2.2.2.2.2.2.2.1
theorem dX12_sayRain_69 : decode cX12_sayRain 69 = .ok (.getfield 55, 3) := bdX12_sayRain_55.2.2.2.2.2.2.2.2.1
theorem dX12_sayRain_72 : decode cX12_sayRain 72 = .ok (.bipush 10, 2) := bdX12_sayRain_55.2.2.2.2.2.2.2.2.2
theorem bdX12_sayRain_74 : (decode cX12_sayRain 74 = .ok (.aload_n 0, 1)) ∧ (decode cX12_sayRain 75 = .ok (.getfield 35, 3)) ∧ (decode cX12_sayRain 78 = .ok (.bipush 10, 2)) ∧ (decode cX12_sayRain 80 = .ok (.iaload, 1)) ∧ (decode cX12_sayRain 81 = .ok (.iadd, 1)) ∧ (decode cX12_sayRain 82 = .ok (.iload_n 2, 1)) ∧ (decode cX12_sayRain 83 = .ok (.iastore, 1)) ∧ (decode cX12_sayRain 84 = .ok (.aload_n 0, 1)) ∧ (decode cX12_sayRain 85 = .ok (.getfield 35, 3)) ∧ (decode cX12_sayRain 88 = .ok (.bipush 10, 2)) := by decide +kernel
theorem dX12_sayRain_74 : decode cX12_sayRain 74 = .ok (.aload_n 0, 1) := bdX12_sayRain_74.1
theorem dX12_sayRain_75 : decode cX12_sayRain 75 = .ok (.getfield 35, 3) := bdX12_sayRain_74.2.1
theorem dX12_sayRain_78 : decode cX12_sayRain 78 = .ok (.bipush 10, 2) := bdX12_sayRain_74.2.2.1
theorem dX12_sayRain_80 : decode cX12_sayRain 80 = .ok (.iaload, 1) := bdX12_sayRain_74.2.2.2.1
theorem dX12_sayRain_81 : decode cX12_sayRain 81 = .ok (.iadd, 1) := bdX12_sayRain_74.2.2.2.2.1
theorem dX12_sayRain_82 : decode cX12_sayRain 82 = .ok (.iload_n 2, 1) := bdX12_sayRain_74.2.2.2.2.2.1
theorem dX12_sayRain_83 : decode cX12_sayRain 83 = .ok (.iastore, 1) := bdX12_sayRain_74.2.2.2.2.2.2.1
theorem dX12_sayRain_84 : decode cX12_sayRain 84 = .ok (.aload_n 0, 1) := bdX12_sayRain_74.2.2.2.2.2.2.2.1
theorem dX12_sayRain_85 : decode cX12_sayRain 85 = .ok (.getfield 35, 3) := bdX12_sayRain_74.2.2.2.2.2.2.2.2.1
theorem dX12_sayRain_88 : decode cX12_sayRain 88 = .ok (.bipush 10, 2) := bdX12_sayRain_74.2.2.2.2.2.2.2.2.2
theorem bdX12_sayRain_90 : (decode cX12_sayRain 90 = .ok (.dup2, 1)) ∧ (decode cX12_sayRain 91 = .ok (.iaload, 1)) ∧ (decode cX12_sayRain 92 = .ok (.iconst 1, 1)) ∧ (decode cX12_sayRain 93 = .ok (.iadd, 1)) ∧ (decode cX12_sayRain 94 = .ok (.iastore, 1)) ∧ (decode cX12_sayRain 95 = .ok (.goto (-93), 3)) ∧ (decode cX12_sayRain 98 = .ok (.return_, 1)) := by decide +kernel
theorem dX12_sayRain_90 : decode cX12_sayRain 90 = .ok (.dup2, 1) := bdX12_sayRain_90.1
theorem dX12_sayRain_91 : decode cX12_sayRain 91 = .ok (.iaload, 1) := bdX12_sayRain_90.2.1
theorem dX12_sayRain_92 : decode cX12_sayRain 92 = .ok (.iconst 1, 1) := bdX12_sayRain_90.2.2.1
theorem dX12_sayRain_93 : decode cX12_sayRain 93 = .ok (.iadd, 1) := bdX12_sayRain_90.2.2.2.1
theorem dX12_sayRain_94 : decode cX12_sayRain 94 = .ok (.iastore, 1) := bdX12_sayRain_90.2.2.2.2.1
theorem dX12_sayRain_95 : decode cX12_sayRain 95 = .ok (.goto (-93), 3) := bdX12_sayRain_90.2.2.2.2.2.1
theorem dX12_sayRain_98 : decode cX12_sayRain 98 = .ok (.return_, 1) := bdX12_sayRain_90.2.2.2.2.2.2
theorem bdX12_sayRule_0 : (decode cX12_sayRule 0 = .ok (.aload_n 0, 1)) ∧ (decode cX12_sayRule 1 = .ok (.iload_n 1, 1)) ∧ (decode cX12_sayRule 2 = .ok (.putfield 220, 3)) ∧ (decode cX12_sayRule 5 = .ok (.aload_n 0, 1)) ∧ (decode cX12_sayRule 6 = .ok (.iload_n 1, 1)) ∧ (decode cX12_sayRule 7 = .ok (.ifCond .eq 10, 3)) ∧ (decode cX12_sayRule 10 = .ok (.aload_n 0, 1)) ∧ (decode cX12_sayRule 11 = .ok (.getfield 29, 3)) ∧ (decode cX12_sayRule 14 = .ok (.goto 7, 3)) ∧ (decode cX12_sayRule 17 = .ok (.aload_n 0, 1)) := by decide +kernel
theorem dX12_sayRule_0 : decode cX12_sayRule 0 = .ok (.aload_n 0, 1) := bdX12_sayRule_0.1
theorem dX12_sayRule_1 : decode cX12_sayRule 1 = .ok (.iload_n 1, 1) := bdX12_sayRule_0.2.1
theorem dX12_sayRule_2 : decode cX12_sayRule 2 = .ok (.putfield 220, 3) := bdX12_sayRule_0.2.2.1
theorem dX12_sayRule_5 : decode cX12_sayRule 5 = .ok (.aload_n 0, 1) := bdX12_sayRule_0.2.2.2.1
theorem dX12_sayRule_6 : decode cX12_sayRule 6 = .ok (.iload_n 1, 1) := bdX12_sayRule_0.2.2.2.2.1
theorem dX12_sayRule_7 : decode cX12_sayRule 7 = .ok (.ifCond .eq 10, 3) := bdX12_sayRule_0.2.2.2.2.2.1
theorem dX12_sayRule_10 : decode cX12_sayRule 10 = .ok (.aload_n 0, 1) := bdX12_sayRule_0.2.2.2.2.2.2.1
theorem dX12_sayRule_11 : decode cX12_sayRule 11 = .ok (.getfield 29, 3) := bdX12_sayRule_0.2.2.2.2.2.2.2.1
theorem dX12_sayRule_14 : decode cX12_sayRule 14 = .ok (.goto 7, 3) := bdX12_sayRule_0.2.2.2.2.2.2.2.2.1
theorem dX12_sayRule_17 : decode cX12_sayRule 17 = .ok (.aload_n 0, 1) := bdX12_sayRule_0.2.2.2.2.2.2.2.2.2
theorem bdX12_sayRule_18 : (decode cX12_sayRule 18 = .ok (.getfield 21, 3)) ∧ (decode cX12_sayRule 21 = .ok (.putfield 32, 3)) ∧ (decode cX12_sayRule 24 = .ok (.aload_n 0, 1)) ∧ (decode cX12_sayRule 25 = .ok (.iconst 0, 1)) ∧ (decode cX12_sayRule 26 = .ok (.invokevirtual 237, 3)) ∧ (decode cX12_sayRule 29 = .ok (.return_, 1)) := by decide +kernel
theorem dX12_sayRule_18 : decode cX12_sayRule 18 = .ok (.getfield 21, 3) := bdX12_sayRule_18.1
theorem dX12_sayRule_21 : decode cX12_sayRule 21 = .ok (.putfield 32, 3) := bdX12_sayRule_18.2.1
theorem dX12_sayRule_24 : decode cX12_sayRule 24 = .ok (.aload_n 0, 1) := bdX12_sayRule_18.2.2.1
theorem dX12_sayRule_25 : decode cX12_sayRule 25 = .ok (.iconst 0, 1) := bdX12_sayRule_18.2.2.2.1
theorem dX12_sayRule_26 : decode cX12_sayRule 26 = .ok (.invokevirtual 237, 3) := bdX12_sayRule_18.2.2.2.2.1
theorem dX12_sayRule_29 : decode cX12_sayRule 29 = .ok (.return_, 1) := bdX12_sayRule_18.2.2.2.2.2
theorem bdX12_readLine_0 : (decode cX12_readLine 0 = .ok (.aload_n 0, 1)) ∧ (decode cX12_readLine 1 = .ok (.ldc_w 265, 3)) ∧ (decode cX12_readLine 4 = .ok (.invokevirtual 203, 3)) ∧ (decode cX12_readLine 7 = .ok (.ifCond .eq 7, 3)) ∧ (decode cX12_readLine 10 = .ok (.iconst 1, 1)) ∧ (decode cX12_readLine 11 = .ok (.goto 61, 3)) ∧ (decode cX12_readLine 14 = .ok (.aload_n 0, 1)) ∧ (decode cX12_readLine 15 = .ok (.ldc 25, 2)) ∧ (decode cX12_readLine 17 = .ok (.invokevirtual 203, 3)) ∧ (decode cX12_readLine 20 = .ok (.ifCond .eq 7, 3)) := by decide +kernel
theorem dX12_readLine_0 : decode cX12_readLine 0 = .ok (.aload_n 0, 1) := bdX12_readLine_0.1
theorem dX12_readLine_1 : decode cX12_readLine 1 = .ok (.ldc_w 265, 3) := bdX12_readLine_0.2.1
theorem dX12_readLine_4 : decode cX12_readLine 4 = .ok (.invokevirtual 203, 3) := bdX12_readLine_0.2.2.1
theorem dX12_readLine_7 : decode cX12_readLine 7 = .ok (.ifCond .eq 7, 3) := bdX12_readLine_0.2.2.2.1
theorem dX12_readLine_10 : decode cX12_readLine 10 = .ok (.iconst 1, 1) := bdX12_readLine_0.2.2.2.2.1
theorem dX12_readLine_11 : decode cX12_readLine 11 = .ok (.goto 61, 3) := bdX12_readLine_0.2.2.2.2.2.1
theorem dX12_readLine_14 : decode cX12_readLine 14 = .ok (.aload_n 0, 1) := bdX12_readLine_0.2.2.2.2.2.2.1
theorem dX12_readLine_15 : decode cX12_readLine 15 = .ok (.ldc 25, 2) := bdX12_readLine_0.2.2.2.2.2.2.2.1
theorem dX12_readLine_17 : decode cX12_readLine 17 = .ok (.invokevirtual 203, 3) := bdX12_readLine_0.2.2.2.2.2.2.2.2.1
theorem dX12_readLine_20 : decode cX12_readLine 20 = .ok (.ifCond .eq 7, 3) := bdX12_readLine_0.2.2.2.2.2.2.2.2.2
theorem bdX12_readLine_23 : (decode cX12_readLine 23 = .ok (.iconst 2, 1)) ∧ (decode cX12_readLine 24 = .ok (.goto 48, 3)) ∧ (decode cX12_readLine 27 = .ok (.aload_n 0, 1)) ∧ (decode cX12_readLine 28 = .ok (.ldc_w 267, 3)) ∧ (decode cX12_readLine 31 = .ok (.invokevirtual 203, 3)) ∧ (decode cX12_readLine 34 = .ok (.ifCond .eq 7, 3)) ∧ (decode cX12_readLine 37 = .ok (.iconst 4, 1)) ∧ (decode cX12_readLine 38 = .ok (.goto 34, 3)) ∧ (decode cX12_readLine 41 = .ok (.aload_n 0, 1)) ∧ (decode cX12_readLine 42 = .ok (.ldc_w 269, 3)) := by decide +kernel
theorem dX12_readLine_23 : decode cX12_readLine 23 = .ok (.iconst 2, 1) := bdX12_readLine_23.1
theorem dX12_readLine_24 : decode cX12_readLine 24 = .ok (.goto 48, 3) := bdX12_readLine_23.2.1
theorem dX12_readLine_27 : decode cX12_readLine 27 = .ok (.aload_n 0, 1) := bdX12_readLine_23.2.2.1
theorem dX12_readLine_28 : decode cX12_readLine 28 = .ok (.ldc_w 267, 3) := bdX12_readLine_23.2.2.2.1
theorem dX12_readLine_31 : decode cX12_readLine 31 = .ok (.invokevirtual 203, 3) := bdX12_readLine_23.2.2.2.2.1
theorem dX12_readLine_34 : decode cX12_readLine 34 = .ok (.ifCond .eq 7, 3) := bdX12_readLine_23.2.2.2.2.2.1
theorem dX12_readLine_37 : decode cX12_readLine 37 = .ok (.iconst 4, 1) := bdX12_readLine_23.2.2.2.2.2.2.1
theorem dX12_readLine_38 : decode cX12_readLine 38 = .ok (.goto 34, 3) := bdX12_readLine_23.2.2.2.2.2.2.2.1
theorem dX12_readLine_41 : decode cX12_readLine 41 = .ok (.aload_n 0, 1) := bdX12_readLine_23.2.2.2.2.2.2.2.2.1
theorem dX12_readLine_42 : decode cX12_readLine 42 = .ok (.ldc_w 269, 3) := bdX12_readLine_23.2.2.2.2.2.2.2.2.2
theorem bdX12_readLine_45 : (decode cX12_readLine 45 = .ok (.invokevirtual 203, 3)) ∧ (decode cX12_readLine 48 = .ok (.ifCond .eq 8, 3)) ∧ (decode cX12_readLine 51 = .ok (.bipush 8, 2)) ∧ (decode cX12_readLine 53 = .ok (.goto 19, 3)) ∧ (decode cX12_readLine 56 = .ok (.aload_n 0, 1)) ∧ (decode cX12_readLine 57 = .ok (.ldc_w 271, 3)) ∧ (decode cX12_readLine 60 = .ok (.invokevirtual 203, 3)) ∧ (decode cX12_readLine 63 = .ok (.ifCond .eq 8, 3)) ∧ (decode cX12_readLine 66 = .ok (.bipush 16, 2)) ∧ (decode cX12_readLine 68 = .ok (.goto 4, 3)) := by decide +kernel
theorem dX12_readLine_45 : decode cX12_readLine 45 = .ok (.invokevirtual 203, 3) := bdX12_readLine_45.1
theorem dX12_readLine_48 : decode cX12_readLine 48 = .ok (.ifCond .eq 8, 3) := bdX12_readLine_45.2.1
theorem dX12_readLine_51 : decode cX12_readLine 51 = .ok (.bipush 8, 2) := bdX12_readLine_45.2.2.1
theorem dX12_readLine_53 : decode cX12_readLine 53 = .ok (.goto 19, 3) := bdX12_readLine_45.2.2.2.1
theorem dX12_readLine_56 : decode cX12_readLine 56 = .ok (.aload_n 0, 1) := bdX12_readLine_45.2.2.2.2.1
theorem dX12_readLine_57 : decode cX12_readLine 57 = .ok (.ldc_w 271, 3) := bdX12_readLine_45.2.2.2.2.2.1
theorem dX12_readLine_60 : decode cX12_readLine 60 = .ok (.invokevirtual 203, 3) := bdX12_readLine_45.2.2.2.2.2.2.1
theorem dX12_readLine_63 : decode cX12_readLine 63 = .ok (.ifCond .eq 8, 3) := bdX12_readLine_45.2.2.2.2.2.2.2.1
theorem dX12_readLine_66 : decode cX12_readLine 66 = .ok (.bipush 16, 2) := bdX12_readLine_45.2.2.2.2.2.2.2.2.1
theorem dX12_readLine_68 : decode cX12_readLine 68 = .ok (.goto 4, 3) := bdX12_readLine_45.2.2.2.2.2.2.2.2.2
theorem bdX12_readLine_71 : (decode cX12_readLine 71 = .ok (.iconst 0, 1)) ∧ (decode cX12_readLine 72 = .ok (.istore_n 2, 1)) ∧ (decode cX12_readLine 73 = .ok (.iload_n 2, 1)) ∧ (decode cX12_readLine 74 = .ok (.iload_n 1, 1)) ∧ (decode cX12_readLine 75 = .ok (.iand, 1)) ∧ (decode cX12_readLine 76 = .ok (.ifCond .eq 8, 3)) ∧ (decode cX12_readLine 79 = .ok (.aload_n 0, 1)) ∧ (decode cX12_readLine 80 = .ok (.iconst 5, 1)) ∧ (decode cX12_readLine 81 = .ok (.invokevirtual 210, 3)) ∧ (decode cX12_readLine 84 = .ok (.iload_n 2, 1)) := by decide +kernel
theorem dX12_readLine_71 : decode cX12_readLine 71 = .ok (.iconst 0, 1) := bdX12_readLine_71.1
theorem dX12_readLine_72 : decode cX12_readLine 72 = .ok (.istore_n 2, 1) := bdX12_readLine_71.2.1
theorem dX12_readLine_73 : decode cX12_readLine 73 = .ok (.iload_n 2, 1) := bdX12_readLine_71.2.2.1
theorem dX12_readLine_74 : decode cX12_readLine 74 = .ok (.iload_n 1, 1) := bdX12_readLine_71.2.2.2.1
theorem dX12_readLine_75 : decode cX12_readLine 75 = .ok (.iand, 1) := bdX12_readLine_71.2.2.2.2.1
theorem dX12_readLine_76 : decode cX12_readLine 76 = .ok (.ifCond .eq 8, 3) := bdX12_readLine_71.2.2.2.2.2.1
theorem dX12_readLine_79 : decode cX12_readLine 79 = .ok (.aload_n 0, 1) := bdX12_readLine_71.2.2.2.2.2.2.1
theorem dX12_readLine_80 : decode cX12_readLine 80 = .ok (.iconst 5, 1) := bdX12_readLine_71.2.2.2.2.2.2.2.1
theorem dX12_readLine_81 : decode cX12_readLine 81 = .ok (.invokevirtual 210, 3) := bdX12_readLine_71.2.2.2.2.2.2.2.2.1
theorem dX12_readLine_84 : decode cX12_readLine 84 = .ok (.iload_n 2, 1) := bdX12_readLine_71.2.2.2.2.2.2.2.2.2
theorem bdX12_readLine_85 : (decode cX12_readLine 85 = .ok (.ifCond .le 102, 3)) ∧ (decode cX12_readLine 88 = .ok (.aload_n 0, 1)) ∧ (decode cX12_readLine 89 = .ok (.getfield 189, 3)) ∧ (decode cX12_readLine 92 = .ok (.ifCond .ne 7, 3)) ∧ (decode cX12_readLine 95 = .ok (.aload_n 0, 1)) ∧ (decode cX12_readLine 96 = .ok (.invokevirtual 214, 3)) ∧ (decode cX12_readLine 99 = .ok (.iload_n 2, 1)) ∧ (decode cX12_readLine 100 = .ok (.iconst 1, 1)) ∧ (decode cX12_readLine 101 = .ok (.if_icmp .ne 34, 3)) ∧ (decode cX12_readLine 104 = .ok (.aload_n 0, 1)) := by decide +kernel
theorem dX12_readLine_85 : decode cX12_readLine 85 = .ok (.ifCond .le 102, 3) := bdX12_readLine_85.1
theorem dX12_readLine_88 : decode cX12_readLine 88 = .ok (.aload_n 0, 1) := bdX12_readLine_85.2.1
theorem dX12_readLine_89 : decode cX12_readLine 89 = .ok (.getfield 189, 3) := bdX12_readLine_85.2.2.1
theorem dX12_readLine_92 : decode cX12_readLine 92 = .ok (.ifCond .ne 7, 3) := bdX12_readLine_85.2.2.2.1
theorem dX12_readLine_95 : decode cX12_readLine 95 = .ok (.aload_n 0, 1) := bdX12_readLine_85.2.2.2.2.1
theorem dX12_readLine_96 : decode cX12_readLine 96 = .ok (.invokevirtual 214, 3) := bdX12_readLine_85.2.2.2.2.2.1
theorem dX12_readLine_99 : decode cX12_readLine 99 = .ok (.iload_n 2, 1) := bdX12_readLine_85.2.2.2.2.2.2.1
theorem dX12_readLine_100 : decode cX12_readLine 100 = .ok (.iconst 1, 1) := bdX12_readLine_85.2.2.2.2.2.2.2.1
theorem dX12_readLine_101 : decode cX12_readLine 101 = .ok (.if_icmp .ne 34, 3) := bdX12_readLine_85.2.2.2.2.2.2.2.2.1
theorem dX12_readLine_104 : decode cX12_readLine 104 = .ok (.aload_n 0, 1) := bdX12_readLine_85.2.2.2.2.2.2.2.2.2
theorem bdX12_readLine_105 : (decode cX12_readLine 105 = .ok (.getfield 35, 3)) ∧ (decode cX12_readLine 108 = .ok (.bipush 12, 2)) ∧ (decode cX12_readLine 110 = .ok (.aload_n 0, 1)) ∧ (decode cX12_readLine 111 = .ok (.iconst 0, 1)) ∧ (decode cX12_readLine 112 = .ok (.bipush 20, 2)) ∧ (decode cX12_readLine 114 = .ok (.invokevirtual 224, 3)) ∧ (decode cX12_readLine 117 = .ok (.iastore, 1)) ∧ (decode cX12_readLine 118 = .ok (.aload_n 0, 1)) ∧ (decode cX12_readLine 119 = .ok (.getfield 35, 3)) ∧ (decode cX12_readLine 122 = .ok (.bipush 13, 2)) := by decide +kernel
theorem dX12_readLine_105 : decode cX12_readLine 105 = .ok (.getfield 35, 3) := bdX12_readLine_105.1
theorem dX12_readLine_108 : decode cX12_readLine 108 = .ok (.bipush 12, 2) := bdX12_readLine_105.2.1
theorem dX12_readLine_110 : decode cX12_readLine 110 = .ok (.aload_n 0, 1) := bdX12_readLine_105.2.2.1
theorem dX12_readLine_111 : decode cX12_readLine 111 = .ok (.iconst 0, 1) := bdX12_readLine_105.2.2.2.1
theorem dX12_readLine_112 : decode cX12_readLine 112 = .ok (.bipush 20, 2) := bdX12_readLine_105.2.2.2.2.1
theorem dX12_readLine_114 : decode cX12_readLine 114 = .ok (.invokevirtual 224, 3) := bdX12_readLine_105.2.2.2.2.2.1
theorem dX12_readLine_117 : decode cX12_readLine 117 = .ok (.iastore, 1) := bdX12_readLine_105.2.2.2.2.2.2.1
theorem dX12_readLine_118 : decode cX12_readLine 118 = .ok (.aload_n 0, 1) := bdX12_readLine_105.2.2.2.2.2.2.2.1
theorem dX12_readLine_119 : decode cX12_readLine 119 = .ok (.getfield 35, 3) := bdX12_readLine_105.2.2.2.2.2.2.2.2.1
theorem dX12_readLine_122 : decode cX12_readLine 122 = .ok (.bipush 13, 2) := bdX12_readLine_105.2.2.2.2.2.2.2.2.2
theorem bdX12_readLine_124 : (decode cX12_readLine 124 = .ok (.aload_n 0, 1)) ∧ (decode cX12_readLine 125 = .ok (.iconst 0, 1)) ∧ (decode cX12_readLine 126 = .ok (.bipush 20, 2)) ∧ (decode cX12_readLine 128 = .ok (.invokevirtual 224, 3)) ∧ (decode cX12_readLine 131 = .ok (.iastore, 1)) ∧ (decode cX12_readLine 132 = .ok (.goto 94, 3)) ∧ (decode cX12_readLine 135 = .ok (.iload_n 2, 1)) ∧ (decode cX12_readLine 136 = .ok (.iconst 2, 1)) ∧ (decode cX12_readLine 137 = .ok (.if_icmp .ne 10, 3)) ∧ (decode cX12_readLine 140 = .ok (.aload_n 0, 1)) := by decide +kernel
theorem dX12_readLine_124 : decode cX12_readLine 124 = .ok (.aload_n 0, 1) := bdX12_readLine_124.1
theorem dX12_readLine_125 : decode cX12_readLine 125 = .ok (.iconst 0, 1) := bdX12_readLine_124.2.1
theorem dX12_readLine_126 : decode cX12_readLine 126 = .ok (.bipush 20, 2) := bdX12_readLine_124.2.2.1
theorem dX12_readLine_128 : decode cX12_readLine 128 = .ok (.invokevirtual 224, 3) := bdX12_readLine_124.2.2.2.1
theorem dX12_readLine_131 : decode cX12_readLine 131 = .ok (.iastore, 1) := bdX12_readLine_124.2.2.2.2.1
theorem dX12_readLine_132 : decode cX12_readLine 132 = .ok (.goto 94, 3) := bdX12_readLine_124.2.2.2.2.2.1
theorem dX12_readLine_135 : decode cX12_readLine 135 = .ok (.iload_n 2, 1) := bdX12_readLine_124.2.2.2.2.2.2.1
theorem dX12_readLine_136 : decode cX12_readLine 136 = .ok (.iconst 2, 1) := bdX12_readLine_124.2.2.2.2.2.2.2.1
theorem dX12_readLine_137 : decode cX12_readLine 137 = .ok (.if_icmp .ne 10, 3) := bdX12_readLine_124.2.2.2.2.2.2.2.2.1
theorem dX12_readLine_140 : decode cX12_readLine 140 = .ok (.aload_n 0, 1) := bdX12_readLine_124.2.2.2.2.2.2.2.2.2
theorem bdX12_readLine_141 : (decode cX12_readLine 141 = .ok (.invokevirtual 273, 3)) ∧ (decode cX12_readLine 144 = .ok (.goto 82, 3)) ∧ (decode cX12_readLine 147 = .ok (.iload_n 2, 1)) ∧ (decode cX12_readLine 148 = .ok (.iconst 4, 1)) ∧ (decode cX12_readLine 149 = .ok (.if_icmp .ne 20, 3)) ∧ (decode cX12_readLine 152 = .ok (.aload_n 0, 1)) ∧ (decode cX12_readLine 153 = .ok (.getfield 35, 3)) ∧ (decode cX12_readLine 156 = .ok (.bipush 11, 2)) ∧ (decode cX12_readLine 158 = .ok (.aload_n 0, 1)) ∧ (decode cX12_readLine 159 = .ok (.iconst 0, 1)) := by decide +kernel
theorem dX12_readLine_141 : decode cX12_readLine 141 = .ok (.invokevirtual 273, 3) := bdX12_readLine_141.1
theorem dX12_readLine_144 : decode cX12_readLine 144 = .ok (.goto 82, 3) := bdX12_readLine_141.2.1
theorem dX12_readLine_147 : decode cX12_readLine 147 = .ok (.iload_n 2, 1) := bdX12_readLine_141.2.2.1
theorem dX12_readLine_148 : decode cX12_readLine 148 = .ok (.iconst 4, 1) := bdX12_readLine_141.2.2.2.1
theorem dX12_readLine_149 : decode cX12_readLine 149 = .ok (.if_icmp .ne 20, 3) := bdX12_readLine_141.2.2.2.2.1
theorem dX12_readLine_152 : decode cX12_readLine 152 = .ok (.aload_n 0, 1) := bdX12_readLine_141.2.2.2.2.2.1
theorem dX12_readLine_153 : decode cX12_readLine 153 = .ok (.getfield 35, 3) := bdX12_readLine_141.2.2.2.2.2.2.1
theorem dX12_readLine_156 : decode cX12_readLine 156 = .ok (.bipush 11, 2) := bdX12_readLine_141.2.2.2.2.2.2.2.1
theorem dX12_readLine_158 : decode cX12_readLine 158 = .ok (.aload_n 0, 1) := bdX12_readLine_141.2.2.2.2.2.2.2.2.1
theorem dX12_readLine_159 : decode cX12_readLine 159 = .ok (.iconst 0, 1) := bdX12_readLine_141.2.2.2.2.2.2.2.2.2
theorem bdX12_readLine_160 : (decode cX12_readLine 160 = .ok (.bipush 20, 2)) ∧ (decode cX12_readLine 162 = .ok (.invokevirtual 224, 3)) ∧ (decode cX12_readLine 165 = .ok (.iastore, 1)) ∧ (decode cX12_readLine 166 = .ok (.goto 60, 3)) ∧ (decode cX12_readLine 169 = .ok (.aload_n 0, 1)) ∧ (decode cX12_readLine 170 = .ok (.iload_n 2, 1)) ∧ (decode cX12_readLine 171 = .ok (.bipush 16, 2)) ∧ (decode cX12_readLine 173 = .ok (.if_icmp .ne 7, 3)) ∧ (decode cX12_readLine 176 = .ok (.iconst 1, 1)) ∧ (decode cX12_readLine 177 = .ok (.goto 4, 3)) := by decide +kernel
theorem dX12_readLine_160 : decode cX12_readLine 160 = .ok (.bipush 20, 2) := bdX12_readLine_160.1
theorem dX12_readLine_162 : decode cX12_readLine 162 = .ok (.invokevirtual 224, 3) := bdX12_readLine_160.2.1
theorem dX12_readLine_165 : decode cX12_readLine 165 = .ok (.iastore, 1) := bdX12_readLine_160.2.2.1
theorem dX12_readLine_166 : decode cX12_readLine 166 = .ok (.goto 60, 3) := bdX12_readLine_160.2.2.2.1
theorem dX12_readLine_169 : decode cX12_readLine 169 = .ok (.aload_n 0, 1) := bdX12_readLine_160.2.2.2.2.1
theorem dX12_readLine_170 : decode cX12_readLine 170 = .ok (.iload_n 2, 1) := bdX12_readLine_160.2.2.2.2.2.1
theorem dX12_readLine_171 : decode cX12_readLine 171 = .ok (.bipush 16, 2) := bdX12_readLine_160.2.2.2.2.2.2.1
theorem dX12_readLine_173 : decode cX12_readLine 173 = .ok (.if_icmp .ne 7, 3) := bdX12_readLine_160.2.2.2.2.2.2.2.1
theorem dX12_readLine_176 : decode cX12_readLine 176 = .ok (.iconst 1, 1) := bdX12_readLine_160.2.2.2.2.2.2.2.2.1
theorem dX12_readLine_177 : decode cX12_readLine 177 = .ok (.goto 4, 3) := bdX12_readLine_160.2.2.2.2.2.2.2.2.2
theorem bdX12_readLine_180 : (decode cX12_readLine 180 = .ok (.iconst 0, 1)) ∧ (decode cX12_readLine 181 = .ok (.invokevirtual 276, 3)) ∧ (decode cX12_readLine 184 = .ok (.goto 42, 3)) ∧ (decode cX12_readLine 187 = .ok (.aload_n 0, 1)) ∧ (decode cX12_readLine 188 = .ok (.ldc_w 280, 3)) ∧ (decode cX12_readLine 191 = .ok (.invokevirtual 203, 3)) ∧ (decode cX12_readLine 194 = .ok (.ifCond .eq 10, 3)) ∧ (decode cX12_readLine 197 = .ok (.aload_n 0, 1)) ∧ (decode cX12_readLine 198 = .ok (.invokevirtual 282, 3)) ∧ (decode cX12_readLine 201 = .ok (.goto 25, 3)) := by decide +kernel
theorem dX12_readLine_180 : decode cX12_readLine 180 = .ok (.iconst 0, 1) := bdX12_readLine_180.1
theorem dX12_readLine_181 : decode cX12_readLine 181 = .ok (.invokevirtual 276, 3) := bdX12_readLine_180.2.1
theorem dX12_readLine_184 : decode cX12_readLine 184 = .ok (.goto 42, 3) := bdX12_readLine_180.2.2.1
theorem dX12_readLine_187 : decode cX12_readLine 187 = .ok (.aload_n 0, 1) := bdX12_readLine_180.2.2.2.1
theorem dX12_readLine_188 : decode cX12_readLine 188 = .ok (.ldc_w 280, 3) := bdX12_readLine_180.2.2.2.2.1
theorem dX12_readLine_191 : decode cX12_readLine 191 = .ok (.invokevirtual 203, 3) := bdX12_readLine_180.2.2.2.2.2.1
theorem dX12_readLine_194 : decode cX12_readLine 194 = .ok (.ifCond .eq 10, 3) := bdX12_readLine_180.2.2.2.2.2.2.1
theorem dX12_readLine_197 : decode cX12_readLine 197 = .ok (.aload_n 0, 1) := bdX12_readLine_180.2.2.2.2.2.2.2.1
theorem dX12_readLine_198 : decode cX12_readLine 198 = .ok (.invokevirtual 282, 3) := bdX12_readLine_180.2.2.2.2.2.2.2.2.1
theorem dX12_readLine_201 : decode cX12_readLine 201 = .ok (.goto 25, 3) := bdX12_readLine_180.2.2.2.2.2.2.2.2.2
theorem bdX12_readLine_204 : (decode cX12_readLine 204 = .ok (.aload_n 0, 1)) ∧ (decode cX12_readLine 205 = .ok (.ldc_w 285, 3)) ∧ (decode cX12_readLine 208 = .ok (.invokevirtual 203, 3)) ∧ (decode cX12_readLine 211 = .ok (.ifCond .eq 10, 3)) ∧ (decode cX12_readLine 214 = .ok (.aload_n 0, 1)) ∧ (decode cX12_readLine 215 = .ok (.invokevirtual 287, 3)) ∧ (decode cX12_readLine 218 = .ok (.goto 8, 3)) ∧ (decode cX12_readLine 221 = .ok (.aload_n 0, 1)) ∧ (decode cX12_readLine 222 = .ok (.iconst 1, 1)) ∧ (decode cX12_readLine 223 = .ok (.invokevirtual 210, 3)) := by decide +kernel
theorem dX12_readLine_204 : decode cX12_readLine 204 = .ok (.aload_n 0, 1) := bdX12_readLine_204.1
theorem dX12_readLine_205 : decode cX12_readLine 205 = .ok (.ldc_w 285, 3) := bdX12_readLine_204.2.1
theorem dX12_readLine_208 : decode cX12_readLine 208 = .ok (.invokevirtual 203, 3) := bdX12_readLine_204.2.2.1
theorem dX12_readLine_211 : decode cX12_readLine 211 = .ok (.ifCond .eq 10, 3) := bdX12_readLine_204.2.2.2.1
theorem dX12_readLine_214 : decode cX12_readLine 214 = .ok (.aload_n 0, 1) := bdX12_readLine_204.2.2.2.2.1
theorem dX12_readLine_215 : decode cX12_readLine 215 = .ok (.invokevirtual 287, 3) := bdX12_readLine_204.2.2.2.2.2.1
theorem dX12_readLine_218 : decode cX12_readLine 218 = .ok (.goto 8, 3) := bdX12_readLine_204.2.2.2.2.2.2.1
theorem dX12_readLine_221 : decode cX12_readLine 221 = .ok (.aload_n 0, 1) := bdX12_readLine_204.2.2.2.2.2.2.2.1
theorem dX12_readLine_222 : decode cX12_readLine 222 = .ok (.iconst 1, 1) := bdX12_readLine_204.2.2.2.2.2.2.2.2.1
theorem dX12_readLine_223 : decode cX12_readLine 223 = .ok (.invokevirtual 210, 3) := bdX12_readLine_204.2.2.2.2.2.2.2.2.2
theorem bdX12_readLine_226 : (decode cX12_readLine 226 = .ok (.aload_n 0, 1)) ∧ (decode cX12_readLine 227 = .ok (.bipush 59, 2)) ∧ (decode cX12_readLine 229 = .ok (.invokevirtual 234, 3)) ∧ (decode cX12_readLine 232 = .ok (.iload_n 1, 1)) ∧ (decode cX12_readLine 233 = .ok (.iload_n 2, 1)) ∧ (decode cX12_readLine 234 = .ok (.ior, 1)) ∧ (decode cX12_readLine 235 = .ok (.ireturn, 1)) := by decide +kernel
theorem dX12_readLine_226 : decode cX12_readLine 226 = .ok (.aload_n 0, 1) := bdX12_readLine_226.1
theorem dX12_readLine_227 : decode cX12_readLine 227 = .ok (.bipush 59, 2) := bdX12_readLine_226.2.1
theorem dX12_readLine_229 : decode cX12_readLine 229 = .ok (.invokevirtual 234, 3) := bdX12_readLine_226.2.2.1
theorem dX12_readLine_232 : decode cX12_readLine 232 = .ok (.iload_n 1, 1) := bdX12_readLine_226.2.2.2.1
theorem dX12_readLine_233 : decode cX12_readLine 233 = .ok (.iload_n 2, 1) := bdX12_readLine_226.2.2.2.2.1
theorem dX12_readLine_234 : decode cX12_readLine 234 = .ok (.ior, 1) := bdX12_readLine_226.2.2.2.2.2.1
theorem dX12_readLine_235 : decode cX12_readLine 235 = .ok (.ireturn, 1) := bdX12_readLine_226.2.2.2.2.2.2
theorem bdX12_island_0 : (decode cX12_island 0 = .ok (.aload_n 0, 1)) ∧ (decode cX12_island 1 = .ok (.iconst 0, 1)) ∧ (decode cX12_island 2 = .ok (.putfield 140, 3)) ∧ (decode cX12_island 5 = .ok (.iload_n 1, 1)) ∧ (decode cX12_island 6 = .ok (.ifCond .lt 11, 3)) ∧ (decode cX12_island 9 = .ok (.iload_n 1, 1)) ∧ (decode cX12_island 10 = .ok (.aload_n 0, 1)) ∧ (decode cX12_island 11 = .ok (.getfield 147, 3)) ∧ (decode cX12_island 14 = .ok (.if_icmp .le 9, 3)) ∧ (decode cX12_island 17 = .ok (.aload_n 0, 1)) := by decide +kernel
theorem dX12_island_0 : decode cX12_island 0 = .ok (.aload_n 0, 1) := bdX12_island_0.1
theorem dX12_island_1 : decode cX12_island 1 = .ok (.iconst 0, 1) := bdX12_island_0.2.1
theorem dX12_island_2 : decode cX12_island 2 = .ok (.putfield 140, 3) := bdX12_island_0.2.2.1
theorem dX12_island_5 : decode cX12_island 5 = .ok (.iload_n 1, 1) := bdX12_island_0.2.2.2.1
theorem dX12_island_6 : decode cX12_island 6 = .ok (.ifCond .lt 11, 3) := bdX12_island_0.2.2.2.2.1
theorem dX12_island_9 : decode cX12_island 9 = .ok (.iload_n 1, 1) := bdX12_island_0.2.2.2.2.2.1
theorem dX12_island_10 : decode cX12_island 10 = .ok (.aload_n 0, 1) := bdX12_island_0.2.2.2.2.2.2.1
theorem dX12_island_11 : decode cX12_island 11 = .ok (.getfield 147, 3) := bdX12_island_0.2.2.2.2.2.2.2.1
theorem dX12_island_14 : decode cX12_island 14 = .ok (.if_icmp .le 9, 3) := bdX12_island_0.2.2.2.2.2.2.2.2.1
theorem dX12_island_17 : decode cX12_island 17 = .ok (.aload_n 0, 1) := bdX12_island_0.2.2.2.2.2.2.2.2.2
theorem bdX12_island_18 : (decode cX12_island 18 = .ok (.iconst 1, 1)) ∧ (decode cX12_island 19 = .ok (.invokevirtual 290, 3)) ∧ (decode cX12_island 22 = .ok (.ireturn, 1)) ∧ (decode cX12_island 23 = .ok (.aload_n 0, 1)) ∧ (decode cX12_island 24 = .ok (.iconst 0, 1)) ∧ (decode cX12_island 25 = .ok (.putfield 147, 3)) ∧ (decode cX12_island 28 = .ok (.aload_n 0, 1)) ∧ (decode cX12_island 29 = .ok (.iload_n 1, 1)) ∧ (decode cX12_island 30 = .ok (.putfield 150, 3)) ∧ (decode cX12_island 33 = .ok (.aload_n 0, 1)) := by decide +kernel
theorem dX12_island_18 : decode cX12_island 18 = .ok (.iconst 1, 1) := bdX12_island_18.1
theorem dX12_island_19 : decode cX12_island 19 = .ok (.invokevirtual 290, 3) := bdX12_island_18.2.1
theorem dX12_island_22 : decode cX12_island 22 = .ok (.ireturn, 1) := bdX12_island_18.2.2.1
theorem dX12_island_23 : decode cX12_island 23 = .ok (.aload_n 0, 1) := bdX12_island_18.2.2.2.1
theorem dX12_island_24 : decode cX12_island 24 = .ok (.iconst 0, 1) := bdX12_island_18.2.2.2.2.1
theorem dX12_island_25 : decode cX12_island 25 = .ok (.putfield 147, 3) := bdX12_island_18.2.2.2.2.2.1
theorem dX12_island_28 : decode cX12_island 28 = .ok (.aload_n 0, 1) := bdX12_island_18.2.2.2.2.2.2.1
theorem dX12_island_29 : decode cX12_island 29 = .ok (.iload_n 1, 1) := bdX12_island_18.2.2.2.2.2.2.2.1
theorem dX12_island_30 : decode cX12_island 30 = .ok (.putfield 150, 3) := bdX12_island_18.2.2.2.2.2.2.2.2.1
theorem dX12_island_33 : decode cX12_island 33 = .ok (.aload_n 0, 1) := bdX12_island_18.2.2.2.2.2.2.2.2.2
theorem bdX12_island_34 : (decode cX12_island 34 = .ok (.iconst 0, 1)) ∧ (decode cX12_island 35 = .ok (.putfield 153, 3)) ∧ (decode cX12_island 38 = .ok (.aload_n 0, 1)) ∧ (decode cX12_island 39 = .ok (.iconst 0, 1)) ∧ (decode cX12_island 40 = .ok (.putfield 189, 3)) ∧ (decode cX12_island 43 = .ok (.aload_n 0, 1)) ∧ (decode cX12_island 44 = .ok (.iconst (-1), 1)) ∧ (decode cX12_island 45 = .ok (.putfield 69, 3)) ∧ (decode cX12_island 48 = .ok (.iconst 0, 1)) ∧ (decode cX12_island 49 = .ok (.istore_n 2, 1)) := by decide +kernel
theorem dX12_island_34 : decode cX12_island 34 = .ok (.iconst 0, 1) := bdX12_island_34.1
theorem dX12_island_35 : decode cX12_island 35 = .ok (.putfield 153, 3) := bdX12_island_34.2.1
theorem dX12_island_38 : decode cX12_island 38 = .ok (.aload_n 0, 1) := bdX12_island_34.2.2.1
theorem dX12_island_39 : decode cX12_island 39 = .ok (.iconst 0, 1) := bdX12_island_34.2.2.2.1
theorem dX12_island_40 : decode cX12_island 40 = .ok (.putfield 189, 3) := bdX12_island_34.2.2.2.2.1
theorem dX12_island_43 : decode cX12_island 43 = .ok (.aload_n 0, 1) := bdX12_island_34.2.2.2.2.2.1
theorem dX12_island_44 : decode cX12_island 44 = .ok (.iconst (-1), 1) := bdX12_island_34.2.2.2.2.2.2.1
theorem dX12_island_45 : decode cX12_island 45 = .ok (.putfield 69, 3) := bdX12_island_34.2.2.2.2.2.2.2.1
theorem dX12_island_48 : decode cX12_island 48 = .ok (.iconst 0, 1) := bdX12_island_34.2.2.2.2.2.2.2.2.1
theorem dX12_island_49 : decode cX12_island 49 = .ok (.istore_n 2, 1) := bdX12_island_34.2.2.2.2.2.2.2.2.2
theorem bdX12_island_50 : (decode cX12_island 50 = .ok (.iload_n 2, 1)) ∧ (decode cX12_island 51 = .ok (.bipush 8, 2)) ∧ (decode cX12_island 53 = .ok (.if_icmp .ge 43, 3)) ∧ (decode cX12_island 56 = .ok (.aload_n 0, 1)) ∧ (decode cX12_island 57 = .ok (.getfield 35, 3)) ∧ (decode cX12_island 60 = .ok (.bipush 8, 2)) ∧ (decode cX12_island 62 = .ok (.iload_n 2, 1)) ∧ (decode cX12_island 63 = .ok (.iadd, 1)) ∧ (decode cX12_island 64 = .ok (.iload_n 2, 1)) ∧ (decode cX12_island 65 = .ok (.iconst 3, 1)) := by decide +kernel
theorem dX12_island_50 : decode cX12_island 50 = .ok (.iload_n 2, 1) := bdX12_island_50.1
theorem dX12_island_51 : decode cX12_island 51 = .ok (.bipush 8, 2) := bdX12_island_50.2.1
theorem dX12_island_53 : decode cX12_island 53 = .ok (.if_icmp .ge 43, 3) := bdX12_island_50.2.2.1
theorem dX12_island_56 : decode cX12_island 56 = .ok (.aload_n 0, 1) := bdX12_island_50.2.2.2.1
theorem dX12_island_57 : decode cX12_island 57 = .ok (.getfield 35, 3) := bdX12_island_50.2.2.2.2.1
theorem dX12_island_60 : decode cX12_island 60 = .ok (.bipush 8, 2) := bdX12_island_50.2.2.2.2.2.1
theorem dX12_island_62 : decode cX12_island 62 = .ok (.iload_n 2, 1) := bdX12_island_50.2.2.2.2.2.2.1
theorem dX12_island_63 : decode cX12_island 63 = .ok (.iadd, 1) := bdX12_island_50.2.2.2.2.2.2.2.1
theorem dX12_island_64 : decode cX12_island 64 = .ok (.iload_n 2, 1) := bdX12_island_50.2.2.2.2.2.2.2.2.1
theorem dX12_island_65 : decode cX12_island 65 = .ok (.iconst 3, 1) := bdX12_island_50.2.2.2.2.2.2.2.2.2
theorem bdX12_island_66 : (decode cX12_island 66 = .ok (.if_icmp .ne 7, 3)) ∧ (decode cX12_island 69 = .ok (.iconst 4, 1)) ∧ (decode cX12_island 70 = .ok (.goto 19, 3)) ∧ (decode cX12_island 73 = .ok (.iload_n 2, 1)) ∧ (decode cX12_island 74 = .ok (.iconst 4, 1)) ∧ (decode cX12_island 75 = .ok (.if_icmp .eq 8, 3)) ∧ (decode cX12_island 78 = .ok (.iload_n 2, 1)) ∧ (decode cX12_island 79 = .ok (.iconst 5, 1)) ∧ (decode cX12_island 80 = .ok (.if_icmp .ne 8, 3)) ∧ (decode cX12_island 83 = .ok (.bipush 10, 2)) := by decide +kernel
theorem dX12_island_66 : decode cX12_island 66 = .ok (.if_icmp .ne 7, 3) := bdX12_island_66.1
theorem dX12_island_69 : decode cX12_island 69 = .ok (.iconst 4, 1) := bdX12_island_66.2.1
theorem dX12_island_70 : decode cX12_island 70 = .ok (.goto 19, 3) := bdX12_island_66.2.2.1
theorem dX12_island_73 : decode cX12_island 73 = .ok (.iload_n 2, 1) := bdX12_island_66.2.2.2.1
theorem dX12_island_74 : decode cX12_island 74 = .ok (.iconst 4, 1) := bdX12_island_66.2.2.2.2.1
theorem dX12_island_75 : decode cX12_island 75 = .ok (.if_icmp .eq 8, 3) := bdX12_island_66.2.2.2.2.2.1
theorem dX12_island_78 : decode cX12_island 78 = .ok (.iload_n 2, 1) := bdX12_island_66.2.2.2.2.2.2.1
theorem dX12_island_79 : decode cX12_island 79 = .ok (.iconst 5, 1) := bdX12_island_66.2.2.2.2.2.2.2.1
theorem dX12_island_80 : decode cX12_island 80 = .ok (.if_icmp .ne 8, 3) := bdX12_island_66.2.2.2.2.2.2.2.2.1
theorem dX12_island_83 : decode cX12_island 83 = .ok (.bipush 10, 2) := bdX12_island_66.2.2.2.2.2.2.2.2.2
theorem bdX12_island_85 : (decode cX12_island 85 = .ok (.goto 4, 3)) ∧ (decode cX12_island 88 = .ok (.iconst 0, 1)) ∧ (decode cX12_island 89 = .ok (.iastore, 1)) ∧ (decode cX12_island 90 = .ok (.iinc 2 1, 3)) ∧ (decode cX12_island 93 = .ok (.goto (-43), 3)) ∧ (decode cX12_island 96 = .ok (.aload_n 0, 1)) ∧ (decode cX12_island 97 = .ok (.invokevirtual 214, 3)) ∧ (decode cX12_island 100 = .ok (.iconst 0, 1)) ∧ (decode cX12_island 101 = .ok (.istore_n 2, 1)) ∧ (decode cX12_island 102 = .ok (.aload_n 0, 1)) := by decide +kernel
theorem dX12_island_85 : decode cX12_island 85 = .ok (.goto 4, 3) := bdX12_island_85.1
theorem dX12_island_88 : decode cX12_island 88 = .ok (.iconst 0, 1) := bdX12_island_85.2.1
theorem dX12_island_89 : decode cX12_island 89 = .ok (.iastore, 1) := bdX12_island_85.2.2.1
theorem dX12_island_90 : decode cX12_island 90 = .ok (.iinc 2 1, 3) := bdX12_island_85.2.2.2.1
theorem dX12_island_93 : decode cX12_island 93 = .ok (.goto (-43), 3) := bdX12_island_85.2.2.2.2.1
theorem dX12_island_96 : decode cX12_island 96 = .ok (.aload_n 0, 1) := bdX12_island_85.2.2.2.2.2.1
theorem dX12_island_97 : decode cX12_island 97 = .ok (.invokevirtual 214, 3) := bdX12_island_85.2.2.2.2.2.2.1
theorem dX12_island_100 : decode cX12_island 100 = .ok (.iconst 0, 1) := bdX12_island_85.2.2.2.2.2.2.2.1
theorem dX12_island_101 : decode cX12_island 101 = .ok (.istore_n 2, 1) := bdX12_island_85.2.2.2.2.2.2.2.2.1
theorem dX12_island_102 : decode cX12_island 102 = .ok (.aload_n 0, 1) := bdX12_island_85.2.2.2.2.2.2.2.2.2
theorem bdX12_island_103 : (decode cX12_island 103 = .ok (.getfield 189, 3)) ∧ (decode cX12_island 106 = .ok (.ifCond .ne 19, 3)) ∧ (decode cX12_island 109 = .ok (.aload_n 0, 1)) ∧ (decode cX12_island 110 = .ok (.getfield 163, 3)) ∧ (decode cX12_island 113 = .ok (.ifCond .eq 12, 3)) ∧ (decode cX12_island 116 = .ok (.aload_n 0, 1)) ∧ (decode cX12_island 117 = .ok (.iload_n 2, 1)) ∧ (decode cX12_island 118 = .ok (.invokevirtual 293, 3)) ∧ (decode cX12_island 121 = .ok (.istore_n 2, 1)) ∧ (decode cX12_island 122 = .ok (.goto (-20), 3)) := by decide +kernel
theorem dX12_island_103 : decode cX12_island 103 = .ok (.getfield 189, 3) := bdX12_island_103.1
theorem dX12_island_106 : decode cX12_island 106 = .ok (.ifCond .ne 19, 3) := bdX12_island_103.2.1
theorem dX12_island_109 : decode cX12_island 109 = .ok (.aload_n 0, 1) := bdX12_island_103.2.2.1
theorem dX12_island_110 : decode cX12_island 110 = .ok (.getfield 163, 3) := bdX12_island_103.2.2.2.1
theorem dX12_island_113 : decode cX12_island 113 = .ok (.ifCond .eq 12, 3) := bdX12_island_103.2.2.2.2.1
theorem dX12_island_116 : decode cX12_island 116 = .ok (.aload_n 0, 1) := bdX12_island_103.2.2.2.2.2.1
theorem dX12_island_117 : decode cX12_island 117 = .ok (.iload_n 2, 1) := bdX12_island_103.2.2.2.2.2.2.1
theorem dX12_island_118 : decode cX12_island 118 = .ok (.invokevirtual 293, 3) := bdX12_island_103.2.2.2.2.2.2.2.1
theorem dX12_island_121 : decode cX12_island 121 = .ok (.istore_n 2, 1) := bdX12_island_103.2.2.2.2.2.2.2.2.1
theorem dX12_island_122 : decode cX12_island 122 = .ok (.goto (-20), 3) := bdX12_island_103.2.2.2.2.2.2.2.2.2
theorem bdX12_island_125 : (decode cX12_island 125 = .ok (.aload_n 0, 1)) ∧ (decode cX12_island 126 = .ok (.getfield 189, 3)) ∧ (decode cX12_island 129 = .ok (.ifCond .eq 26, 3)) ∧ (decode cX12_island 132 = .ok (.aload_n 0, 1)) ∧ (decode cX12_island 133 = .ok (.aload_n 0, 1)) ∧ (decode cX12_island 134 = .ok (.getfield 192, 3)) ∧ (decode cX12_island 137 = .ok (.putfield 69, 3)) ∧ (decode cX12_island 140 = .ok (.aload_n 0, 1)) ∧ (decode cX12_island 141 = .ok (.getfield 63, 3)) ∧ (decode cX12_island 144 = .ok (.iconst 0, 1)) := by decide +kernel
theorem dX12_island_125 : decode cX12_island 125 = .ok (.aload_n 0, 1) := bdX12_island_125.1
theorem dX12_island_126 : decode cX12_island 126 = .ok (.getfield 189, 3) := bdX12_island_125.2.1
theorem dX12_island_129 : decode cX12_island 129 = .ok (.ifCond .eq 26, 3) := bdX12_island_125.2.2.1
theorem dX12_island_132 : decode cX12_island 132 = .ok (.aload_n 0, 1) := bdX12_island_125.2.2.2.1
theorem dX12_island_133 : decode cX12_island 133 = .ok (.aload_n 0, 1) := bdX12_island_125.2.2.2.2.1
theorem dX12_island_134 : decode cX12_island 134 = .ok (.getfield 192, 3) := bdX12_island_125.2.2.2.2.2.1
theorem dX12_island_137 : decode cX12_island 137 = .ok (.putfield 69, 3) := bdX12_island_125.2.2.2.2.2.2.1
theorem dX12_island_140 : decode cX12_island 140 = .ok (.aload_n 0, 1) := bdX12_island_125.2.2.2.2.2.2.2.1
theorem dX12_island_141 : decode cX12_island 141 = .ok (.getfield 63, 3) := bdX12_island_125.2.2.2.2.2.2.2.2.1
theorem dX12_island_144 : decode cX12_island 144 = .ok (.iconst 0, 1) := bdX12_island_125.2.2.2.2.2.2.2.2.2
theorem bdX12_island_145 : (decode cX12_island 145 = .ok (.dup2, 1)) ∧ (decode cX12_island 146 = .ok (.iaload, 1)) ∧ (decode cX12_island 147 = .ok (.iconst 1, 1)) ∧ (decode cX12_island 148 = .ok (.iadd, 1)) ∧ (decode cX12_island 149 = .ok (.iastore, 1)) ∧ (decode cX12_island 150 = .ok (.aload_n 0, 1)) ∧ (decode cX12_island 151 = .ok (.getfield 189, 3)) ∧ (decode cX12_island 154 = .ok (.ireturn, 1)) ∧ (decode cX12_island 155 = .ok (.aload_n 0, 1)) ∧ (decode cX12_island 156 = .ok (.invokevirtual 296, 3)) := by decide +kernel
theorem dX12_island_145 : decode cX12_island 145 = .ok (.dup2, 1) := bdX12_island_145.1
theorem dX12_island_146 : decode cX12_island 146 = .ok (.iaload, 1) := bdX12_island_145.2.1
theorem dX12_island_147 : decode cX12_island 147 = .ok (.iconst 1, 1) := bdX12_island_145.2.2.1
theorem dX12_island_148 : decode cX12_island 148 = .ok (.iadd, 1) := bdX12_island_145.2.2.2.1
theorem dX12_island_149 : decode cX12_island 149 = .ok (.iastore, 1) := bdX12_island_145.2.2.2.2.1
theorem dX12_island_150 : decode cX12_island 150 = .ok (.aload_n 0, 1) := bdX12_island_145.2.2.2.2.2.1
theorem dX12_island_151 : decode cX12_island 151 = .ok (.getfield 189, 3) := bdX12_island_145.2.2.2.2.2.2.1
theorem dX12_island_154 : decode cX12_island 154 = .ok (.ireturn, 1) := bdX12_island_145.2.2.2.2.2.2.2.1
theorem dX12_island_155 : decode cX12_island 155 = .ok (.aload_n 0, 1) := bdX12_island_145.2.2.2.2.2.2.2.2.1
theorem dX12_island_156 : decode cX12_island 156 = .ok (.invokevirtual 296, 3) := bdX12_island_145.2.2.2.2.2.2.2.2.2
theorem bdX12_island_159 : (decode cX12_island 159 = .ok (.iconst 0, 1)) ∧ (decode cX12_island 160 = .ok (.ireturn, 1)) := by decide +kernel
theorem dX12_island_159 : decode cX12_island 159 = .ok (.iconst 0, 1) := bdX12_island_159.1
theorem dX12_island_160 : decode cX12_island 160 = .ok (.ireturn, 1) := bdX12_island_159.2
theorem bdX12_takeHalf_0 : (decode cX12_takeHalf 0 = .ok (.iconst 0, 1)) ∧ (decode cX12_takeHalf 1 = .ok (.istore_n 1, 1)) ∧ (decode cX12_takeHalf 2 = .ok (.iload_n 1, 1)) ∧ (decode cX12_takeHalf 3 = .ok (.aload_n 0, 1)) ∧ (decode cX12_takeHalf 4 = .ok (.arraylength, 1)) ∧ (decode cX12_takeHalf 5 = .ok (.iconst 2, 1)) ∧ (decode cX12_takeHalf 6 = .ok (.idiv, 1)) ∧ (decode cX12_takeHalf 7 = .ok (.if_icmp .ge 20, 3)) ∧ (decode cX12_takeHalf 10 = .ok (.aload_n 0, 1)) ∧ (decode cX12_takeHalf 11 = .ok (.iload_n 1, 1)) := by decide +kernel
theorem dX12_takeHalf_0 : decode cX12_takeHalf 0 = .ok (.iconst 0, 1) := bdX12_takeHalf_0.1
theorem dX12_takeHalf_1 : decode cX12_takeHalf 1 = .ok (.istore_n 1, 1) := bdX12_takeHalf_0.2.1
theorem dX12_takeHalf_2 : decode cX12_takeHalf 2 = .ok (.iload_n 1, 1) := bdX12_takeHalf_0.2.2.1
theorem dX12_takeHalf_3 : decode cX12_takeHalf 3 = .ok (.aload_n 0, 1) := bdX12_takeHalf_0.2.2.2.1
theorem dX12_takeHalf_4 : decode cX12_takeHalf 4 = .ok (.arraylength, 1) := bdX12_takeHalf_0.2.2.2.2.1
theorem dX12_takeHalf_5 : decode cX12_takeHalf 5 = .ok (.iconst 2, 1) := bdX12_takeHalf_0.2.2.2.2.2.1
theorem dX12_takeHalf_6 : decode cX12_takeHalf 6 = .ok (.idiv, 1) := bdX12_takeHalf_0.2.2.2.2.2.2.1
theorem dX12_takeHalf_7 : decode cX12_takeHalf 7 = .ok (.if_icmp .ge 20, 3) := bdX12_takeHalf_0.2.2.2.2.2.2.2.1
theorem dX12_takeHalf_10 : decode cX12_takeHalf 10 = .ok (.aload_n 0, 1) := bdX12_takeHalf_0.2.2.2.2.2.2.2.2.1
theorem dX12_takeHalf_11 : decode cX12_takeHalf 11 = .ok (.iload_n 1, 1) := bdX12_takeHalf_0.2.2.2.2.2.2.2.2.2
theorem bdX12_takeHalf_12 : (decode cX12_takeHalf 12 = .ok (.aload_n 0, 1)) ∧ (decode cX12_takeHalf 13 = .ok (.aload_n 0, 1)) ∧ (decode cX12_takeHalf 14 = .ok (.arraylength, 1)) ∧ (decode cX12_takeHalf 15 = .ok (.iconst 2, 1)) ∧ (decode cX12_takeHalf 16 = .ok (.idiv, 1)) ∧ (decode cX12_takeHalf 17 = .ok (.iload_n 1, 1)) ∧ (decode cX12_takeHalf 18 = .ok (.iadd, 1)) ∧ (decode cX12_takeHalf 19 = .ok (.iaload, 1)) ∧ (decode cX12_takeHalf 20 = .ok (.iastore, 1)) ∧ (decode cX12_takeHalf 21 = .ok (.iinc 1 1, 3)) := by decide +kernel
theorem dX12_takeHalf_12 : decode cX12_takeHalf 12 = .ok (.aload_n 0, 1) := bdX12_takeHalf_12.1
theorem dX12_takeHalf_13 : decode cX12_takeHalf 13 = .ok (.aload_n 0, 1) := bdX12_takeHalf_12.2.1
theorem dX12_takeHalf_14 : decode cX12_takeHalf 14 = .ok (.arraylength, 1) := bdX12_takeHalf_12.2.2.1
theorem dX12_takeHalf_15 : decode cX12_takeHalf 15 = .ok (.iconst 2, 1) := bdX12_takeHalf_12.2.2.2.1
theorem dX12_takeHalf_16 : decode cX12_takeHalf 16 = .ok (.idiv, 1) := bdX12_takeHalf_12.2.2.2.2.1
theorem dX12_takeHalf_17 : decode cX12_takeHalf 17 = .ok (.iload_n 1, 1) := bdX12_takeHalf_12.2.2.2.2.2.1
theorem dX12_takeHalf_18 : decode cX12_takeHalf 18 = .ok (.iadd, 1) := bdX12_takeHalf_12.2.2.2.2.2.2.1
theorem dX12_takeHalf_19 : decode cX12_takeHalf 19 = .ok (.iaload, 1) := bdX12_takeHalf_12.2.2.2.2.2.2.2.1
theorem dX12_takeHalf_20 : decode cX12_takeHalf 20 = .ok (.iastore, 1) := bdX12_takeHalf_12.2.2.2.2.2.2.2.2.1
theorem dX12_takeHalf_21 : decode cX12_takeHalf 21 = .ok (.iinc 1 1, 3) := bdX12_takeHalf_12.2.2.2.2.2.2.2.2.2
theorem bdX12_takeHalf_24 : (decode cX12_takeHalf 24 = .ok (.goto (-22), 3)) ∧ (decode cX12_takeHalf 27 = .ok (.return_, 1)) := by decide +kernel
theorem dX12_takeHalf_24 : decode cX12_takeHalf 24 = .ok (.goto (-22), 3) := bdX12_takeHalf_24.1
theorem dX12_takeHalf_27 : decode cX12_takeHalf 27 = .ok (.return_, 1) := bdX12_takeHalf_24.2
theorem bdX12_takeOver_0 : (decode cX12_takeOver 0 = .ok (.aload_n 0, 1)) ∧ (decode cX12_takeOver 1 = .ok (.getfield 35, 3)) ∧ (decode cX12_takeOver 4 = .ok (.invokestatic 299, 3)) ∧ (decode cX12_takeOver 7 = .ok (.aload_n 0, 1)) ∧ (decode cX12_takeOver 8 = .ok (.getfield 39, 3)) ∧ (decode cX12_takeOver 11 = .ok (.invokestatic 299, 3)) ∧ (decode cX12_takeOver 14 = .ok (.aload_n 0, 1)) ∧ (decode cX12_takeOver 15 = .ok (.getfield 42, 3)) ∧ (decode cX12_takeOver 18 = .ok (.invokestatic 299, 3)) ∧ (decode cX12_takeOver 21 = .ok (.aload_n 0, 1)) := by decide +kernel
theorem dX12_takeOver_0 : decode cX12_takeOver 0 = .ok (.aload_n 0, 1) := bdX12_takeOver_0.1
theorem dX12_takeOver_1 : decode cX12_takeOver 1 = .ok (.getfield 35, 3) := bdX12_takeOver_0.2.1
theorem dX12_takeOver_4 : decode cX12_takeOver 4 = .ok (.invokestatic 299, 3) := bdX12_takeOver_0.2.2.1
theorem dX12_takeOver_7 : decode cX12_takeOver 7 = .ok (.aload_n 0, 1) := bdX12_takeOver_0.2.2.2.1
theorem dX12_takeOver_8 : decode cX12_takeOver 8 = .ok (.getfield 39, 3) := bdX12_takeOver_0.2.2.2.2.1
theorem dX12_takeOver_11 : decode cX12_takeOver 11 = .ok (.invokestatic 299, 3) := bdX12_takeOver_0.2.2.2.2.2.1
theorem dX12_takeOver_14 : decode cX12_takeOver 14 = .ok (.aload_n 0, 1) := bdX12_takeOver_0.2.2.2.2.2.2.1
theorem dX12_takeOver_15 : decode cX12_takeOver 15 = .ok (.getfield 42, 3) := bdX12_takeOver_0.2.2.2.2.2.2.2.1
theorem dX12_takeOver_18 : decode cX12_takeOver 18 = .ok (.invokestatic 299, 3) := bdX12_takeOver_0.2.2.2.2.2.2.2.2.1
theorem dX12_takeOver_21 : decode cX12_takeOver 21 = .ok (.aload_n 0, 1) := bdX12_takeOver_0.2.2.2.2.2.2.2.2.2
theorem bdX12_takeOver_22 : (decode cX12_takeOver 22 = .ok (.getfield 44, 3)) ∧ (decode cX12_takeOver 25 = .ok (.invokestatic 299, 3)) ∧ (decode cX12_takeOver 28 = .ok (.aload_n 0, 1)) ∧ (decode cX12_takeOver 29 = .ok (.getfield 46, 3)) ∧ (decode cX12_takeOver 32 = .ok (.invokestatic 299, 3)) ∧ (decode cX12_takeOver 35 = .ok (.aload_n 0, 1)) ∧ (decode cX12_takeOver 36 = .ok (.getfield 49, 3)) ∧ (decode cX12_takeOver 39 = .ok (.invokestatic 299, 3)) ∧ (decode cX12_takeOver 42 = .ok (.aload_n 0, 1)) ∧ (decode cX12_takeOver 43 = .ok (.getfield 52, 3)) := by decide +kernel
theorem dX12_takeOver_22 : decode cX12_takeOver 22 = .ok (.getfield 44, 3) := bdX12_takeOver_22.1
theorem dX12_takeOver_25 : decode cX12_takeOver 25 = .ok (.invokestatic 299, 3) := bdX12_takeOver_22.2.1
theorem dX12_takeOver_28 : decode cX12_takeOver 28 = .ok (.aload_n 0, 1) := bdX12_takeOver_22.2.2.1
theorem dX12_takeOver_29 : decode cX12_takeOver 29 = .ok (.getfield 46, 3) := bdX12_takeOver_22.2.2.2.1
theorem dX12_takeOver_32 : decode cX12_takeOver 32 = .ok (.invokestatic 299, 3) := bdX12_takeOver_22.2.2.2.2.1
theorem dX12_takeOver_35 : decode cX12_takeOver 35 = .ok (.aload_n 0, 1) := bdX12_takeOver_22.2.2.2.2.2.1
theorem dX12_takeOver_36 : decode cX12_takeOver 36 = .ok (.getfield 49, 3) := bdX12_takeOver_22.2.2.2.2.2.2.1
theorem dX12_takeOver_39 : decode cX12_takeOver 39 = .ok (.invokestatic 299, 3) := bdX12_takeOver_22.2.2.2.2.2.2.2.1
theorem dX12_takeOver_42 : decode cX12_takeOver 42 = .ok (.aload_n 0, 1) := bdX12_takeOver_22.2.2.2.2.2.2.2.2.1
theorem dX12_takeOver_43 : decode cX12_takeOver 43 = .ok (.getfield 52, 3) := bdX12_takeOver_22.2.2.2.2.2.2.2.2.2
theorem bdX12_takeOver_46 : (decode cX12_takeOver 46 = .ok (.invokestatic 299, 3)) ∧ (decode cX12_takeOver 49 = .ok (.aload_n 0, 1)) ∧ (decode cX12_takeOver 50 = .ok (.getfield 55, 3)) ∧ (decode cX12_takeOver 53 = .ok (.invokestatic 299, 3)) ∧ (decode cX12_takeOver 56 = .ok (.aload_n 0, 1)) ∧ (decode cX12_takeOver 57 = .ok (.getfield 57, 3)) ∧ (decode cX12_takeOver 60 = .ok (.invokestatic 299, 3)) ∧ (decode cX12_takeOver 63 = .ok (.aload_n 0, 1)) ∧ (decode cX12_takeOver 64 = .ok (.getfield 60, 3)) ∧ (decode cX12_takeOver 67 = .ok (.invokestatic 299, 3)) := by decide +kernel
theorem dX12_takeOver_46 : decode cX12_takeOver 46 = .ok (.invokestatic 299, 3) := bdX12_takeOver_46.1
theorem dX12_takeOver_49 : decode cX12_takeOver 49 = .ok (.aload_n 0, 1) := bdX12_takeOver_46.2.1
theorem dX12_takeOver_50 : decode cX12_takeOver 50 = .ok (.getfield 55, 3) := bdX12_takeOver_46.2.2.1
theorem dX12_takeOver_53 : decode cX12_takeOver 53 = .ok (.invokestatic 299, 3) := bdX12_takeOver_46.2.2.2.1
theorem dX12_takeOver_56 : decode cX12_takeOver 56 = .ok (.aload_n 0, 1) := bdX12_takeOver_46.2.2.2.2.1
theorem dX12_takeOver_57 : decode cX12_takeOver 57 = .ok (.getfield 57, 3) := bdX12_takeOver_46.2.2.2.2.2.1
theorem dX12_takeOver_60 : decode cX12_takeOver 60 = .ok (.invokestatic 299, 3) := bdX12_takeOver_46.2.2.2.2.2.2.1
theorem dX12_takeOver_63 : decode cX12_takeOver 63 = .ok (.aload_n 0, 1) := bdX12_takeOver_46.2.2.2.2.2.2.2.1
theorem dX12_takeOver_64 : decode cX12_takeOver 64 = .ok (.getfield 60, 3) := bdX12_takeOver_46.2.2.2.2.2.2.2.2.1
theorem dX12_takeOver_67 : decode cX12_takeOver 67 = .ok (.invokestatic 299, 3) := bdX12_takeOver_46.2.2.2.2.2.2.2.2.2
theorem bdX12_takeOver_70 : (decode cX12_takeOver 70 = .ok (.aload_n 0, 1)) ∧ (decode cX12_takeOver 71 = .ok (.iconst 0, 1)) ∧ (decode cX12_takeOver 72 = .ok (.putfield 303, 3)) ∧ (decode cX12_takeOver 75 = .ok (.aload_n 0, 1)) ∧ (decode cX12_takeOver 76 = .ok (.iconst 0, 1)) ∧ (decode cX12_takeOver 77 = .ok (.putfield 305, 3)) ∧ (decode cX12_takeOver 80 = .ok (.aload_n 0, 1)) ∧ (decode cX12_takeOver 81 = .ok (.iconst 0, 1)) ∧ (decode cX12_takeOver 82 = .ok (.putfield 308, 3)) ∧ (decode cX12_takeOver 85 = .ok (.aload_n 0, 1)) := by decide +kernel
theorem dX12_takeOver_70 : decode cX12_takeOver 70 = .ok (.aload_n 0, 1) := bdX12_takeOver_70.1
theorem dX12_takeOver_71 : decode cX12_takeOver 71 = .ok (.iconst 0, 1) := bdX12_takeOver_70.2.1
theorem dX12_takeOver_72 : decode cX12_takeOver 72 = .ok (.putfield 303, 3) := bdX12_takeOver_70.2.2.1
theorem dX12_takeOver_75 : decode cX12_takeOver 75 = .ok (.aload_n 0, 1) := bdX12_takeOver_70.2.2.2.1
theorem dX12_takeOver_76 : decode cX12_takeOver 76 = .ok (.iconst 0, 1) := bdX12_takeOver_70.2.2.2.2.1
theorem dX12_takeOver_77 : decode cX12_takeOver 77 = .ok (.putfield 305, 3) := bdX12_takeOver_70.2.2.2.2.2.1
theorem dX12_takeOver_80 : decode cX12_takeOver 80 = .ok (.aload_n 0, 1) := bdX12_takeOver_70.2.2.2.2.2.2.1
theorem dX12_takeOver_81 : decode cX12_takeOver 81 = .ok (.iconst 0, 1) := bdX12_takeOver_70.2.2.2.2.2.2.2.1
theorem dX12_takeOver_82 : decode cX12_takeOver 82 = .ok (.putfield 308, 3) := bdX12_takeOver_70.2.2.2.2.2.2.2.2.1
theorem dX12_takeOver_85 : decode cX12_takeOver 85 = .ok (.aload_n 0, 1) := bdX12_takeOver_70.2.2.2.2.2.2.2.2.2
theorem bdX12_takeOver_86 : (decode cX12_takeOver 86 = .ok (.iconst 0, 1)) ∧ (decode cX12_takeOver 87 = .ok (.putfield 311, 3)) ∧ (decode cX12_takeOver 90 = .ok (.aload_n 0, 1)) ∧ (decode cX12_takeOver 91 = .ok (.iconst 0, 1)) ∧ (decode cX12_takeOver 92 = .ok (.putfield 314, 3)) ∧ (decode cX12_takeOver 95 = .ok (.aload_n 0, 1)) ∧ (decode cX12_takeOver 96 = .ok (.aload_n 0, 1)) ∧ (decode cX12_takeOver 97 = .ok (.getfield 35, 3)) ∧ (decode cX12_takeOver 100 = .ok (.iconst 4, 1)) ∧ (decode cX12_takeOver 101 = .ok (.iaload, 1)) := by decide +kernel
theorem dX12_takeOver_86 : decode cX12_takeOver 86 = .ok (.iconst 0, 1) := bdX12_takeOver_86.1
theorem dX12_takeOver_87 : decode cX12_takeOver 87 = .ok (.putfield 311, 3) := bdX12_takeOver_86.2.1
theorem dX12_takeOver_90 : decode cX12_takeOver 90 = .ok (.aload_n 0, 1) := bdX12_takeOver_86.2.2.1
theorem dX12_takeOver_91 : decode cX12_takeOver 91 = .ok (.iconst 0, 1) := bdX12_takeOver_86.2.2.2.1
theorem dX12_takeOver_92 : decode cX12_takeOver 92 = .ok (.putfield 314, 3) := bdX12_takeOver_86.2.2.2.2.1
theorem dX12_takeOver_95 : decode cX12_takeOver 95 = .ok (.aload_n 0, 1) := bdX12_takeOver_86.2.2.2.2.2.1
theorem dX12_takeOver_96 : decode cX12_takeOver 96 = .ok (.aload_n 0, 1) := bdX12_takeOver_86.2.2.2.2.2.2.1
theorem dX12_takeOver_97 : decode cX12_takeOver 97 = .ok (.getfield 35, 3) := bdX12_takeOver_86.2.2.2.2.2.2.2.1
theorem dX12_takeOver_100 : decode cX12_takeOver 100 = .ok (.iconst 4, 1) := bdX12_takeOver_86.2.2.2.2.2.2.2.2.1
theorem dX12_takeOver_101 : decode cX12_takeOver 101 = .ok (.iaload, 1) := bdX12_takeOver_86.2.2.2.2.2.2.2.2.2
theorem bdX12_takeOver_102 : (decode cX12_takeOver 102 = .ok (.putfield 134, 3)) ∧ (decode cX12_takeOver 105 = .ok (.aload_n 0, 1)) ∧ (decode cX12_takeOver 106 = .ok (.aload_n 0, 1)) ∧ (decode cX12_takeOver 107 = .ok (.getfield 35, 3)) ∧ (decode cX12_takeOver 110 = .ok (.iconst 5, 1)) ∧ (decode cX12_takeOver 111 = .ok (.iaload, 1)) ∧ (decode cX12_takeOver 112 = .ok (.putfield 137, 3)) ∧ (decode cX12_takeOver 115 = .ok (.iconst 0, 1)) ∧ (decode cX12_takeOver 116 = .ok (.istore_n 1, 1)) ∧ (decode cX12_takeOver 117 = .ok (.iload_n 1, 1)) := by decide +kernel
theorem dX12_takeOver_102 : decode cX12_takeOver 102 = .ok (.putfield 134, 3) := bdX12_takeOver_102.1
theorem dX12_takeOver_105 : decode cX12_takeOver 105 = .ok (.aload_n 0, 1) := bdX12_takeOver_102.2.1
theorem dX12_takeOver_106 : decode cX12_takeOver 106 = .ok (.aload_n 0, 1) := bdX12_takeOver_102.2.2.1
theorem dX12_takeOver_107 : decode cX12_takeOver 107 = .ok (.getfield 35, 3) := bdX12_takeOver_102.2.2.2.1
theorem dX12_takeOver_110 : decode cX12_takeOver 110 = .ok (.iconst 5, 1) := bdX12_takeOver_102.2.2.2.2.1
theorem dX12_takeOver_111 : decode cX12_takeOver 111 = .ok (.iaload, 1) := bdX12_takeOver_102.2.2.2.2.2.1
theorem dX12_takeOver_112 : decode cX12_takeOver 112 = .ok (.putfield 137, 3) := bdX12_takeOver_102.2.2.2.2.2.2.1
theorem dX12_takeOver_115 : decode cX12_takeOver 115 = .ok (.iconst 0, 1) := bdX12_takeOver_102.2.2.2.2.2.2.2.1
theorem dX12_takeOver_116 : decode cX12_takeOver 116 = .ok (.istore_n 1, 1) := bdX12_takeOver_102.2.2.2.2.2.2.2.2.1
theorem dX12_takeOver_117 : decode cX12_takeOver 117 = .ok (.iload_n 1, 1) := bdX12_takeOver_102.2.2.2.2.2.2.2.2.2
theorem bdX12_takeOver_118 : (decode cX12_takeOver 118 = .ok (.bipush 8, 2)) ∧ (decode cX12_takeOver 120 = .ok (.if_icmp .ge 23, 3)) ∧ (decode cX12_takeOver 123 = .ok (.aload_n 0, 1)) ∧ (decode cX12_takeOver 124 = .ok (.getfield 73, 3)) ∧ (decode cX12_takeOver 127 = .ok (.iload_n 1, 1)) ∧ (decode cX12_takeOver 128 = .ok (.iconst 0, 1)) ∧ (decode cX12_takeOver 129 = .ok (.iastore, 1)) ∧ (decode cX12_takeOver 130 = .ok (.aload_n 0, 1)) ∧ (decode cX12_takeOver 131 = .ok (.getfield 79, 3)) ∧ (decode cX12_takeOver 134 = .ok (.iload_n 1, 1)) := by decide +kernel
theorem dX12_takeOver_118 : decode cX12_takeOver 118 = .ok (.bipush 8, 2) := bdX12_takeOver_118.1
theorem dX12_takeOver_120 : decode cX12_takeOver 120 = .ok (.if_icmp .ge 23, 3) := bdX12_takeOver_118.2.1
theorem dX12_takeOver_123 : decode cX12_takeOver 123 = .ok (.aload_n 0, 1) := bdX12_takeOver_118.2.2.1
theorem dX12_takeOver_124 : decode cX12_takeOver 124 = .ok (.getfield 73, 3) := bdX12_takeOver_118.2.2.2.1
theorem dX12_takeOver_127 : decode cX12_takeOver 127 = .ok (.iload_n 1, 1) := bdX12_takeOver_118.2.2.2.2.1
theorem dX12_takeOver_128 : decode cX12_takeOver 128 = .ok (.iconst 0, 1) := bdX12_takeOver_118.2.2.2.2.2.1
theorem dX12_takeOver_129 : decode cX12_takeOver 129 = .ok (.iastore, 1) := bdX12_takeOver_118.2.2.2.2.2.2.1
theorem dX12_takeOver_130 : decode cX12_takeOver 130 = .ok (.aload_n 0, 1) := bdX12_takeOver_118.2.2.2.2.2.2.2.1
theorem dX12_takeOver_131 : decode cX12_takeOver 131 = .ok (.getfield 79, 3) := bdX12_takeOver_118.2.2.2.2.2.2.2.2.1
theorem dX12_takeOver_134 : decode cX12_takeOver 134 = .ok (.iload_n 1, 1) := bdX12_takeOver_118.2.2.2.2.2.2.2.2.2
theorem bdX12_takeOver_135 : (decode cX12_takeOver 135 = .ok (.iload_n 1, 1)) ∧ (decode cX12_takeOver 136 = .ok (.iastore, 1)) ∧ (decode cX12_takeOver 137 = .ok (.iinc 1 1, 3)) ∧ (decode cX12_takeOver 140 = .ok (.goto (-23), 3)) ∧ (decode cX12_takeOver 143 = .ok (.aload_n 0, 1)) ∧ (decode cX12_takeOver 144 = .ok (.invokevirtual 317, 3)) ∧ (decode cX12_takeOver 147 = .ok (.aload_n 0, 1)) ∧ (decode cX12_takeOver 148 = .ok (.iconst 0, 1)) ∧ (decode cX12_takeOver 149 = .ok (.putfield 320, 3)) ∧ (decode cX12_takeOver 152 = .ok (.aload_n 0, 1)) := by decide +kernel
theorem dX12_takeOver_135 : decode cX12_takeOver 135 = .ok (.iload_n 1, 1) := bdX12_takeOver_135.1
theorem dX12_takeOver_136 : decode cX12_takeOver 136 = .ok (.iastore, 1) := bdX12_takeOver_135.2.1
theorem dX12_takeOver_137 : decode cX12_takeOver 137 = .ok (.iinc 1 1, 3) := bdX12_takeOver_135.2.2.1
theorem dX12_takeOver_140 : decode cX12_takeOver 140 = .ok (.goto (-23), 3) := bdX12_takeOver_135.2.2.2.1
theorem dX12_takeOver_143 : decode cX12_takeOver 143 = .ok (.aload_n 0, 1) := bdX12_takeOver_135.2.2.2.2.1
theorem dX12_takeOver_144 : decode cX12_takeOver 144 = .ok (.invokevirtual 317, 3) := bdX12_takeOver_135.2.2.2.2.2.1
theorem dX12_takeOver_147 : decode cX12_takeOver 147 = .ok (.aload_n 0, 1) := bdX12_takeOver_135.2.2.2.2.2.2.1
theorem dX12_takeOver_148 : decode cX12_takeOver 148 = .ok (.iconst 0, 1) := bdX12_takeOver_135.2.2.2.2.2.2.2.1
theorem dX12_takeOver_149 : decode cX12_takeOver 149 = .ok (.putfield 320, 3) := bdX12_takeOver_135.2.2.2.2.2.2.2.2.1
theorem dX12_takeOver_152 : decode cX12_takeOver 152 = .ok (.aload_n 0, 1) := bdX12_takeOver_135.2.2.2.2.2.2.2.2.2
theorem bdX12_takeOver_153 : (decode cX12_takeOver 153 = .ok (.iconst 0, 1)) ∧ (decode cX12_takeOver 154 = .ok (.putfield 323, 3)) ∧ (decode cX12_takeOver 157 = .ok (.aload_n 0, 1)) ∧ (decode cX12_takeOver 158 = .ok (.iconst 0, 1)) ∧ (decode cX12_takeOver 159 = .ok (.putfield 326, 3)) ∧ (decode cX12_takeOver 162 = .ok (.return_, 1)) := by decide +kernel
theorem dX12_takeOver_153 : decode cX12_takeOver 153 = .ok (.iconst 0, 1) := bdX12_takeOver_153.1
theorem dX12_takeOver_154 : decode cX12_takeOver 154 = .ok (.putfield 323, 3) := bdX12_takeOver_153.2.1
theorem dX12_takeOver_157 : decode cX12_takeOver 157 = .ok (.aload_n 0, 1) := bdX12_takeOver_153.2.2.1
theorem dX12_takeOver_158 : decode cX12_takeOver 158 = .ok (.iconst 0, 1) := bdX12_takeOver_153.2.2.2.1
theorem dX12_takeOver_159 : decode cX12_takeOver 159 = .ok (.putfield 326, 3) := bdX12_takeOver_153.2.2.2.2.1
theorem dX12_takeOver_162 : decode cX12_takeOver 162 = .ok (.return_, 1) := bdX12_takeOver_153.2.2.2.2.2
theorem bdX12_fault_0 : (decode cX12_fault 0 = .ok (.aload_n 0, 1)) ∧ (decode cX12_fault 1 = .ok (.iconst 0, 1)) ∧ (decode cX12_fault 2 = .ok (.putfield 140, 3)) ∧ (decode cX12_fault 5 = .ok (.aload_n 0, 1)) ∧ (decode cX12_fault 6 = .ok (.getfield 69, 3)) ∧ (decode cX12_fault 9 = .ok (.ireturn, 1)) := by decide +kernel
theorem dX12_fault_0 : decode cX12_fault 0 = .ok (.aload_n 0, 1) := bdX12_fault_0.1
theorem dX12_fault_1 : decode cX12_fault 1 = .ok (.iconst 0, 1) := bdX12_fault_0.2.1
theorem dX12_fault_2 : decode cX12_fault 2 = .ok (.putfield 140, 3) := bdX12_fault_0.2.2.1
theorem dX12_fault_5 : decode cX12_fault 5 = .ok (.aload_n 0, 1) := bdX12_fault_0.2.2.2.1
theorem dX12_fault_6 : decode cX12_fault 6 = .ok (.getfield 69, 3) := bdX12_fault_0.2.2.2.2.1
theorem dX12_fault_9 : decode cX12_fault 9 = .ok (.ireturn, 1) := bdX12_fault_0.2.2.2.2.2
theorem bdX12_pack_0 : (decode cX12_pack 0 = .ok (.aload_n 1, 1)) ∧ (decode cX12_pack 1 = .ok (.iload_n 2, 1)) ∧ (decode cX12_pack 2 = .ok (.aload_n 0, 1)) ∧ (decode cX12_pack 3 = .ok (.getfield 303, 3)) ∧ (decode cX12_pack 6 = .ok (.iastore, 1)) ∧ (decode cX12_pack 7 = .ok (.aload_n 1, 1)) ∧ (decode cX12_pack 8 = .ok (.iload_n 2, 1)) ∧ (decode cX12_pack 9 = .ok (.iconst 1, 1)) ∧ (decode cX12_pack 10 = .ok (.iadd, 1)) ∧ (decode cX12_pack 11 = .ok (.aload_n 0, 1)) := by decide +kernel
theorem dX12_pack_0 : decode cX12_pack 0 = .ok (.aload_n 1, 1) := bdX12_pack_0.1
theorem dX12_pack_1 : decode cX12_pack 1 = .ok (.iload_n 2, 1) := bdX12_pack_0.2.1
theorem dX12_pack_2 : decode cX12_pack 2 = .ok (.aload_n 0, 1) := bdX12_pack_0.2.2.1
theorem dX12_pack_3 : decode cX12_pack 3 = .ok (.getfield 303, 3) := bdX12_pack_0.2.2.2.1
theorem dX12_pack_6 : decode cX12_pack 6 = .ok (.iastore, 1) := bdX12_pack_0.2.2.2.2.1
theorem dX12_pack_7 : decode cX12_pack 7 = .ok (.aload_n 1, 1) := bdX12_pack_0.2.2.2.2.2.1
theorem dX12_pack_8 : decode cX12_pack 8 = .ok (.iload_n 2, 1) := bdX12_pack_0.2.2.2.2.2.2.1
theorem dX12_pack_9 : decode cX12_pack 9 = .ok (.iconst 1, 1) := bdX12_pack_0.2.2.2.2.2.2.2.1
theorem dX12_pack_10 : decode cX12_pack 10 = .ok (.iadd, 1) := bdX12_pack_0.2.2.2.2.2.2.2.2.1
theorem dX12_pack_11 : decode cX12_pack 11 = .ok (.aload_n 0, 1) := bdX12_pack_0.2.2.2.2.2.2.2.2.2
theorem bdX12_pack_12 : (decode cX12_pack 12 = .ok (.getfield 305, 3)) ∧ (decode cX12_pack 15 = .ok (.iastore, 1)) ∧ (decode cX12_pack 16 = .ok (.aload_n 1, 1)) ∧ (decode cX12_pack 17 = .ok (.iload_n 2, 1)) ∧ (decode cX12_pack 18 = .ok (.iconst 2, 1)) ∧ (decode cX12_pack 19 = .ok (.iadd, 1)) ∧ (decode cX12_pack 20 = .ok (.aload_n 0, 1)) ∧ (decode cX12_pack 21 = .ok (.getfield 308, 3)) ∧ (decode cX12_pack 24 = .ok (.iastore, 1)) ∧ (decode cX12_pack 25 = .ok (.aload_n 1, 1)) := by decide +kernel
theorem dX12_pack_12 : decode cX12_pack 12 = .ok (.getfield 305, 3) := bdX12_pack_12.1
theorem dX12_pack_15 : decode cX12_pack 15 = .ok (.iastore, 1) := bdX12_pack_12.2.1
theorem dX12_pack_16 : decode cX12_pack 16 = .ok (.aload_n 1, 1) := bdX12_pack_12.2.2.1
theorem dX12_pack_17 : decode cX12_pack 17 = .ok (.iload_n 2, 1) := bdX12_pack_12.2.2.2.1
theorem dX12_pack_18 : decode cX12_pack 18 = .ok (.iconst 2, 1) := bdX12_pack_12.2.2.2.2.1
theorem dX12_pack_19 : decode cX12_pack 19 = .ok (.iadd, 1) := bdX12_pack_12.2.2.2.2.2.1
theorem dX12_pack_20 : decode cX12_pack 20 = .ok (.aload_n 0, 1) := bdX12_pack_12.2.2.2.2.2.2.1
theorem dX12_pack_21 : decode cX12_pack 21 = .ok (.getfield 308, 3) := bdX12_pack_12.2.2.2.2.2.2.2.1
theorem dX12_pack_24 : decode cX12_pack 24 = .ok (.iastore, 1) := bdX12_pack_12.2.2.2.2.2.2.2.2.1
theorem dX12_pack_25 : decode cX12_pack 25 = .ok (.aload_n 1, 1) := bdX12_pack_12.2.2.2.2.2.2.2.2.2
theorem bdX12_pack_26 : (decode cX12_pack 26 = .ok (.iload_n 2, 1)) ∧ (decode cX12_pack 27 = .ok (.iconst 3, 1)) ∧ (decode cX12_pack 28 = .ok (.iadd, 1)) ∧ (decode cX12_pack 29 = .ok (.aload_n 0, 1)) ∧ (decode cX12_pack 30 = .ok (.getfield 311, 3)) ∧ (decode cX12_pack 33 = .ok (.iastore, 1)) ∧ (decode cX12_pack 34 = .ok (.aload_n 1, 1)) ∧ (decode cX12_pack 35 = .ok (.iload_n 2, 1)) ∧ (decode cX12_pack 36 = .ok (.iconst 4, 1)) ∧ (decode cX12_pack 37 = .ok (.iadd, 1)) := by decide +kernel
theorem dX12_pack_26 : decode cX12_pack 26 = .ok (.iload_n 2, 1) := bdX12_pack_26.1
theorem dX12_pack_27 : decode cX12_pack 27 = .ok (.iconst 3, 1) := bdX12_pack_26.2.1
theorem dX12_pack_28 : decode cX12_pack 28 = .ok (.iadd, 1) := bdX12_pack_26.2.2.1
theorem dX12_pack_29 : decode cX12_pack 29 = .ok (.aload_n 0, 1) := bdX12_pack_26.2.2.2.1
theorem dX12_pack_30 : decode cX12_pack 30 = .ok (.getfield 311, 3) := bdX12_pack_26.2.2.2.2.1
theorem dX12_pack_33 : decode cX12_pack 33 = .ok (.iastore, 1) := bdX12_pack_26.2.2.2.2.2.1
theorem dX12_pack_34 : decode cX12_pack 34 = .ok (.aload_n 1, 1) := bdX12_pack_26.2.2.2.2.2.2.1
theorem dX12_pack_35 : decode cX12_pack 35 = .ok (.iload_n 2, 1) := bdX12_pack_26.2.2.2.2.2.2.2.1
theorem dX12_pack_36 : decode cX12_pack 36 = .ok (.iconst 4, 1) := bdX12_pack_26.2.2.2.2.2.2.2.2.1
theorem dX12_pack_37 : decode cX12_pack 37 = .ok (.iadd, 1) := bdX12_pack_26.2.2.2.2.2.2.2.2.2
theorem bdX12_pack_38 : (decode cX12_pack 38 = .ok (.aload_n 0, 1)) ∧ (decode cX12_pack 39 = .ok (.getfield 314, 3)) ∧ (decode cX12_pack 42 = .ok (.iastore, 1)) ∧ (decode cX12_pack 43 = .ok (.aload_n 1, 1)) ∧ (decode cX12_pack 44 = .ok (.iload_n 2, 1)) ∧ (decode cX12_pack 45 = .ok (.iconst 5, 1)) ∧ (decode cX12_pack 46 = .ok (.iadd, 1)) ∧ (decode cX12_pack 47 = .ok (.aload_n 0, 1)) ∧ (decode cX12_pack 48 = .ok (.getfield 134, 3)) ∧ (decode cX12_pack 51 = .ok (.iastore, 1)) := by decide +kernel
theorem dX12_pack_38 : decode cX12_pack 38 = .ok (.aload_n 0, 1) := bdX12_pack_38.1
theorem dX12_pack_39 : decode cX12_pack 39 = .ok (.getfield 314, 3) := bdX12_pack_38.2.1
theorem dX12_pack_42 : decode cX12_pack 42 = .ok (.iastore, 1) := bdX12_pack_38.2.2.1
theorem dX12_pack_43 : decode cX12_pack 43 = .ok (.aload_n 1, 1) := bdX12_pack_38.2.2.2.1
theorem dX12_pack_44 : decode cX12_pack 44 = .ok (.iload_n 2, 1) := bdX12_pack_38.2.2.2.2.1
theorem dX12_pack_45 : decode cX12_pack 45 = .ok (.iconst 5, 1) := bdX12_pack_38.2.2.2.2.2.1
theorem dX12_pack_46 : decode cX12_pack 46 = .ok (.iadd, 1) := bdX12_pack_38.2.2.2.2.2.2.1
theorem dX12_pack_47 : decode cX12_pack 47 = .ok (.aload_n 0, 1) := bdX12_pack_38.2.2.2.2.2.2.2.1
theorem dX12_pack_48 : decode cX12_pack 48 = .ok (.getfield 134, 3) := bdX12_pack_38.2.2.2.2.2.2.2.2.1
theorem dX12_pack_51 : decode cX12_pack 51 = .ok (.iastore, 1) := bdX12_pack_38.2.2.2.2.2.2.2.2.2
theorem bdX12_pack_52 : (decode cX12_pack 52 = .ok (.aload_n 1, 1)) ∧ (decode cX12_pack 53 = .ok (.iload_n 2, 1)) ∧ (decode cX12_pack 54 = .ok (.bipush 6, 2)) ∧ (decode cX12_pack 56 = .ok (.iadd, 1)) ∧ (decode cX12_pack 57 = .ok (.aload_n 0, 1)) ∧ (decode cX12_pack 58 = .ok (.getfield 137, 3)) ∧ (decode cX12_pack 61 = .ok (.iastore, 1)) ∧ (decode cX12_pack 62 = .ok (.iconst 0, 1)) ∧ (decode cX12_pack 63 = .ok (.istore_n 3, 1)) ∧ (decode cX12_pack 64 = .ok (.iload_n 3, 1)) := by decide +kernel
theorem dX12_pack_52 : decode cX12_pack 52 = .ok (.aload_n 1, 1) := bdX12_pack_52.1
theorem dX12_pack_53 : decode cX12_pack 53 = .ok (.iload_n 2, 1) := bdX12_pack_52.2.1
theorem dX12_pack_54 : decode cX12_pack 54 = .ok (.bipush 6, 2) := bdX12_pack_52.2.2.1
theorem dX12_pack_56 : decode cX12_pack 56 = .ok (.iadd, 1) := bdX12_pack_52.2.2.2.1
theorem dX12_pack_57 : decode cX12_pack 57 = .ok (.aload_n 0, 1) := bdX12_pack_52.2.2.2.2.1
theorem dX12_pack_58 : decode cX12_pack 58 = .ok (.getfield 137, 3) := bdX12_pack_52.2.2.2.2.2.1
theorem dX12_pack_61 : decode cX12_pack 61 = .ok (.iastore, 1) := bdX12_pack_52.2.2.2.2.2.2.1
theorem dX12_pack_62 : decode cX12_pack 62 = .ok (.iconst 0, 1) := bdX12_pack_52.2.2.2.2.2.2.2.1
theorem dX12_pack_63 : decode cX12_pack 63 = .ok (.istore_n 3, 1) := bdX12_pack_52.2.2.2.2.2.2.2.2.1
theorem dX12_pack_64 : decode cX12_pack 64 = .ok (.iload_n 3, 1) := bdX12_pack_52.2.2.2.2.2.2.2.2.2
theorem bdX12_pack_65 : (decode cX12_pack 65 = .ok (.bipush 8, 2)) ∧ (decode cX12_pack 67 = .ok (.if_icmp .ge 57, 3)) ∧ (decode cX12_pack 70 = .ok (.aload_n 1, 1)) ∧ (decode cX12_pack 71 = .ok (.iload_n 2, 1)) ∧ (decode cX12_pack 72 = .ok (.bipush 7, 2)) ∧ (decode cX12_pack 74 = .ok (.iadd, 1)) ∧ (decode cX12_pack 75 = .ok (.iload_n 3, 1)) ∧ (decode cX12_pack 76 = .ok (.iadd, 1)) ∧ (decode cX12_pack 77 = .ok (.aload_n 0, 1)) ∧ (decode cX12_pack 78 = .ok (.getfield 73, 3)) := by decide +kernel
theorem dX12_pack_65 : decode cX12_pack 65 = .ok (.bipush 8, 2) := bdX12_pack_65.1
theorem dX12_pack_67 : decode cX12_pack 67 = .ok (.if_icmp .ge 57, 3) := bdX12_pack_65.2.1
theorem dX12_pack_70 : decode cX12_pack 70 = .ok (.aload_n 1, 1) := bdX12_pack_65.2.2.1
theorem dX12_pack_71 : decode cX12_pack 71 = .ok (.iload_n 2, 1) := bdX12_pack_65.2.2.2.1
theorem dX12_pack_72 : decode cX12_pack 72 = .ok (.bipush 7, 2) := bdX12_pack_65.2.2.2.2.1
theorem dX12_pack_74 : decode cX12_pack 74 = .ok (.iadd, 1) := bdX12_pack_65.2.2.2.2.2.1
theorem dX12_pack_75 : decode cX12_pack 75 = .ok (.iload_n 3, 1) := bdX12_pack_65.2.2.2.2.2.2.1
theorem dX12_pack_76 : decode cX12_pack 76 = .ok (.iadd, 1) := bdX12_pack_65.2.2.2.2.2.2.2.1
theorem dX12_pack_77 : decode cX12_pack 77 = .ok (.aload_n 0, 1) := bdX12_pack_65.2.2.2.2.2.2.2.2.1
theorem dX12_pack_78 : decode cX12_pack 78 = .ok (.getfield 73, 3) := bdX12_pack_65.2.2.2.2.2.2.2.2.2
theorem bdX12_pack_81 : (decode cX12_pack 81 = .ok (.iload_n 3, 1)) ∧ (decode cX12_pack 82 = .ok (.iaload, 1)) ∧ (decode cX12_pack 83 = .ok (.iastore, 1)) ∧ (decode cX12_pack 84 = .ok (.aload_n 1, 1)) ∧ (decode cX12_pack 85 = .ok (.iload_n 2, 1)) ∧ (decode cX12_pack 86 = .ok (.bipush 7, 2)) ∧ (decode cX12_pack 88 = .ok (.iadd, 1)) ∧ (decode cX12_pack 89 = .ok (.bipush 8, 2)) ∧ (decode cX12_pack 91 = .ok (.iadd, 1)) ∧ (decode cX12_pack 92 = .ok (.iload_n 3, 1)) := by decide +kernel
theorem dX12_pack_81 : decode cX12_pack 81 = .ok (.iload_n 3, 1) := bdX12_pack_81.1
theorem dX12_pack_82 : decode cX12_pack 82 = .ok (.iaload, 1) := bdX12_pack_81.2.1
theorem dX12_pack_83 : decode cX12_pack 83 = .ok (.iastore, 1) := bdX12_pack_81.2.2.1
theorem dX12_pack_84 : decode cX12_pack 84 = .ok (.aload_n 1, 1) := bdX12_pack_81.2.2.2.1
theorem dX12_pack_85 : decode cX12_pack 85 = .ok (.iload_n 2, 1) := bdX12_pack_81.2.2.2.2.1
theorem dX12_pack_86 : decode cX12_pack 86 = .ok (.bipush 7, 2) := bdX12_pack_81.2.2.2.2.2.1
theorem dX12_pack_88 : decode cX12_pack 88 = .ok (.iadd, 1) := bdX12_pack_81.2.2.2.2.2.2.1
theorem dX12_pack_89 : decode cX12_pack 89 = .ok (.bipush 8, 2) := bdX12_pack_81.2.2.2.2.2.2.2.1
theorem dX12_pack_91 : decode cX12_pack 91 = .ok (.iadd, 1) := bdX12_pack_81.2.2.2.2.2.2.2.2.1
theorem dX12_pack_92 : decode cX12_pack 92 = .ok (.iload_n 3, 1) := bdX12_pack_81.2.2.2.2.2.2.2.2.2
theorem bdX12_pack_93 : (decode cX12_pack 93 = .ok (.iadd, 1)) ∧ (decode cX12_pack 94 = .ok (.aload_n 0, 1)) ∧ (decode cX12_pack 95 = .ok (.getfield 76, 3)) ∧ (decode cX12_pack 98 = .ok (.iload_n 3, 1)) ∧ (decode cX12_pack 99 = .ok (.iaload, 1)) ∧ (decode cX12_pack 100 = .ok (.iastore, 1)) ∧ (decode cX12_pack 101 = .ok (.aload_n 1, 1)) ∧ (decode cX12_pack 102 = .ok (.iload_n 2, 1)) ∧ (decode cX12_pack 103 = .ok (.bipush 7, 2)) ∧ (decode cX12_pack 105 = .ok (.iadd, 1)) := by decide +kernel
theorem dX12_pack_93 : decode cX12_pack 93 = .ok (.iadd, 1) := bdX12_pack_93.1
theorem dX12_pack_94 : decode cX12_pack 94 = .ok (.aload_n 0, 1) := bdX12_pack_93.2.1
theorem dX12_pack_95 : decode cX12_pack 95 = .ok (.getfield 76, 3) := bdX12_pack_93.2.2.1
theorem dX12_pack_98 : decode cX12_pack 98 = .ok (.iload_n 3, 1) := bdX12_pack_93.2.2.2.1
theorem dX12_pack_99 : decode cX12_pack 99 = .ok (.iaload, 1) := bdX12_pack_93.2.2.2.2.1
theorem dX12_pack_100 : decode cX12_pack 100 = .ok (.iastore, 1) := bdX12_pack_93.2.2.2.2.2.1
theorem dX12_pack_101 : decode cX12_pack 101 = .ok (.aload_n 1, 1) := bdX12_pack_93.2.2.2.2.2.2.1
theorem dX12_pack_102 : decode cX12_pack 102 = .ok (.iload_n 2, 1) := bdX12_pack_93.2.2.2.2.2.2.2.1
theorem dX12_pack_103 : decode cX12_pack 103 = .ok (.bipush 7, 2) := bdX12_pack_93.2.2.2.2.2.2.2.2.1
theorem dX12_pack_105 : decode cX12_pack 105 = .ok (.iadd, 1) := bdX12_pack_93.2.2.2.2.2.2.2.2.2
theorem bdX12_pack_106 : (decode cX12_pack 106 = .ok (.bipush 16, 2)) ∧ (decode cX12_pack 108 = .ok (.iadd, 1)) ∧ (decode cX12_pack 109 = .ok (.iload_n 3, 1)) ∧ (decode cX12_pack 110 = .ok (.iadd, 1)) ∧ (decode cX12_pack 111 = .ok (.aload_n 0, 1)) ∧ (decode cX12_pack 112 = .ok (.getfield 79, 3)) ∧ (decode cX12_pack 115 = .ok (.iload_n 3, 1)) ∧ (decode cX12_pack 116 = .ok (.iaload, 1)) ∧ (decode cX12_pack 117 = .ok (.iastore, 1)) ∧ (decode cX12_pack 118 = .ok (.iinc 3 1, 3)) := by decide +kernel
theorem dX12_pack_106 : decode cX12_pack 106 = .ok (.bipush 16, 2) := bdX12_pack_106.1
theorem dX12_pack_108 : decode cX12_pack 108 = .ok (.iadd, 1) := bdX12_pack_106.2.1
theorem dX12_pack_109 : decode cX12_pack 109 = .ok (.iload_n 3, 1) := bdX12_pack_106.2.2.1
theorem dX12_pack_110 : decode cX12_pack 110 = .ok (.iadd, 1) := bdX12_pack_106.2.2.2.1
theorem dX12_pack_111 : decode cX12_pack 111 = .ok (.aload_n 0, 1) := bdX12_pack_106.2.2.2.2.1
theorem dX12_pack_112 : decode cX12_pack 112 = .ok (.getfield 79, 3) := bdX12_pack_106.2.2.2.2.2.1
theorem dX12_pack_115 : decode cX12_pack 115 = .ok (.iload_n 3, 1) := bdX12_pack_106.2.2.2.2.2.2.1
theorem dX12_pack_116 : decode cX12_pack 116 = .ok (.iaload, 1) := bdX12_pack_106.2.2.2.2.2.2.2.1
theorem dX12_pack_117 : decode cX12_pack 117 = .ok (.iastore, 1) := bdX12_pack_106.2.2.2.2.2.2.2.2.1
theorem dX12_pack_118 : decode cX12_pack 118 = .ok (.iinc 3 1, 3) := bdX12_pack_106.2.2.2.2.2.2.2.2.2
theorem bdX12_pack_121 : (decode cX12_pack 121 = .ok (.goto (-57), 3)) ∧ (decode cX12_pack 124 = .ok (.return_, 1)) := by decide +kernel
theorem dX12_pack_121 : decode cX12_pack 121 = .ok (.goto (-57), 3) := bdX12_pack_121.1
theorem dX12_pack_124 : decode cX12_pack 124 = .ok (.return_, 1) := bdX12_pack_121.2
theorem bdX12_unpack_0 : (decode cX12_unpack 0 = .ok (.aload_n 0, 1)) ∧ (decode cX12_unpack 1 = .ok (.aload_n 1, 1)) ∧ (decode cX12_unpack 2 = .ok (.iload_n 2, 1)) ∧ (decode cX12_unpack 3 = .ok (.iaload, 1)) ∧ (decode cX12_unpack 4 = .ok (.putfield 303, 3)) ∧ (decode cX12_unpack 7 = .ok (.aload_n 0, 1)) ∧ (decode cX12_unpack 8 = .ok (.aload_n 1, 1)) ∧ (decode cX12_unpack 9 = .ok (.iload_n 2, 1)) ∧ (decode cX12_unpack 10 = .ok (.iconst 1, 1)) ∧ (decode cX12_unpack 11 = .ok (.iadd, 1)) := by decide +kernel
theorem dX12_unpack_0 : decode cX12_unpack 0 = .ok (.aload_n 0, 1) := bdX12_unpack_0.1
theorem dX12_unpack_1 : decode cX12_unpack 1 = .ok (.aload_n 1, 1) := bdX12_unpack_0.2.1
theorem dX12_unpack_2 : decode cX12_unpack 2 = .ok (.iload_n 2, 1) := bdX12_unpack_0.2.2.1
theorem dX12_unpack_3 : decode cX12_unpack 3 = .ok (.iaload, 1) := bdX12_unpack_0.2.2.2.1
theorem dX12_unpack_4 : decode cX12_unpack 4 = .ok (.putfield 303, 3) := bdX12_unpack_0.2.2.2.2.1
theorem dX12_unpack_7 : decode cX12_unpack 7 = .ok (.aload_n 0, 1) := bdX12_unpack_0.2.2.2.2.2.1
theorem dX12_unpack_8 : decode cX12_unpack 8 = .ok (.aload_n 1, 1) := bdX12_unpack_0.2.2.2.2.2.2.1
theorem dX12_unpack_9 : decode cX12_unpack 9 = .ok (.iload_n 2, 1) := bdX12_unpack_0.2.2.2.2.2.2.2.1
theorem dX12_unpack_10 : decode cX12_unpack 10 = .ok (.iconst 1, 1) := bdX12_unpack_0.2.2.2.2.2.2.2.2.1
theorem dX12_unpack_11 : decode cX12_unpack 11 = .ok (.iadd, 1) := bdX12_unpack_0.2.2.2.2.2.2.2.2.2
theorem bdX12_unpack_12 : (decode cX12_unpack 12 = .ok (.iaload, 1)) ∧ (decode cX12_unpack 13 = .ok (.putfield 305, 3)) ∧ (decode cX12_unpack 16 = .ok (.aload_n 0, 1)) ∧ (decode cX12_unpack 17 = .ok (.aload_n 1, 1)) ∧ (decode cX12_unpack 18 = .ok (.iload_n 2, 1)) ∧ (decode cX12_unpack 19 = .ok (.iconst 2, 1)) ∧ (decode cX12_unpack 20 = .ok (.iadd, 1)) ∧ (decode cX12_unpack 21 = .ok (.iaload, 1)) ∧ (decode cX12_unpack 22 = .ok (.putfield 308, 3)) ∧ (decode cX12_unpack 25 = .ok (.aload_n 0, 1)) := by decide +kernel
theorem dX12_unpack_12 : decode cX12_unpack 12 = .ok (.iaload, 1) := bdX12_unpack_12.1
theorem dX12_unpack_13 : decode cX12_unpack 13 = .ok (.putfield 305, 3) := bdX12_unpack_12.2.1
theorem dX12_unpack_16 : decode cX12_unpack 16 = .ok (.aload_n 0, 1) := bdX12_unpack_12.2.2.1
theorem dX12_unpack_17 : decode cX12_unpack 17 = .ok (.aload_n 1, 1) := bdX12_unpack_12.2.2.2.1
theorem dX12_unpack_18 : decode cX12_unpack 18 = .ok (.iload_n 2, 1) := bdX12_unpack_12.2.2.2.2.1
theorem dX12_unpack_19 : decode cX12_unpack 19 = .ok (.iconst 2, 1) := bdX12_unpack_12.2.2.2.2.2.1
theorem dX12_unpack_20 : decode cX12_unpack 20 = .ok (.iadd, 1) := bdX12_unpack_12.2.2.2.2.2.2.1
theorem dX12_unpack_21 : decode cX12_unpack 21 = .ok (.iaload, 1) := bdX12_unpack_12.2.2.2.2.2.2.2.1
theorem dX12_unpack_22 : decode cX12_unpack 22 = .ok (.putfield 308, 3) := bdX12_unpack_12.2.2.2.2.2.2.2.2.1
theorem dX12_unpack_25 : decode cX12_unpack 25 = .ok (.aload_n 0, 1) := bdX12_unpack_12.2.2.2.2.2.2.2.2.2
theorem bdX12_unpack_26 : (decode cX12_unpack 26 = .ok (.aload_n 1, 1)) ∧ (decode cX12_unpack 27 = .ok (.iload_n 2, 1)) ∧ (decode cX12_unpack 28 = .ok (.iconst 3, 1)) ∧ (decode cX12_unpack 29 = .ok (.iadd, 1)) ∧ (decode cX12_unpack 30 = .ok (.iaload, 1)) ∧ (decode cX12_unpack 31 = .ok (.putfield 311, 3)) ∧ (decode cX12_unpack 34 = .ok (.aload_n 0, 1)) ∧ (decode cX12_unpack 35 = .ok (.aload_n 1, 1)) ∧ (decode cX12_unpack 36 = .ok (.iload_n 2, 1)) ∧ (decode cX12_unpack 37 = .ok (.iconst 4, 1)) := by decide +kernel
theorem dX12_unpack_26 : decode cX12_unpack 26 = .ok (.aload_n 1, 1) := bdX12_unpack_26.1
theorem dX12_unpack_27 : decode cX12_unpack 27 = .ok (.iload_n 2, 1) := bdX12_unpack_26.2.1
theorem dX12_unpack_28 : decode cX12_unpack 28 = .ok (.iconst 3, 1) := bdX12_unpack_26.2.2.1
theorem dX12_unpack_29 : decode cX12_unpack 29 = .ok (.iadd, 1) := bdX12_unpack_26.2.2.2.1
theorem dX12_unpack_30 : decode cX12_unpack 30 = .ok (.iaload, 1) := bdX12_unpack_26.2.2.2.2.1
theorem dX12_unpack_31 : decode cX12_unpack 31 = .ok (.putfield 311, 3) := bdX12_unpack_26.2.2.2.2.2.1
theorem dX12_unpack_34 : decode cX12_unpack 34 = .ok (.aload_n 0, 1) := bdX12_unpack_26.2.2.2.2.2.2.1
theorem dX12_unpack_35 : decode cX12_unpack 35 = .ok (.aload_n 1, 1) := bdX12_unpack_26.2.2.2.2.2.2.2.1
theorem dX12_unpack_36 : decode cX12_unpack 36 = .ok (.iload_n 2, 1) := bdX12_unpack_26.2.2.2.2.2.2.2.2.1
theorem dX12_unpack_37 : decode cX12_unpack 37 = .ok (.iconst 4, 1) := bdX12_unpack_26.2.2.2.2.2.2.2.2.2
theorem bdX12_unpack_38 : (decode cX12_unpack 38 = .ok (.iadd, 1)) ∧ (decode cX12_unpack 39 = .ok (.iaload, 1)) ∧ (decode cX12_unpack 40 = .ok (.putfield 314, 3)) ∧ (decode cX12_unpack 43 = .ok (.aload_n 0, 1)) ∧ (decode cX12_unpack 44 = .ok (.aload_n 1, 1)) ∧ (decode cX12_unpack 45 = .ok (.iload_n 2, 1)) ∧ (decode cX12_unpack 46 = .ok (.iconst 5, 1)) ∧ (decode cX12_unpack 47 = .ok (.iadd, 1)) ∧ (decode cX12_unpack 48 = .ok (.iaload, 1)) ∧ (decode cX12_unpack 49 = .ok (.putfield 134, 3)) := by decide +kernel
theorem dX12_unpack_38 : decode cX12_unpack 38 = .ok (.iadd, 1) := bdX12_unpack_38.1
theorem dX12_unpack_39 : decode cX12_unpack 39 = .ok (.iaload, 1) := bdX12_unpack_38.2.1
theorem dX12_unpack_40 : decode cX12_unpack 40 = .ok (.putfield 314, 3) := bdX12_unpack_38.2.2.1
theorem dX12_unpack_43 : decode cX12_unpack 43 = .ok (.aload_n 0, 1) := bdX12_unpack_38.2.2.2.1
theorem dX12_unpack_44 : decode cX12_unpack 44 = .ok (.aload_n 1, 1) := bdX12_unpack_38.2.2.2.2.1
theorem dX12_unpack_45 : decode cX12_unpack 45 = .ok (.iload_n 2, 1) := bdX12_unpack_38.2.2.2.2.2.1
theorem dX12_unpack_46 : decode cX12_unpack 46 = .ok (.iconst 5, 1) := bdX12_unpack_38.2.2.2.2.2.2.1
theorem dX12_unpack_47 : decode cX12_unpack 47 = .ok (.iadd, 1) := bdX12_unpack_38.2.2.2.2.2.2.2.1
theorem dX12_unpack_48 : decode cX12_unpack 48 = .ok (.iaload, 1) := bdX12_unpack_38.2.2.2.2.2.2.2.2.1
theorem dX12_unpack_49 : decode cX12_unpack 49 = .ok (.putfield 134, 3) := bdX12_unpack_38.2.2.2.2.2.2.2.2.2
theorem bdX12_unpack_52 : (decode cX12_unpack 52 = .ok (.aload_n 0, 1)) ∧ (decode cX12_unpack 53 = .ok (.aload_n 1, 1)) ∧ (decode cX12_unpack 54 = .ok (.iload_n 2, 1)) ∧ (decode cX12_unpack 55 = .ok (.bipush 6, 2)) ∧ (decode cX12_unpack 57 = .ok (.iadd, 1)) ∧ (decode cX12_unpack 58 = .ok (.iaload, 1)) ∧ (decode cX12_unpack 59 = .ok (.putfield 137, 3)) ∧ (decode cX12_unpack 62 = .ok (.iconst 0, 1)) ∧ (decode cX12_unpack 63 = .ok (.istore_n 3, 1)) ∧ (decode cX12_unpack 64 = .ok (.iload_n 3, 1)) := by decide +kernel
theorem dX12_unpack_52 : decode cX12_unpack 52 = .ok (.aload_n 0, 1) := bdX12_unpack_52.1
theorem dX12_unpack_53 : decode cX12_unpack 53 = .ok (.aload_n 1, 1) := bdX12_unpack_52.2.1
theorem dX12_unpack_54 : decode cX12_unpack 54 = .ok (.iload_n 2, 1) := bdX12_unpack_52.2.2.1
theorem dX12_unpack_55 : decode cX12_unpack 55 = .ok (.bipush 6, 2) := bdX12_unpack_52.2.2.2.1
theorem dX12_unpack_57 : decode cX12_unpack 57 = .ok (.iadd, 1) := bdX12_unpack_52.2.2.2.2.1
theorem dX12_unpack_58 : decode cX12_unpack 58 = .ok (.iaload, 1) := bdX12_unpack_52.2.2.2.2.2.1
theorem dX12_unpack_59 : decode cX12_unpack 59 = .ok (.putfield 137, 3) := bdX12_unpack_52.2.2.2.2.2.2.1
theorem dX12_unpack_62 : decode cX12_unpack 62 = .ok (.iconst 0, 1) := bdX12_unpack_52.2.2.2.2.2.2.2.1
theorem dX12_unpack_63 : decode cX12_unpack 63 = .ok (.istore_n 3, 1) := bdX12_unpack_52.2.2.2.2.2.2.2.2.1
theorem dX12_unpack_64 : decode cX12_unpack 64 = .ok (.iload_n 3, 1) := bdX12_unpack_52.2.2.2.2.2.2.2.2.2
theorem bdX12_unpack_65 : (decode cX12_unpack 65 = .ok (.bipush 8, 2)) ∧ (decode cX12_unpack 67 = .ok (.if_icmp .ge 57, 3)) ∧ (decode cX12_unpack 70 = .ok (.aload_n 0, 1)) ∧ (decode cX12_unpack 71 = .ok (.getfield 73, 3)) ∧ (decode cX12_unpack 74 = .ok (.iload_n 3, 1)) ∧ (decode cX12_unpack 75 = .ok (.aload_n 1, 1)) ∧ (decode cX12_unpack 76 = .ok (.iload_n 2, 1)) ∧ (decode cX12_unpack 77 = .ok (.bipush 7, 2)) ∧ (decode cX12_unpack 79 = .ok (.iadd, 1)) ∧ (decode cX12_unpack 80 = .ok (.iload_n 3, 1)) := by decide +kernel
theorem dX12_unpack_65 : decode cX12_unpack 65 = .ok (.bipush 8, 2) := bdX12_unpack_65.1
theorem dX12_unpack_67 : decode cX12_unpack 67 = .ok (.if_icmp .ge 57, 3) := bdX12_unpack_65.2.1
theorem dX12_unpack_70 : decode cX12_unpack 70 = .ok (.aload_n 0, 1) := bdX12_unpack_65.2.2.1
theorem dX12_unpack_71 : decode cX12_unpack 71 = .ok (.getfield 73, 3) := bdX12_unpack_65.2.2.2.1
theorem dX12_unpack_74 : decode cX12_unpack 74 = .ok (.iload_n 3, 1) := bdX12_unpack_65.2.2.2.2.1
theorem dX12_unpack_75 : decode cX12_unpack 75 = .ok (.aload_n 1, 1) := bdX12_unpack_65.2.2.2.2.2.1
theorem dX12_unpack_76 : decode cX12_unpack 76 = .ok (.iload_n 2, 1) := bdX12_unpack_65.2.2.2.2.2.2.1
theorem dX12_unpack_77 : decode cX12_unpack 77 = .ok (.bipush 7, 2) := bdX12_unpack_65.2.2.2.2.2.2.2.1
theorem dX12_unpack_79 : decode cX12_unpack 79 = .ok (.iadd, 1) := bdX12_unpack_65.2.2.2.2.2.2.2.2.1
theorem dX12_unpack_80 : decode cX12_unpack 80 = .ok (.iload_n 3, 1) := bdX12_unpack_65.2.2.2.2.2.2.2.2.2
theorem bdX12_unpack_81 : (decode cX12_unpack 81 = .ok (.iadd, 1)) ∧ (decode cX12_unpack 82 = .ok (.iaload, 1)) ∧ (decode cX12_unpack 83 = .ok (.iastore, 1)) ∧ (decode cX12_unpack 84 = .ok (.aload_n 0, 1)) ∧ (decode cX12_unpack 85 = .ok (.getfield 76, 3)) ∧ (decode cX12_unpack 88 = .ok (.iload_n 3, 1)) ∧ (decode cX12_unpack 89 = .ok (.aload_n 1, 1)) ∧ (decode cX12_unpack 90 = .ok (.iload_n 2, 1)) ∧ (decode cX12_unpack 91 = .ok (.bipush 7, 2)) ∧ (decode cX12_unpack 93 = .ok (.iadd, 1)) := by decide +kernel
theorem dX12_unpack_81 : decode cX12_unpack 81 = .ok (.iadd, 1) := bdX12_unpack_81.1
theorem dX12_unpack_82 : decode cX12_unpack 82 = .ok (.iaload, 1) := bdX12_unpack_81.2.1
theorem dX12_unpack_83 : decode cX12_unpack 83 = .ok (.iastore, 1) := bdX12_unpack_81.2.2.1
theorem dX12_unpack_84 : decode cX12_unpack 84 = .ok (.aload_n 0, 1) := bdX12_unpack_81.2.2.2.1
theorem dX12_unpack_85 : decode cX12_unpack 85 = .ok (.getfield 76, 3) := bdX12_unpack_81.2.2.2.2.1
theorem dX12_unpack_88 : decode cX12_unpack 88 = .ok (.iload_n 3, 1) := bdX12_unpack_81.2.2.2.2.2.1
theorem dX12_unpack_89 : decode cX12_unpack 89 = .ok (.aload_n 1, 1) := bdX12_unpack_81.2.2.2.2.2.2.1
theorem dX12_unpack_90 : decode cX12_unpack 90 = .ok (.iload_n 2, 1) := bdX12_unpack_81.2.2.2.2.2.2.2.1
theorem dX12_unpack_91 : decode cX12_unpack 91 = .ok (.bipush 7, 2) := bdX12_unpack_81.2.2.2.2.2.2.2.2.1
theorem dX12_unpack_93 : decode cX12_unpack 93 = .ok (.iadd, 1) := bdX12_unpack_81.2.2.2.2.2.2.2.2.2
theorem bdX12_unpack_94 : (decode cX12_unpack 94 = .ok (.bipush 8, 2)) ∧ (decode cX12_unpack 96 = .ok (.iadd, 1)) ∧ (decode cX12_unpack 97 = .ok (.iload_n 3, 1)) ∧ (decode cX12_unpack 98 = .ok (.iadd, 1)) ∧ (decode cX12_unpack 99 = .ok (.iaload, 1)) ∧ (decode cX12_unpack 100 = .ok (.iastore, 1)) ∧ (decode cX12_unpack 101 = .ok (.aload_n 0, 1)) ∧ (decode cX12_unpack 102 = .ok (.getfield 79, 3)) ∧ (decode cX12_unpack 105 = .ok (.iload_n 3, 1)) ∧ (decode cX12_unpack 106 = .ok (.aload_n 1, 1)) := by decide +kernel
theorem dX12_unpack_94 : decode cX12_unpack 94 = .ok (.bipush 8, 2) := bdX12_unpack_94.1
theorem dX12_unpack_96 : decode cX12_unpack 96 = .ok (.iadd, 1) := bdX12_unpack_94.2.1
theorem dX12_unpack_97 : decode cX12_unpack 97 = .ok (.iload_n 3, 1) := bdX12_unpack_94.2.2.1
theorem dX12_unpack_98 : decode cX12_unpack 98 = .ok (.iadd, 1) := bdX12_unpack_94.2.2.2.1
theorem dX12_unpack_99 : decode cX12_unpack 99 = .ok (.iaload, 1) := bdX12_unpack_94.2.2.2.2.1
theorem dX12_unpack_100 : decode cX12_unpack 100 = .ok (.iastore, 1) := bdX12_unpack_94.2.2.2.2.2.1
theorem dX12_unpack_101 : decode cX12_unpack 101 = .ok (.aload_n 0, 1) := bdX12_unpack_94.2.2.2.2.2.2.1
theorem dX12_unpack_102 : decode cX12_unpack 102 = .ok (.getfield 79, 3) := bdX12_unpack_94.2.2.2.2.2.2.2.1
theorem dX12_unpack_105 : decode cX12_unpack 105 = .ok (.iload_n 3, 1) := bdX12_unpack_94.2.2.2.2.2.2.2.2.1
theorem dX12_unpack_106 : decode cX12_unpack 106 = .ok (.aload_n 1, 1) := bdX12_unpack_94.2.2.2.2.2.2.2.2.2
theorem bdX12_unpack_107 : (decode cX12_unpack 107 = .ok (.iload_n 2, 1)) ∧ (decode cX12_unpack 108 = .ok (.bipush 7, 2)) ∧ (decode cX12_unpack 110 = .ok (.iadd, 1)) ∧ (decode cX12_unpack 111 = .ok (.bipush 16, 2)) ∧ (decode cX12_unpack 113 = .ok (.iadd, 1)) ∧ (decode cX12_unpack 114 = .ok (.iload_n 3, 1)) ∧ (decode cX12_unpack 115 = .ok (.iadd, 1)) ∧ (decode cX12_unpack 116 = .ok (.iaload, 1)) ∧ (decode cX12_unpack 117 = .ok (.iastore, 1)) ∧ (decode cX12_unpack 118 = .ok (.iinc 3 1, 3)) := by decide +kernel
theorem dX12_unpack_107 : decode cX12_unpack 107 = .ok (.iload_n 2, 1) := bdX12_unpack_107.1
theorem dX12_unpack_108 : decode cX12_unpack 108 = .ok (.bipush 7, 2) := bdX12_unpack_107.2.1
theorem dX12_unpack_110 : decode cX12_unpack 110 = .ok (.iadd, 1) := bdX12_unpack_107.2.2.1
theorem dX12_unpack_111 : decode cX12_unpack 111 = .ok (.bipush 16, 2) := bdX12_unpack_107.2.2.2.1
theorem dX12_unpack_113 : decode cX12_unpack 113 = .ok (.iadd, 1) := bdX12_unpack_107.2.2.2.2.1
theorem dX12_unpack_114 : decode cX12_unpack 114 = .ok (.iload_n 3, 1) := bdX12_unpack_107.2.2.2.2.2.1
theorem dX12_unpack_115 : decode cX12_unpack 115 = .ok (.iadd, 1) := bdX12_unpack_107.2.2.2.2.2.2.1
theorem dX12_unpack_116 : decode cX12_unpack 116 = .ok (.iaload, 1) := bdX12_unpack_107.2.2.2.2.2.2.2.1
theorem dX12_unpack_117 : decode cX12_unpack 117 = .ok (.iastore, 1) := bdX12_unpack_107.2.2.2.2.2.2.2.2.1
theorem dX12_unpack_118 : decode cX12_unpack 118 = .ok (.iinc 3 1, 3) := bdX12_unpack_107.2.2.2.2.2.2.2.2.2
theorem bdX12_unpack_121 : (decode cX12_unpack 121 = .ok (.goto (-57), 3)) ∧ (decode cX12_unpack 124 = .ok (.return_, 1)) := by decide +kernel
theorem dX12_unpack_121 : decode cX12_unpack 121 = .ok (.goto (-57), 3) := bdX12_unpack_121.1
theorem dX12_unpack_124 : decode cX12_unpack 124 = .ok (.return_, 1) := bdX12_unpack_121.2
theorem bdX12_reckon_0 : (decode cX12_reckon 0 = .ok (.iload_n 0, 1)) ∧ (decode cX12_reckon 1 = .ok (.tableswitch 103 (-26) (-20) #[89, 78, 67, 55, 51, 47, 43], 43)) ∧ (decode cX12_reckon 44 = .ok (.iload_n 1, 1)) ∧ (decode cX12_reckon 45 = .ok (.iload_n 2, 1)) ∧ (decode cX12_reckon 46 = .ok (.iadd, 1)) ∧ (decode cX12_reckon 47 = .ok (.ireturn, 1)) ∧ (decode cX12_reckon 48 = .ok (.iload_n 1, 1)) ∧ (decode cX12_reckon 49 = .ok (.iload_n 2, 1)) ∧ (decode cX12_reckon 50 = .ok (.isub, 1)) ∧ (decode cX12_reckon 51 = .ok (.ireturn, 1)) := by decide +kernel
theorem dX12_reckon_0 : decode cX12_reckon 0 = .ok (.iload_n 0, 1) := bdX12_reckon_0.1
theorem dX12_reckon_1 : decode cX12_reckon 1 = .ok (.tableswitch 103 (-26) (-20) #[89, 78, 67, 55, 51, 47, 43], 43) := bdX12_reckon_0.2.1
theorem dX12_reckon_44 : decode cX12_reckon 44 = .ok (.iload_n 1, 1) := bdX12_reckon_0.2.2.1
theorem dX12_reckon_45 : decode cX12_reckon 45 = .ok (.iload_n 2, 1) := bdX12_reckon_0.2.2.2.1
theorem dX12_reckon_46 : decode cX12_reckon 46 = .ok (.iadd, 1) := bdX12_reckon_0.2.2.2.2.1
theorem dX12_reckon_47 : decode cX12_reckon 47 = .ok (.ireturn, 1) := bdX12_reckon_0.2.2.2.2.2.1
theorem dX12_reckon_48 : decode cX12_reckon 48 = .ok (.iload_n 1, 1) := bdX12_reckon_0.2.2.2.2.2.2.1
theorem dX12_reckon_49 : decode cX12_reckon 49 = .ok (.iload_n 2, 1) := bdX12_reckon_0.2.2.2.2.2.2.2.1
theorem dX12_reckon_50 : decode cX12_reckon 50 = .ok (.isub, 1) := bdX12_reckon_0.2.2.2.2.2.2.2.2.1
theorem dX12_reckon_51 : decode cX12_reckon 51 = .ok (.ireturn, 1) := bdX12_reckon_0.2.2.2.2.2.2.2.2.2
theorem bdX12_reckon_52 : (decode cX12_reckon 52 = .ok (.iload_n 1, 1)) ∧ (decode cX12_reckon 53 = .ok (.iload_n 2, 1)) ∧ (decode cX12_reckon 54 = .ok (.imul, 1)) ∧ (decode cX12_reckon 55 = .ok (.ireturn, 1)) ∧ (decode cX12_reckon 56 = .ok (.iload_n 2, 1)) ∧ (decode cX12_reckon 57 = .ok (.ifCond .ne 7, 3)) ∧ (decode cX12_reckon 60 = .ok (.iconst 0, 1)) ∧ (decode cX12_reckon 61 = .ok (.goto 6, 3)) ∧ (decode cX12_reckon 64 = .ok (.iload_n 1, 1)) ∧ (decode cX12_reckon 65 = .ok (.iload_n 2, 1)) := by decide +kernel
theorem dX12_reckon_52 : decode cX12_reckon 52 = .ok (.iload_n 1, 1) := bdX12_reckon_52.1
theorem dX12_reckon_53 : decode cX12_reckon 53 = .ok (.iload_n 2, 1) := bdX12_reckon_52.2.1
theorem dX12_reckon_54 : decode cX12_reckon 54 = .ok (.imul, 1) := bdX12_reckon_52.2.2.1
theorem dX12_reckon_55 : decode cX12_reckon 55 = .ok (.ireturn, 1) := bdX12_reckon_52.2.2.2.1
theorem dX12_reckon_56 : decode cX12_reckon 56 = .ok (.iload_n 2, 1) := bdX12_reckon_52.2.2.2.2.1
theorem dX12_reckon_57 : decode cX12_reckon 57 = .ok (.ifCond .ne 7, 3) := bdX12_reckon_52.2.2.2.2.2.1
theorem dX12_reckon_60 : decode cX12_reckon 60 = .ok (.iconst 0, 1) := bdX12_reckon_52.2.2.2.2.2.2.1
theorem dX12_reckon_61 : decode cX12_reckon 61 = .ok (.goto 6, 3) := bdX12_reckon_52.2.2.2.2.2.2.2.1
theorem dX12_reckon_64 : decode cX12_reckon 64 = .ok (.iload_n 1, 1) := bdX12_reckon_52.2.2.2.2.2.2.2.2.1
theorem dX12_reckon_65 : decode cX12_reckon 65 = .ok (.iload_n 2, 1) := bdX12_reckon_52.2.2.2.2.2.2.2.2.2
theorem bdX12_reckon_66 : (decode cX12_reckon 66 = .ok (.idiv, 1)) ∧ (decode cX12_reckon 67 = .ok (.ireturn, 1)) ∧ (decode cX12_reckon 68 = .ok (.iload_n 1, 1)) ∧ (decode cX12_reckon 69 = .ok (.iload_n 2, 1)) ∧ (decode cX12_reckon 70 = .ok (.if_icmp .ge 7, 3)) ∧ (decode cX12_reckon 73 = .ok (.iconst 1, 1)) ∧ (decode cX12_reckon 74 = .ok (.goto 4, 3)) ∧ (decode cX12_reckon 77 = .ok (.iconst 0, 1)) ∧ (decode cX12_reckon 78 = .ok (.ireturn, 1)) ∧ (decode cX12_reckon 79 = .ok (.iload_n 1, 1)) := by decide +kernel
theorem dX12_reckon_66 : decode cX12_reckon 66 = .ok (.idiv, 1) := bdX12_reckon_66.1
theorem dX12_reckon_67 : decode cX12_reckon 67 = .ok (.ireturn, 1) := bdX12_reckon_66.2.1
theorem dX12_reckon_68 : decode cX12_reckon 68 = .ok (.iload_n 1, 1) := bdX12_reckon_66.2.2.1
theorem dX12_reckon_69 : decode cX12_reckon 69 = .ok (.iload_n 2, 1) := bdX12_reckon_66.2.2.2.1
theorem dX12_reckon_70 : decode cX12_reckon 70 = .ok (.if_icmp .ge 7, 3) := bdX12_reckon_66.2.2.2.2.1
theorem dX12_reckon_73 : decode cX12_reckon 73 = .ok (.iconst 1, 1) := bdX12_reckon_66.2.2.2.2.2.1
theorem dX12_reckon_74 : decode cX12_reckon 74 = .ok (.goto 4, 3) := bdX12_reckon_66.2.2.2.2.2.2.1
theorem dX12_reckon_77 : decode cX12_reckon 77 = .ok (.iconst 0, 1) := bdX12_reckon_66.2.2.2.2.2.2.2.1
theorem dX12_reckon_78 : decode cX12_reckon 78 = .ok (.ireturn, 1) := bdX12_reckon_66.2.2.2.2.2.2.2.2.1
theorem dX12_reckon_79 : decode cX12_reckon 79 = .ok (.iload_n 1, 1) := bdX12_reckon_66.2.2.2.2.2.2.2.2.2
theorem bdX12_reckon_80 : (decode cX12_reckon 80 = .ok (.iload_n 2, 1)) ∧ (decode cX12_reckon 81 = .ok (.if_icmp .ne 7, 3)) ∧ (decode cX12_reckon 84 = .ok (.iconst 1, 1)) ∧ (decode cX12_reckon 85 = .ok (.goto 4, 3)) ∧ (decode cX12_reckon 88 = .ok (.iconst 0, 1)) ∧ (decode cX12_reckon 89 = .ok (.ireturn, 1)) ∧ (decode cX12_reckon 90 = .ok (.iload_n 1, 1)) ∧ (decode cX12_reckon 91 = .ok (.ifCond .eq 11, 3)) ∧ (decode cX12_reckon 94 = .ok (.iload_n 2, 1)) ∧ (decode cX12_reckon 95 = .ok (.ifCond .eq 7, 3)) := by decide +kernel
theorem dX12_reckon_80 : decode cX12_reckon 80 = .ok (.iload_n 2, 1) := bdX12_reckon_80.1
theorem dX12_reckon_81 : decode cX12_reckon 81 = .ok (.if_icmp .ne 7, 3) := bdX12_reckon_80.2.1
theorem dX12_reckon_84 : decode cX12_reckon 84 = .ok (.iconst 1, 1) := bdX12_reckon_80.2.2.1
theorem dX12_reckon_85 : decode cX12_reckon 85 = .ok (.goto 4, 3) := bdX12_reckon_80.2.2.2.1
theorem dX12_reckon_88 : decode cX12_reckon 88 = .ok (.iconst 0, 1) := bdX12_reckon_80.2.2.2.2.1
theorem dX12_reckon_89 : decode cX12_reckon 89 = .ok (.ireturn, 1) := bdX12_reckon_80.2.2.2.2.2.1
theorem dX12_reckon_90 : decode cX12_reckon 90 = .ok (.iload_n 1, 1) := bdX12_reckon_80.2.2.2.2.2.2.1
theorem dX12_reckon_91 : decode cX12_reckon 91 = .ok (.ifCond .eq 11, 3) := bdX12_reckon_80.2.2.2.2.2.2.2.1
theorem dX12_reckon_94 : decode cX12_reckon 94 = .ok (.iload_n 2, 1) := bdX12_reckon_80.2.2.2.2.2.2.2.2.1
theorem dX12_reckon_95 : decode cX12_reckon 95 = .ok (.ifCond .eq 7, 3) := bdX12_reckon_80.2.2.2.2.2.2.2.2.2
theorem bdX12_reckon_98 : (decode cX12_reckon 98 = .ok (.iconst 1, 1)) ∧ (decode cX12_reckon 99 = .ok (.goto 4, 3)) ∧ (decode cX12_reckon 102 = .ok (.iconst 0, 1)) ∧ (decode cX12_reckon 103 = .ok (.ireturn, 1)) ∧ (decode cX12_reckon 104 = .ok (.iload_n 1, 1)) ∧ (decode cX12_reckon 105 = .ok (.ifCond .ne 7, 3)) ∧ (decode cX12_reckon 108 = .ok (.iload_n 2, 1)) ∧ (decode cX12_reckon 109 = .ok (.ifCond .eq 7, 3)) ∧ (decode cX12_reckon 112 = .ok (.iconst 1, 1)) ∧ (decode cX12_reckon 113 = .ok (.goto 4, 3)) := by decide +kernel
theorem dX12_reckon_98 : decode cX12_reckon 98 = .ok (.iconst 1, 1) := bdX12_reckon_98.1
theorem dX12_reckon_99 : decode cX12_reckon 99 = .ok (.goto 4, 3) := bdX12_reckon_98.2.1
theorem dX12_reckon_102 : decode cX12_reckon 102 = .ok (.iconst 0, 1) := bdX12_reckon_98.2.2.1
theorem dX12_reckon_103 : decode cX12_reckon 103 = .ok (.ireturn, 1) := bdX12_reckon_98.2.2.2.1
theorem dX12_reckon_104 : decode cX12_reckon 104 = .ok (.iload_n 1, 1) := bdX12_reckon_98.2.2.2.2.1
theorem dX12_reckon_105 : decode cX12_reckon 105 = .ok (.ifCond .ne 7, 3) := bdX12_reckon_98.2.2.2.2.2.1
theorem dX12_reckon_108 : decode cX12_reckon 108 = .ok (.iload_n 2, 1) := bdX12_reckon_98.2.2.2.2.2.2.1
theorem dX12_reckon_109 : decode cX12_reckon 109 = .ok (.ifCond .eq 7, 3) := bdX12_reckon_98.2.2.2.2.2.2.2.1
theorem dX12_reckon_112 : decode cX12_reckon 112 = .ok (.iconst 1, 1) := bdX12_reckon_98.2.2.2.2.2.2.2.2.1
theorem dX12_reckon_113 : decode cX12_reckon 113 = .ok (.goto 4, 3) := bdX12_reckon_98.2.2.2.2.2.2.2.2.2
theorem bdX12_reckon_116 : (decode cX12_reckon 116 = .ok (.iconst 0, 1)) ∧ (decode cX12_reckon 117 = .ok (.ireturn, 1)) := by decide +kernel
theorem dX12_reckon_116 : decode cX12_reckon 116 = .ok (.iconst 0, 1) := bdX12_reckon_116.1
theorem dX12_reckon_117 : decode cX12_reckon 117 = .ok (.ireturn, 1) := bdX12_reckon_116.2
theorem bdX12_valueNow_0 : (decode cX12_valueNow 0 = .ok (.iconst 0, 1)) ∧ (decode cX12_valueNow 1 = .ok (.istore_n 3, 1)) ∧ (decode cX12_valueNow 2 = .ok (.iconst 0, 1)) ∧ (decode cX12_valueNow 3 = .ok (.istore 4, 2)) ∧ (decode cX12_valueNow 5 = .ok (.iload 4, 2)) ∧ (decode cX12_valueNow 7 = .ok (.iload_n 2, 1)) ∧ (decode cX12_valueNow 8 = .ok (.if_icmp .ge 117, 3)) ∧ (decode cX12_valueNow 11 = .ok (.aload_n 1, 1)) ∧ (decode cX12_valueNow 12 = .ok (.iload 4, 2)) ∧ (decode cX12_valueNow 14 = .ok (.iaload, 1)) := by decide +kernel
theorem dX12_valueNow_0 : decode cX12_valueNow 0 = .ok (.iconst 0, 1) := bdX12_valueNow_0.1
theorem dX12_valueNow_1 : decode cX12_valueNow 1 = .ok (.istore_n 3, 1) := bdX12_valueNow_0.2.1
theorem dX12_valueNow_2 : decode cX12_valueNow 2 = .ok (.iconst 0, 1) := bdX12_valueNow_0.2.2.1
theorem dX12_valueNow_3 : decode cX12_valueNow 3 = .ok (.istore 4, 2) := bdX12_valueNow_0.2.2.2.1
theorem dX12_valueNow_5 : decode cX12_valueNow 5 = .ok (.iload 4, 2) := bdX12_valueNow_0.2.2.2.2.1
theorem dX12_valueNow_7 : decode cX12_valueNow 7 = .ok (.iload_n 2, 1) := bdX12_valueNow_0.2.2.2.2.2.1
theorem dX12_valueNow_8 : decode cX12_valueNow 8 = .ok (.if_icmp .ge 117, 3) := bdX12_valueNow_0.2.2.2.2.2.2.1
theorem dX12_valueNow_11 : decode cX12_valueNow 11 = .ok (.aload_n 1, 1) := bdX12_valueNow_0.2.2.2.2.2.2.2.1
theorem dX12_valueNow_12 : decode cX12_valueNow 12 = .ok (.iload 4, 2) := bdX12_valueNow_0.2.2.2.2.2.2.2.2.1
theorem dX12_valueNow_14 : decode cX12_valueNow 14 = .ok (.iaload, 1) := bdX12_valueNow_0.2.2.2.2.2.2.2.2.2
theorem bdX12_valueNow_15 : (decode cX12_valueNow 15 = .ok (.istore 5, 2)) ∧ (decode cX12_valueNow 17 = .ok (.iload 5, 2)) ∧ (decode cX12_valueNow 19 = .ok (.bipush (-20), 2)) ∧ (decode cX12_valueNow 21 = .ok (.if_icmp .le 34, 3)) ∧ (decode cX12_valueNow 24 = .ok (.aload_n 0, 1)) ∧ (decode cX12_valueNow 25 = .ok (.getfield 88, 3)) ∧ (decode cX12_valueNow 28 = .ok (.iload_n 3, 1)) ∧ (decode cX12_valueNow 29 = .ok (.iload 5, 2)) ∧ (decode cX12_valueNow 31 = .ok (.ifCond .lt 8, 3)) ∧ (decode cX12_valueNow 34 = .ok (.iload 5, 2)) := by decide +kernel
theorem dX12_valueNow_15 : decode cX12_valueNow 15 = .ok (.istore 5, 2) := bdX12_valueNow_15.1
theorem dX12_valueNow_17 : decode cX12_valueNow 17 = .ok (.iload 5, 2) := bdX12_valueNow_15.2.1
theorem dX12_valueNow_19 : decode cX12_valueNow 19 = .ok (.bipush (-20), 2) := bdX12_valueNow_15.2.2.1
theorem dX12_valueNow_21 : decode cX12_valueNow 21 = .ok (.if_icmp .le 34, 3) := bdX12_valueNow_15.2.2.2.1
theorem dX12_valueNow_24 : decode cX12_valueNow 24 = .ok (.aload_n 0, 1) := bdX12_valueNow_15.2.2.2.2.1
theorem dX12_valueNow_25 : decode cX12_valueNow 25 = .ok (.getfield 88, 3) := bdX12_valueNow_15.2.2.2.2.2.1
theorem dX12_valueNow_28 : decode cX12_valueNow 28 = .ok (.iload_n 3, 1) := bdX12_valueNow_15.2.2.2.2.2.2.1
theorem dX12_valueNow_29 : decode cX12_valueNow 29 = .ok (.iload 5, 2) := bdX12_valueNow_15.2.2.2.2.2.2.2.1
theorem dX12_valueNow_31 : decode cX12_valueNow 31 = .ok (.ifCond .lt 8, 3) := bdX12_valueNow_15.2.2.2.2.2.2.2.2.1
theorem dX12_valueNow_34 : decode cX12_valueNow 34 = .ok (.iload 5, 2) := bdX12_valueNow_15.2.2.2.2.2.2.2.2.2
theorem bdX12_valueNow_36 : (decode cX12_valueNow 36 = .ok (.goto 12, 3)) ∧ (decode cX12_valueNow 39 = .ok (.aload_n 0, 1)) ∧ (decode cX12_valueNow 40 = .ok (.getfield 85, 3)) ∧ (decode cX12_valueNow 43 = .ok (.iconst (-1), 1)) ∧ (decode cX12_valueNow 44 = .ok (.iload 5, 2)) ∧ (decode cX12_valueNow 46 = .ok (.isub, 1)) ∧ (decode cX12_valueNow 47 = .ok (.iaload, 1)) ∧ (decode cX12_valueNow 48 = .ok (.iastore, 1)) ∧ (decode cX12_valueNow 49 = .ok (.iinc 3 1, 3)) ∧ (decode cX12_valueNow 52 = .ok (.goto 67, 3)) := by decide +kernel
theorem dX12_valueNow_36 : decode cX12_valueNow 36 = .ok (.goto 12, 3) := bdX12_valueNow_36.1
theorem dX12_valueNow_39 : decode cX12_valueNow 39 = .ok (.aload_n 0, 1) := bdX12_valueNow_36.2.1
theorem dX12_valueNow_40 : decode cX12_valueNow 40 = .ok (.getfield 85, 3) := bdX12_valueNow_36.2.2.1
theorem dX12_valueNow_43 : decode cX12_valueNow 43 = .ok (.iconst (-1), 1) := bdX12_valueNow_36.2.2.2.1
theorem dX12_valueNow_44 : decode cX12_valueNow 44 = .ok (.iload 5, 2) := bdX12_valueNow_36.2.2.2.2.1
theorem dX12_valueNow_46 : decode cX12_valueNow 46 = .ok (.isub, 1) := bdX12_valueNow_36.2.2.2.2.2.1
theorem dX12_valueNow_47 : decode cX12_valueNow 47 = .ok (.iaload, 1) := bdX12_valueNow_36.2.2.2.2.2.2.1
theorem dX12_valueNow_48 : decode cX12_valueNow 48 = .ok (.iastore, 1) := bdX12_valueNow_36.2.2.2.2.2.2.2.1
theorem dX12_valueNow_49 : decode cX12_valueNow 49 = .ok (.iinc 3 1, 3) := bdX12_valueNow_36.2.2.2.2.2.2.2.2.1
theorem dX12_valueNow_52 : decode cX12_valueNow 52 = .ok (.goto 67, 3) := bdX12_valueNow_36.2.2.2.2.2.2.2.2.2
theorem bdX12_valueNow_55 : (decode cX12_valueNow 55 = .ok (.iload 5, 2)) ∧ (decode cX12_valueNow 57 = .ok (.bipush (-28), 2)) ∧ (decode cX12_valueNow 59 = .ok (.if_icmp .ne 30, 3)) ∧ (decode cX12_valueNow 62 = .ok (.aload_n 0, 1)) ∧ (decode cX12_valueNow 63 = .ok (.getfield 88, 3)) ∧ (decode cX12_valueNow 66 = .ok (.iload_n 3, 1)) ∧ (decode cX12_valueNow 67 = .ok (.iconst 1, 1)) ∧ (decode cX12_valueNow 68 = .ok (.isub, 1)) ∧ (decode cX12_valueNow 69 = .ok (.aload_n 0, 1)) ∧ (decode cX12_valueNow 70 = .ok (.getfield 88, 3)) := by decide +kernel
theorem dX12_valueNow_55 : decode cX12_valueNow 55 = .ok (.iload 5, 2) := bdX12_valueNow_55.1
theorem dX12_valueNow_57 : decode cX12_valueNow 57 = .ok (.bipush (-28), 2) := bdX12_valueNow_55.2.1
theorem dX12_valueNow_59 : decode cX12_valueNow 59 = .ok (.if_icmp .ne 30, 3) := bdX12_valueNow_55.2.2.1
theorem dX12_valueNow_62 : decode cX12_valueNow 62 = .ok (.aload_n 0, 1) := bdX12_valueNow_55.2.2.2.1
theorem dX12_valueNow_63 : decode cX12_valueNow 63 = .ok (.getfield 88, 3) := bdX12_valueNow_55.2.2.2.2.1
theorem dX12_valueNow_66 : decode cX12_valueNow 66 = .ok (.iload_n 3, 1) := bdX12_valueNow_55.2.2.2.2.2.1
theorem dX12_valueNow_67 : decode cX12_valueNow 67 = .ok (.iconst 1, 1) := bdX12_valueNow_55.2.2.2.2.2.2.1
theorem dX12_valueNow_68 : decode cX12_valueNow 68 = .ok (.isub, 1) := bdX12_valueNow_55.2.2.2.2.2.2.2.1
theorem dX12_valueNow_69 : decode cX12_valueNow 69 = .ok (.aload_n 0, 1) := bdX12_valueNow_55.2.2.2.2.2.2.2.2.1
theorem dX12_valueNow_70 : decode cX12_valueNow 70 = .ok (.getfield 88, 3) := bdX12_valueNow_55.2.2.2.2.2.2.2.2.2
theorem bdX12_valueNow_73 : (decode cX12_valueNow 73 = .ok (.iload_n 3, 1)) ∧ (decode cX12_valueNow 74 = .ok (.iconst 1, 1)) ∧ (decode cX12_valueNow 75 = .ok (.isub, 1)) ∧ (decode cX12_valueNow 76 = .ok (.iaload, 1)) ∧ (decode cX12_valueNow 77 = .ok (.ifCond .eq 7, 3)) ∧ (decode cX12_valueNow 80 = .ok (.iconst 0, 1)) ∧ (decode cX12_valueNow 81 = .ok (.goto 4, 3)) ∧ (decode cX12_valueNow 84 = .ok (.iconst 1, 1)) ∧ (decode cX12_valueNow 85 = .ok (.iastore, 1)) ∧ (decode cX12_valueNow 86 = .ok (.goto 33, 3)) := by decide +kernel
theorem dX12_valueNow_73 : decode cX12_valueNow 73 = .ok (.iload_n 3, 1) := bdX12_valueNow_73.1
theorem dX12_valueNow_74 : decode cX12_valueNow 74 = .ok (.iconst 1, 1) := bdX12_valueNow_73.2.1
theorem dX12_valueNow_75 : decode cX12_valueNow 75 = .ok (.isub, 1) := bdX12_valueNow_73.2.2.1
theorem dX12_valueNow_76 : decode cX12_valueNow 76 = .ok (.iaload, 1) := bdX12_valueNow_73.2.2.2.1
theorem dX12_valueNow_77 : decode cX12_valueNow 77 = .ok (.ifCond .eq 7, 3) := bdX12_valueNow_73.2.2.2.2.1
theorem dX12_valueNow_80 : decode cX12_valueNow 80 = .ok (.iconst 0, 1) := bdX12_valueNow_73.2.2.2.2.2.1
theorem dX12_valueNow_81 : decode cX12_valueNow 81 = .ok (.goto 4, 3) := bdX12_valueNow_73.2.2.2.2.2.2.1
theorem dX12_valueNow_84 : decode cX12_valueNow 84 = .ok (.iconst 1, 1) := bdX12_valueNow_73.2.2.2.2.2.2.2.1
theorem dX12_valueNow_85 : decode cX12_valueNow 85 = .ok (.iastore, 1) := bdX12_valueNow_73.2.2.2.2.2.2.2.2.1
theorem dX12_valueNow_86 : decode cX12_valueNow 86 = .ok (.goto 33, 3) := bdX12_valueNow_73.2.2.2.2.2.2.2.2.2
theorem bdX12_valueNow_89 : (decode cX12_valueNow 89 = .ok (.iinc 3 (-1), 3)) ∧ (decode cX12_valueNow 92 = .ok (.aload_n 0, 1)) ∧ (decode cX12_valueNow 93 = .ok (.getfield 88, 3)) ∧ (decode cX12_valueNow 96 = .ok (.iload_n 3, 1)) ∧ (decode cX12_valueNow 97 = .ok (.iconst 1, 1)) ∧ (decode cX12_valueNow 98 = .ok (.isub, 1)) ∧ (decode cX12_valueNow 99 = .ok (.iload 5, 2)) ∧ (decode cX12_valueNow 101 = .ok (.aload_n 0, 1)) ∧ (decode cX12_valueNow 102 = .ok (.getfield 88, 3)) ∧ (decode cX12_valueNow 105 = .ok (.iload_n 3, 1)) := by decide +kernel
theorem dX12_valueNow_89 : decode cX12_valueNow 89 = .ok (.iinc 3 (-1), 3) := bdX12_valueNow_89.1
theorem dX12_valueNow_92 : decode cX12_valueNow 92 = .ok (.aload_n 0, 1) := bdX12_valueNow_89.2.1
theorem dX12_valueNow_93 : decode cX12_valueNow 93 = .ok (.getfield 88, 3) := bdX12_valueNow_89.2.2.1
theorem dX12_valueNow_96 : decode cX12_valueNow 96 = .ok (.iload_n 3, 1) := bdX12_valueNow_89.2.2.2.1
theorem dX12_valueNow_97 : decode cX12_valueNow 97 = .ok (.iconst 1, 1) := bdX12_valueNow_89.2.2.2.2.1
theorem dX12_valueNow_98 : decode cX12_valueNow 98 = .ok (.isub, 1) := bdX12_valueNow_89.2.2.2.2.2.1
theorem dX12_valueNow_99 : decode cX12_valueNow 99 = .ok (.iload 5, 2) := bdX12_valueNow_89.2.2.2.2.2.2.1
theorem dX12_valueNow_101 : decode cX12_valueNow 101 = .ok (.aload_n 0, 1) := bdX12_valueNow_89.2.2.2.2.2.2.2.1
theorem dX12_valueNow_102 : decode cX12_valueNow 102 = .ok (.getfield 88, 3) := bdX12_valueNow_89.2.2.2.2.2.2.2.2.1
theorem dX12_valueNow_105 : decode cX12_valueNow 105 = .ok (.iload_n 3, 1) := bdX12_valueNow_89.2.2.2.2.2.2.2.2.2
theorem bdX12_valueNow_106 : (decode cX12_valueNow 106 = .ok (.iconst 1, 1)) ∧ (decode cX12_valueNow 107 = .ok (.isub, 1)) ∧ (decode cX12_valueNow 108 = .ok (.iaload, 1)) ∧ (decode cX12_valueNow 109 = .ok (.aload_n 0, 1)) ∧ (decode cX12_valueNow 110 = .ok (.getfield 88, 3)) ∧ (decode cX12_valueNow 113 = .ok (.iload_n 3, 1)) ∧ (decode cX12_valueNow 114 = .ok (.iaload, 1)) ∧ (decode cX12_valueNow 115 = .ok (.invokestatic 329, 3)) ∧ (decode cX12_valueNow 118 = .ok (.iastore, 1)) ∧ (decode cX12_valueNow 119 = .ok (.iinc 4 1, 3)) := by decide +kernel
theorem dX12_valueNow_106 : decode cX12_valueNow 106 = .ok (.iconst 1, 1) := bdX12_valueNow_106.1
theorem dX12_valueNow_107 : decode cX12_valueNow 107 = .ok (.isub, 1) := bdX12_valueNow_106.2.1
theorem dX12_valueNow_108 : decode cX12_valueNow 108 = .ok (.iaload, 1) := bdX12_valueNow_106.2.2.1
theorem dX12_valueNow_109 : decode cX12_valueNow 109 = .ok (.aload_n 0, 1) := bdX12_valueNow_106.2.2.2.1
theorem dX12_valueNow_110 : decode cX12_valueNow 110 = .ok (.getfield 88, 3) := bdX12_valueNow_106.2.2.2.2.1
theorem dX12_valueNow_113 : decode cX12_valueNow 113 = .ok (.iload_n 3, 1) := bdX12_valueNow_106.2.2.2.2.2.1
theorem dX12_valueNow_114 : decode cX12_valueNow 114 = .ok (.iaload, 1) := bdX12_valueNow_106.2.2.2.2.2.2.1
theorem dX12_valueNow_115 : decode cX12_valueNow 115 = .ok (.invokestatic 329, 3) := bdX12_valueNow_106.2.2.2.2.2.2.2.1
theorem dX12_valueNow_118 : decode cX12_valueNow 118 = .ok (.iastore, 1) := bdX12_valueNow_106.2.2.2.2.2.2.2.2.1
theorem dX12_valueNow_119 : decode cX12_valueNow 119 = .ok (.iinc 4 1, 3) := bdX12_valueNow_106.2.2.2.2.2.2.2.2.2
theorem bdX12_valueNow_122 : (decode cX12_valueNow 122 = .ok (.goto (-117), 3)) ∧ (decode cX12_valueNow 125 = .ok (.aload_n 0, 1)) ∧ (decode cX12_valueNow 126 = .ok (.getfield 88, 3)) ∧ (decode cX12_valueNow 129 = .ok (.iconst 0, 1)) ∧ (decode cX12_valueNow 130 = .ok (.iaload, 1)) ∧ (decode cX12_valueNow 131 = .ok (.ireturn, 1)) := by decide +kernel
theorem dX12_valueNow_122 : decode cX12_valueNow 122 = .ok (.goto (-117), 3) := bdX12_valueNow_122.1
theorem dX12_valueNow_125 : decode cX12_valueNow 125 = .ok (.aload_n 0, 1) := bdX12_valueNow_122.2.1
theorem dX12_valueNow_126 : decode cX12_valueNow 126 = .ok (.getfield 88, 3) := bdX12_valueNow_122.2.2.1
theorem dX12_valueNow_129 : decode cX12_valueNow 129 = .ok (.iconst 0, 1) := bdX12_valueNow_122.2.2.2.1
theorem dX12_valueNow_130 : decode cX12_valueNow 130 = .ok (.iaload, 1) := bdX12_valueNow_122.2.2.2.2.1
theorem dX12_valueNow_131 : decode cX12_valueNow 131 = .ok (.ireturn, 1) := bdX12_valueNow_122.2.2.2.2.2
theorem bdX12_strengthOf_0 : (decode cX12_strengthOf 0 = .ok (.aload_n 0, 1)) ∧ (decode cX12_strengthOf 1 = .ok (.getfield 314, 3)) ∧ (decode cX12_strengthOf 4 = .ok (.iload_n 1, 1)) ∧ (decode cX12_strengthOf 5 = .ok (.invokestatic 333, 3)) ∧ (decode cX12_strengthOf 8 = .ok (.ifCond .eq 12, 3)) ∧ (decode cX12_strengthOf 11 = .ok (.aload_n 0, 1)) ∧ (decode cX12_strengthOf 12 = .ok (.getfield 42, 3)) ∧ (decode cX12_strengthOf 15 = .ok (.iload_n 1, 1)) ∧ (decode cX12_strengthOf 16 = .ok (.iaload, 1)) ∧ (decode cX12_strengthOf 17 = .ok (.goto 9, 3)) := by decide +kernel
theorem dX12_strengthOf_0 : decode cX12_strengthOf 0 = .ok (.aload_n 0, 1) := bdX12_strengthOf_0.1
theorem dX12_strengthOf_1 : decode cX12_strengthOf 1 = .ok (.getfield 314, 3) := bdX12_strengthOf_0.2.1
theorem dX12_strengthOf_4 : decode cX12_strengthOf 4 = .ok (.iload_n 1, 1) := bdX12_strengthOf_0.2.2.1
theorem dX12_strengthOf_5 : decode cX12_strengthOf 5 = .ok (.invokestatic 333, 3) := bdX12_strengthOf_0.2.2.2.1
theorem dX12_strengthOf_8 : decode cX12_strengthOf 8 = .ok (.ifCond .eq 12, 3) := bdX12_strengthOf_0.2.2.2.2.1
theorem dX12_strengthOf_11 : decode cX12_strengthOf 11 = .ok (.aload_n 0, 1) := bdX12_strengthOf_0.2.2.2.2.2.1
theorem dX12_strengthOf_12 : decode cX12_strengthOf 12 = .ok (.getfield 42, 3) := bdX12_strengthOf_0.2.2.2.2.2.2.1
theorem dX12_strengthOf_15 : decode cX12_strengthOf 15 = .ok (.iload_n 1, 1) := bdX12_strengthOf_0.2.2.2.2.2.2.2.1
theorem dX12_strengthOf_16 : decode cX12_strengthOf 16 = .ok (.iaload, 1) := bdX12_strengthOf_0.2.2.2.2.2.2.2.2.1
theorem dX12_strengthOf_17 : decode cX12_strengthOf 17 = .ok (.goto 9, 3) := bdX12_strengthOf_0.2.2.2.2.2.2.2.2.2
theorem bdX12_strengthOf_20 : (decode cX12_strengthOf 20 = .ok (.aload_n 0, 1)) ∧ (decode cX12_strengthOf 21 = .ok (.getfield 39, 3)) ∧ (decode cX12_strengthOf 24 = .ok (.iload_n 1, 1)) ∧ (decode cX12_strengthOf 25 = .ok (.iaload, 1)) ∧ (decode cX12_strengthOf 26 = .ok (.ireturn, 1)) := by decide +kernel
theorem dX12_strengthOf_20 : decode cX12_strengthOf 20 = .ok (.aload_n 0, 1) := bdX12_strengthOf_20.1
theorem dX12_strengthOf_21 : decode cX12_strengthOf 21 = .ok (.getfield 39, 3) := bdX12_strengthOf_20.2.1
theorem dX12_strengthOf_24 : decode cX12_strengthOf 24 = .ok (.iload_n 1, 1) := bdX12_strengthOf_20.2.2.1
theorem dX12_strengthOf_25 : decode cX12_strengthOf 25 = .ok (.iaload, 1) := bdX12_strengthOf_20.2.2.2.1
theorem dX12_strengthOf_26 : decode cX12_strengthOf 26 = .ok (.ireturn, 1) := bdX12_strengthOf_20.2.2.2.2
theorem bdX12_walkOf_0 : (decode cX12_walkOf 0 = .ok (.aload_n 0, 1)) ∧ (decode cX12_walkOf 1 = .ok (.getfield 46, 3)) ∧ (decode cX12_walkOf 4 = .ok (.iload_n 1, 1)) ∧ (decode cX12_walkOf 5 = .ok (.iaload, 1)) ∧ (decode cX12_walkOf 6 = .ok (.aload_n 0, 1)) ∧ (decode cX12_walkOf 7 = .ok (.getfield 134, 3)) ∧ (decode cX12_walkOf 10 = .ok (.isub, 1)) ∧ (decode cX12_walkOf 11 = .ok (.invokestatic 336, 3)) ∧ (decode cX12_walkOf 14 = .ok (.aload_n 0, 1)) ∧ (decode cX12_walkOf 15 = .ok (.getfield 49, 3)) := by decide +kernel
theorem dX12_walkOf_0 : decode cX12_walkOf 0 = .ok (.aload_n 0, 1) := bdX12_walkOf_0.1
theorem dX12_walkOf_1 : decode cX12_walkOf 1 = .ok (.getfield 46, 3) := bdX12_walkOf_0.2.1
theorem dX12_walkOf_4 : decode cX12_walkOf 4 = .ok (.iload_n 1, 1) := bdX12_walkOf_0.2.2.1
theorem dX12_walkOf_5 : decode cX12_walkOf 5 = .ok (.iaload, 1) := bdX12_walkOf_0.2.2.2.1
theorem dX12_walkOf_6 : decode cX12_walkOf 6 = .ok (.aload_n 0, 1) := bdX12_walkOf_0.2.2.2.2.1
theorem dX12_walkOf_7 : decode cX12_walkOf 7 = .ok (.getfield 134, 3) := bdX12_walkOf_0.2.2.2.2.2.1
theorem dX12_walkOf_10 : decode cX12_walkOf 10 = .ok (.isub, 1) := bdX12_walkOf_0.2.2.2.2.2.2.1
theorem dX12_walkOf_11 : decode cX12_walkOf 11 = .ok (.invokestatic 336, 3) := bdX12_walkOf_0.2.2.2.2.2.2.2.1
theorem dX12_walkOf_14 : decode cX12_walkOf 14 = .ok (.aload_n 0, 1) := bdX12_walkOf_0.2.2.2.2.2.2.2.2.1
theorem dX12_walkOf_15 : decode cX12_walkOf 15 = .ok (.getfield 49, 3) := bdX12_walkOf_0.2.2.2.2.2.2.2.2.2
theorem bdX12_walkOf_18 : (decode cX12_walkOf 18 = .ok (.iload_n 1, 1)) ∧ (decode cX12_walkOf 19 = .ok (.iaload, 1)) ∧ (decode cX12_walkOf 20 = .ok (.aload_n 0, 1)) ∧ (decode cX12_walkOf 21 = .ok (.getfield 137, 3)) ∧ (decode cX12_walkOf 24 = .ok (.isub, 1)) ∧ (decode cX12_walkOf 25 = .ok (.invokestatic 336, 3)) ∧ (decode cX12_walkOf 28 = .ok (.iadd, 1)) ∧ (decode cX12_walkOf 29 = .ok (.ireturn, 1)) := by decide +kernel
theorem dX12_walkOf_18 : decode cX12_walkOf 18 = .ok (.iload_n 1, 1) := bdX12_walkOf_18.1
theorem dX12_walkOf_19 : decode cX12_walkOf 19 = .ok (.iaload, 1) := bdX12_walkOf_18.2.1
theorem dX12_walkOf_20 : decode cX12_walkOf 20 = .ok (.aload_n 0, 1) := bdX12_walkOf_18.2.2.1
theorem dX12_walkOf_21 : decode cX12_walkOf 21 = .ok (.getfield 137, 3) := bdX12_walkOf_18.2.2.2.1
theorem dX12_walkOf_24 : decode cX12_walkOf 24 = .ok (.isub, 1) := bdX12_walkOf_18.2.2.2.2.1
theorem dX12_walkOf_25 : decode cX12_walkOf 25 = .ok (.invokestatic 336, 3) := bdX12_walkOf_18.2.2.2.2.2.1
theorem dX12_walkOf_28 : decode cX12_walkOf 28 = .ok (.iadd, 1) := bdX12_walkOf_18.2.2.2.2.2.2.1
theorem dX12_walkOf_29 : decode cX12_walkOf 29 = .ok (.ireturn, 1) := bdX12_walkOf_18.2.2.2.2.2.2.2
theorem bdX12_askOf_0 : (decode cX12_askOf 0 = .ok (.aload_n 0, 1)) ∧ (decode cX12_askOf 1 = .ok (.getfield 85, 3)) ∧ (decode cX12_askOf 4 = .ok (.iconst 0, 1)) ∧ (decode cX12_askOf 5 = .ok (.aload_n 0, 1)) ∧ (decode cX12_askOf 6 = .ok (.iload_n 1, 1)) ∧ (decode cX12_askOf 7 = .ok (.invokevirtual 339, 3)) ∧ (decode cX12_askOf 10 = .ok (.iastore, 1)) ∧ (decode cX12_askOf 11 = .ok (.aload_n 0, 1)) ∧ (decode cX12_askOf 12 = .ok (.getfield 85, 3)) ∧ (decode cX12_askOf 15 = .ok (.iconst 1, 1)) := by decide +kernel
theorem dX12_askOf_0 : decode cX12_askOf 0 = .ok (.aload_n 0, 1) := bdX12_askOf_0.1
theorem dX12_askOf_1 : decode cX12_askOf 1 = .ok (.getfield 85, 3) := bdX12_askOf_0.2.1
theorem dX12_askOf_4 : decode cX12_askOf 4 = .ok (.iconst 0, 1) := bdX12_askOf_0.2.2.1
theorem dX12_askOf_5 : decode cX12_askOf 5 = .ok (.aload_n 0, 1) := bdX12_askOf_0.2.2.2.1
theorem dX12_askOf_6 : decode cX12_askOf 6 = .ok (.iload_n 1, 1) := bdX12_askOf_0.2.2.2.2.1
theorem dX12_askOf_7 : decode cX12_askOf 7 = .ok (.invokevirtual 339, 3) := bdX12_askOf_0.2.2.2.2.2.1
theorem dX12_askOf_10 : decode cX12_askOf 10 = .ok (.iastore, 1) := bdX12_askOf_0.2.2.2.2.2.2.1
theorem dX12_askOf_11 : decode cX12_askOf 11 = .ok (.aload_n 0, 1) := bdX12_askOf_0.2.2.2.2.2.2.2.1
theorem dX12_askOf_12 : decode cX12_askOf 12 = .ok (.getfield 85, 3) := bdX12_askOf_0.2.2.2.2.2.2.2.2.1
theorem dX12_askOf_15 : decode cX12_askOf 15 = .ok (.iconst 1, 1) := bdX12_askOf_0.2.2.2.2.2.2.2.2.2
theorem bdX12_askOf_16 : (decode cX12_askOf 16 = .ok (.aload_n 0, 1)) ∧ (decode cX12_askOf 17 = .ok (.getfield 44, 3)) ∧ (decode cX12_askOf 20 = .ok (.iload_n 1, 1)) ∧ (decode cX12_askOf 21 = .ok (.iaload, 1)) ∧ (decode cX12_askOf 22 = .ok (.iastore, 1)) ∧ (decode cX12_askOf 23 = .ok (.aload_n 0, 1)) ∧ (decode cX12_askOf 24 = .ok (.getfield 85, 3)) ∧ (decode cX12_askOf 27 = .ok (.iconst 2, 1)) ∧ (decode cX12_askOf 28 = .ok (.aload_n 0, 1)) ∧ (decode cX12_askOf 29 = .ok (.getfield 52, 3)) := by decide +kernel
theorem dX12_askOf_16 : decode cX12_askOf 16 = .ok (.aload_n 0, 1) := bdX12_askOf_16.1
theorem dX12_askOf_17 : decode cX12_askOf 17 = .ok (.getfield 44, 3) := bdX12_askOf_16.2.1
theorem dX12_askOf_20 : decode cX12_askOf 20 = .ok (.iload_n 1, 1) := bdX12_askOf_16.2.2.1
theorem dX12_askOf_21 : decode cX12_askOf 21 = .ok (.iaload, 1) := bdX12_askOf_16.2.2.2.1
theorem dX12_askOf_22 : decode cX12_askOf 22 = .ok (.iastore, 1) := bdX12_askOf_16.2.2.2.2.1
theorem dX12_askOf_23 : decode cX12_askOf 23 = .ok (.aload_n 0, 1) := bdX12_askOf_16.2.2.2.2.2.1
theorem dX12_askOf_24 : decode cX12_askOf 24 = .ok (.getfield 85, 3) := bdX12_askOf_16.2.2.2.2.2.2.1
theorem dX12_askOf_27 : decode cX12_askOf 27 = .ok (.iconst 2, 1) := bdX12_askOf_16.2.2.2.2.2.2.2.1
theorem dX12_askOf_28 : decode cX12_askOf 28 = .ok (.aload_n 0, 1) := bdX12_askOf_16.2.2.2.2.2.2.2.2.1
theorem dX12_askOf_29 : decode cX12_askOf 29 = .ok (.getfield 52, 3) := bdX12_askOf_16.2.2.2.2.2.2.2.2.2
theorem bdX12_askOf_32 : (decode cX12_askOf 32 = .ok (.iload_n 2, 1)) ∧ (decode cX12_askOf 33 = .ok (.iaload, 1)) ∧ (decode cX12_askOf 34 = .ok (.iastore, 1)) ∧ (decode cX12_askOf 35 = .ok (.aload_n 0, 1)) ∧ (decode cX12_askOf 36 = .ok (.getfield 85, 3)) ∧ (decode cX12_askOf 39 = .ok (.iconst 3, 1)) ∧ (decode cX12_askOf 40 = .ok (.aload_n 0, 1)) ∧ (decode cX12_askOf 41 = .ok (.iload_n 2, 1)) ∧ (decode cX12_askOf 42 = .ok (.invokevirtual 342, 3)) ∧ (decode cX12_askOf 45 = .ok (.iastore, 1)) := by decide +kernel
theorem dX12_askOf_32 : decode cX12_askOf 32 = .ok (.iload_n 2, 1) := bdX12_askOf_32.1
theorem dX12_askOf_33 : decode cX12_askOf 33 = .ok (.iaload, 1) := bdX12_askOf_32.2.1
theorem dX12_askOf_34 : decode cX12_askOf 34 = .ok (.iastore, 1) := bdX12_askOf_32.2.2.1
theorem dX12_askOf_35 : decode cX12_askOf 35 = .ok (.aload_n 0, 1) := bdX12_askOf_32.2.2.2.1
theorem dX12_askOf_36 : decode cX12_askOf 36 = .ok (.getfield 85, 3) := bdX12_askOf_32.2.2.2.2.1
theorem dX12_askOf_39 : decode cX12_askOf 39 = .ok (.iconst 3, 1) := bdX12_askOf_32.2.2.2.2.2.1
theorem dX12_askOf_40 : decode cX12_askOf 40 = .ok (.aload_n 0, 1) := bdX12_askOf_32.2.2.2.2.2.2.1
theorem dX12_askOf_41 : decode cX12_askOf 41 = .ok (.iload_n 2, 1) := bdX12_askOf_32.2.2.2.2.2.2.2.1
theorem dX12_askOf_42 : decode cX12_askOf 42 = .ok (.invokevirtual 342, 3) := bdX12_askOf_32.2.2.2.2.2.2.2.2.1
theorem dX12_askOf_45 : decode cX12_askOf 45 = .ok (.iastore, 1) := bdX12_askOf_32.2.2.2.2.2.2.2.2.2
theorem bdX12_askOf_46 : (decode cX12_askOf 46 = .ok (.aload_n 0, 1)) ∧ (decode cX12_askOf 47 = .ok (.getfield 85, 3)) ∧ (decode cX12_askOf 50 = .ok (.iconst 4, 1)) ∧ (decode cX12_askOf 51 = .ok (.aload_n 0, 1)) ∧ (decode cX12_askOf 52 = .ok (.getfield 314, 3)) ∧ (decode cX12_askOf 55 = .ok (.iload_n 1, 1)) ∧ (decode cX12_askOf 56 = .ok (.invokestatic 333, 3)) ∧ (decode cX12_askOf 59 = .ok (.ifCond .eq 7, 3)) ∧ (decode cX12_askOf 62 = .ok (.iconst 1, 1)) ∧ (decode cX12_askOf 63 = .ok (.goto 4, 3)) := by decide +kernel
theorem dX12_askOf_46 : decode cX12_askOf 46 = .ok (.aload_n 0, 1) := bdX12_askOf_46.1
theorem dX12_askOf_47 : decode cX12_askOf 47 = .ok (.getfield 85, 3) := bdX12_askOf_46.2.1
theorem dX12_askOf_50 : decode cX12_askOf 50 = .ok (.iconst 4, 1) := bdX12_askOf_46.2.2.1
theorem dX12_askOf_51 : decode cX12_askOf 51 = .ok (.aload_n 0, 1) := bdX12_askOf_46.2.2.2.1
theorem dX12_askOf_52 : decode cX12_askOf 52 = .ok (.getfield 314, 3) := bdX12_askOf_46.2.2.2.2.1
theorem dX12_askOf_55 : decode cX12_askOf 55 = .ok (.iload_n 1, 1) := bdX12_askOf_46.2.2.2.2.2.1
theorem dX12_askOf_56 : decode cX12_askOf 56 = .ok (.invokestatic 333, 3) := bdX12_askOf_46.2.2.2.2.2.2.1
theorem dX12_askOf_59 : decode cX12_askOf 59 = .ok (.ifCond .eq 7, 3) := bdX12_askOf_46.2.2.2.2.2.2.2.1
theorem dX12_askOf_62 : decode cX12_askOf 62 = .ok (.iconst 1, 1) := bdX12_askOf_46.2.2.2.2.2.2.2.2.1
theorem dX12_askOf_63 : decode cX12_askOf 63 = .ok (.goto 4, 3) := bdX12_askOf_46.2.2.2.2.2.2.2.2.2
theorem bdX12_askOf_66 : (decode cX12_askOf 66 = .ok (.iconst 0, 1)) ∧ (decode cX12_askOf 67 = .ok (.iastore, 1)) ∧ (decode cX12_askOf 68 = .ok (.return_, 1)) := by decide +kernel
theorem dX12_askOf_66 : decode cX12_askOf 66 = .ok (.iconst 0, 1) := bdX12_askOf_66.1
theorem dX12_askOf_67 : decode cX12_askOf 67 = .ok (.iastore, 1) := bdX12_askOf_66.2.1
theorem dX12_askOf_68 : decode cX12_askOf 68 = .ok (.return_, 1) := bdX12_askOf_66.2.2
theorem bdX12_worthOf_0 : (decode cX12_worthOf 0 = .ok (.aload_n 0, 1)) ∧ (decode cX12_worthOf 1 = .ok (.getfield 35, 3)) ∧ (decode cX12_worthOf 4 = .ok (.bipush 6, 2)) ∧ (decode cX12_worthOf 6 = .ok (.iaload, 1)) ∧ (decode cX12_worthOf 7 = .ok (.ifCond .ne 18, 3)) ∧ (decode cX12_worthOf 10 = .ok (.iconst 2, 1)) ∧ (decode cX12_worthOf 11 = .ok (.aload_n 0, 1)) ∧ (decode cX12_worthOf 12 = .ok (.getfield 52, 3)) ∧ (decode cX12_worthOf 15 = .ok (.iload_n 2, 1)) ∧ (decode cX12_worthOf 16 = .ok (.iaload, 1)) := by decide +kernel
theorem dX12_worthOf_0 : decode cX12_worthOf 0 = .ok (.aload_n 0, 1) := bdX12_worthOf_0.1
theorem dX12_worthOf_1 : decode cX12_worthOf 1 = .ok (.getfield 35, 3) := bdX12_worthOf_0.2.1
theorem dX12_worthOf_4 : decode cX12_worthOf 4 = .ok (.bipush 6, 2) := bdX12_worthOf_0.2.2.1
theorem dX12_worthOf_6 : decode cX12_worthOf 6 = .ok (.iaload, 1) := bdX12_worthOf_0.2.2.2.1
theorem dX12_worthOf_7 : decode cX12_worthOf 7 = .ok (.ifCond .ne 18, 3) := bdX12_worthOf_0.2.2.2.2.1
theorem dX12_worthOf_10 : decode cX12_worthOf 10 = .ok (.iconst 2, 1) := bdX12_worthOf_0.2.2.2.2.2.1
theorem dX12_worthOf_11 : decode cX12_worthOf 11 = .ok (.aload_n 0, 1) := bdX12_worthOf_0.2.2.2.2.2.2.1
theorem dX12_worthOf_12 : decode cX12_worthOf 12 = .ok (.getfield 52, 3) := bdX12_worthOf_0.2.2.2.2.2.2.2.1
theorem dX12_worthOf_15 : decode cX12_worthOf 15 = .ok (.iload_n 2, 1) := bdX12_worthOf_0.2.2.2.2.2.2.2.2.1
theorem dX12_worthOf_16 : decode cX12_worthOf 16 = .ok (.iaload, 1) := bdX12_worthOf_0.2.2.2.2.2.2.2.2.2
theorem bdX12_worthOf_17 : (decode cX12_worthOf 17 = .ok (.imul, 1)) ∧ (decode cX12_worthOf 18 = .ok (.aload_n 0, 1)) ∧ (decode cX12_worthOf 19 = .ok (.iload_n 2, 1)) ∧ (decode cX12_worthOf 20 = .ok (.invokevirtual 342, 3)) ∧ (decode cX12_worthOf 23 = .ok (.isub, 1)) ∧ (decode cX12_worthOf 24 = .ok (.ireturn, 1)) ∧ (decode cX12_worthOf 25 = .ok (.aload_n 0, 1)) ∧ (decode cX12_worthOf 26 = .ok (.iload_n 1, 1)) ∧ (decode cX12_worthOf 27 = .ok (.iload_n 2, 1)) ∧ (decode cX12_worthOf 28 = .ok (.invokevirtual 345, 3)) := by decide +kernel
theorem dX12_worthOf_17 : decode cX12_worthOf 17 = .ok (.imul, 1) := bdX12_worthOf_17.1
theorem dX12_worthOf_18 : decode cX12_worthOf 18 = .ok (.aload_n 0, 1) := bdX12_worthOf_17.2.1
theorem dX12_worthOf_19 : decode cX12_worthOf 19 = .ok (.iload_n 2, 1) := bdX12_worthOf_17.2.2.1
theorem dX12_worthOf_20 : decode cX12_worthOf 20 = .ok (.invokevirtual 342, 3) := bdX12_worthOf_17.2.2.2.1
theorem dX12_worthOf_23 : decode cX12_worthOf 23 = .ok (.isub, 1) := bdX12_worthOf_17.2.2.2.2.1
theorem dX12_worthOf_24 : decode cX12_worthOf 24 = .ok (.ireturn, 1) := bdX12_worthOf_17.2.2.2.2.2.1
theorem dX12_worthOf_25 : decode cX12_worthOf 25 = .ok (.aload_n 0, 1) := bdX12_worthOf_17.2.2.2.2.2.2.1
theorem dX12_worthOf_26 : decode cX12_worthOf 26 = .ok (.iload_n 1, 1) := bdX12_worthOf_17.2.2.2.2.2.2.2.1
theorem dX12_worthOf_27 : decode cX12_worthOf 27 = .ok (.iload_n 2, 1) := bdX12_worthOf_17.2.2.2.2.2.2.2.2.1
theorem dX12_worthOf_28 : decode cX12_worthOf 28 = .ok (.invokevirtual 345, 3) := bdX12_worthOf_17.2.2.2.2.2.2.2.2.2
theorem bdX12_worthOf_31 : (decode cX12_worthOf 31 = .ok (.aload_n 0, 1)) ∧ (decode cX12_worthOf 32 = .ok (.aload_n 0, 1)) ∧ (decode cX12_worthOf 33 = .ok (.getfield 57, 3)) ∧ (decode cX12_worthOf 36 = .ok (.aload_n 0, 1)) ∧ (decode cX12_worthOf 37 = .ok (.getfield 35, 3)) ∧ (decode cX12_worthOf 40 = .ok (.bipush 6, 2)) ∧ (decode cX12_worthOf 42 = .ok (.iaload, 1)) ∧ (decode cX12_worthOf 43 = .ok (.invokevirtual 349, 3)) ∧ (decode cX12_worthOf 46 = .ok (.ireturn, 1)) := by decide +kernel
theorem dX12_worthOf_31 : decode cX12_worthOf 31 = .ok (.aload_n 0, 1) := bdX12_worthOf_31.1
theorem dX12_worthOf_32 : decode cX12_worthOf 32 = .ok (.aload_n 0, 1) := bdX12_worthOf_31.2.1
theorem dX12_worthOf_33 : decode cX12_worthOf 33 = .ok (.getfield 57, 3) := bdX12_worthOf_31.2.2.1
theorem dX12_worthOf_36 : decode cX12_worthOf 36 = .ok (.aload_n 0, 1) := bdX12_worthOf_31.2.2.2.1
theorem dX12_worthOf_37 : decode cX12_worthOf 37 = .ok (.getfield 35, 3) := bdX12_worthOf_31.2.2.2.2.1
theorem dX12_worthOf_40 : decode cX12_worthOf 40 = .ok (.bipush 6, 2) := bdX12_worthOf_31.2.2.2.2.2.1
theorem dX12_worthOf_42 : decode cX12_worthOf 42 = .ok (.iaload, 1) := bdX12_worthOf_31.2.2.2.2.2.2.1
theorem dX12_worthOf_43 : decode cX12_worthOf 43 = .ok (.invokevirtual 349, 3) := bdX12_worthOf_31.2.2.2.2.2.2.2.1
theorem dX12_worthOf_46 : decode cX12_worthOf 46 = .ok (.ireturn, 1) := bdX12_worthOf_31.2.2.2.2.2.2.2.2
theorem bdX12_rainOf_0 : (decode cX12_rainOf 0 = .ok (.aload_n 0, 1)) ∧ (decode cX12_rainOf 1 = .ok (.getfield 35, 3)) ∧ (decode cX12_rainOf 4 = .ok (.iconst 2, 1)) ∧ (decode cX12_rainOf 5 = .ok (.iaload, 1)) ∧ (decode cX12_rainOf 6 = .ok (.ifCond .ne 7, 3)) ∧ (decode cX12_rainOf 9 = .ok (.iconst 3, 1)) ∧ (decode cX12_rainOf 10 = .ok (.goto 16, 3)) ∧ (decode cX12_rainOf 13 = .ok (.aload_n 0, 1)) ∧ (decode cX12_rainOf 14 = .ok (.getfield 55, 3)) ∧ (decode cX12_rainOf 17 = .ok (.iload_n 1, 1)) := by decide +kernel
theorem dX12_rainOf_0 : decode cX12_rainOf 0 = .ok (.aload_n 0, 1) := bdX12_rainOf_0.1
theorem dX12_rainOf_1 : decode cX12_rainOf 1 = .ok (.getfield 35, 3) := bdX12_rainOf_0.2.1
theorem dX12_rainOf_4 : decode cX12_rainOf 4 = .ok (.iconst 2, 1) := bdX12_rainOf_0.2.2.1
theorem dX12_rainOf_5 : decode cX12_rainOf 5 = .ok (.iaload, 1) := bdX12_rainOf_0.2.2.2.1
theorem dX12_rainOf_6 : decode cX12_rainOf 6 = .ok (.ifCond .ne 7, 3) := bdX12_rainOf_0.2.2.2.2.1
theorem dX12_rainOf_9 : decode cX12_rainOf 9 = .ok (.iconst 3, 1) := bdX12_rainOf_0.2.2.2.2.2.1
theorem dX12_rainOf_10 : decode cX12_rainOf 10 = .ok (.goto 16, 3) := bdX12_rainOf_0.2.2.2.2.2.2.1
theorem dX12_rainOf_13 : decode cX12_rainOf 13 = .ok (.aload_n 0, 1) := bdX12_rainOf_0.2.2.2.2.2.2.2.1
theorem dX12_rainOf_14 : decode cX12_rainOf 14 = .ok (.getfield 55, 3) := bdX12_rainOf_0.2.2.2.2.2.2.2.2.1
theorem dX12_rainOf_17 : decode cX12_rainOf 17 = .ok (.iload_n 1, 1) := bdX12_rainOf_0.2.2.2.2.2.2.2.2.2
theorem bdX12_rainOf_18 : (decode cX12_rainOf 18 = .ok (.aload_n 0, 1)) ∧ (decode cX12_rainOf 19 = .ok (.getfield 35, 3)) ∧ (decode cX12_rainOf 22 = .ok (.iconst 2, 1)) ∧ (decode cX12_rainOf 23 = .ok (.iaload, 1)) ∧ (decode cX12_rainOf 24 = .ok (.irem, 1)) ∧ (decode cX12_rainOf 25 = .ok (.iaload, 1)) ∧ (decode cX12_rainOf 26 = .ok (.ireturn, 1)) := by decide +kernel
theorem dX12_rainOf_18 : decode cX12_rainOf 18 = .ok (.aload_n 0, 1) := bdX12_rainOf_18.1
theorem dX12_rainOf_19 : decode cX12_rainOf 19 = .ok (.getfield 35, 3) := bdX12_rainOf_18.2.1
theorem dX12_rainOf_22 : decode cX12_rainOf 22 = .ok (.iconst 2, 1) := bdX12_rainOf_18.2.2.1
theorem dX12_rainOf_23 : decode cX12_rainOf 23 = .ok (.iaload, 1) := bdX12_rainOf_18.2.2.2.1
theorem dX12_rainOf_24 : decode cX12_rainOf 24 = .ok (.irem, 1) := bdX12_rainOf_18.2.2.2.2.1
theorem dX12_rainOf_25 : decode cX12_rainOf 25 = .ok (.iaload, 1) := bdX12_rainOf_18.2.2.2.2.2.1
theorem dX12_rainOf_26 : decode cX12_rainOf 26 = .ok (.ireturn, 1) := bdX12_rainOf_18.2.2.2.2.2.2
theorem bdX12_harvestOf_0 : (decode cX12_harvestOf 0 = .ok (.aload_n 0, 1)) ∧ (decode cX12_harvestOf 1 = .ok (.getfield 52, 3)) ∧ (decode cX12_harvestOf 4 = .ok (.iload_n 2, 1)) ∧ (decode cX12_harvestOf 5 = .ok (.iaload, 1)) ∧ (decode cX12_harvestOf 6 = .ok (.aload_n 0, 1)) ∧ (decode cX12_harvestOf 7 = .ok (.iload_n 3, 1)) ∧ (decode cX12_harvestOf 8 = .ok (.invokevirtual 353, 3)) ∧ (decode cX12_harvestOf 11 = .ok (.iadd, 1)) ∧ (decode cX12_harvestOf 12 = .ok (.istore 4, 2)) ∧ (decode cX12_harvestOf 14 = .ok (.aload_n 0, 1)) := by decide +kernel
theorem dX12_harvestOf_0 : decode cX12_harvestOf 0 = .ok (.aload_n 0, 1) := bdX12_harvestOf_0.1
theorem dX12_harvestOf_1 : decode cX12_harvestOf 1 = .ok (.getfield 52, 3) := bdX12_harvestOf_0.2.1
theorem dX12_harvestOf_4 : decode cX12_harvestOf 4 = .ok (.iload_n 2, 1) := bdX12_harvestOf_0.2.2.1
theorem dX12_harvestOf_5 : decode cX12_harvestOf 5 = .ok (.iaload, 1) := bdX12_harvestOf_0.2.2.2.1
theorem dX12_harvestOf_6 : decode cX12_harvestOf 6 = .ok (.aload_n 0, 1) := bdX12_harvestOf_0.2.2.2.2.1
theorem dX12_harvestOf_7 : decode cX12_harvestOf 7 = .ok (.iload_n 3, 1) := bdX12_harvestOf_0.2.2.2.2.2.1
theorem dX12_harvestOf_8 : decode cX12_harvestOf 8 = .ok (.invokevirtual 353, 3) := bdX12_harvestOf_0.2.2.2.2.2.2.1
theorem dX12_harvestOf_11 : decode cX12_harvestOf 11 = .ok (.iadd, 1) := bdX12_harvestOf_0.2.2.2.2.2.2.2.1
theorem dX12_harvestOf_12 : decode cX12_harvestOf 12 = .ok (.istore 4, 2) := bdX12_harvestOf_0.2.2.2.2.2.2.2.2.1
theorem dX12_harvestOf_14 : decode cX12_harvestOf 14 = .ok (.aload_n 0, 1) := bdX12_harvestOf_0.2.2.2.2.2.2.2.2.2
theorem bdX12_harvestOf_15 : (decode cX12_harvestOf 15 = .ok (.getfield 35, 3)) ∧ (decode cX12_harvestOf 18 = .ok (.bipush 7, 2)) ∧ (decode cX12_harvestOf 20 = .ok (.iaload, 1)) ∧ (decode cX12_harvestOf 21 = .ok (.ifCond .le 45, 3)) ∧ (decode cX12_harvestOf 24 = .ok (.aload_n 0, 1)) ∧ (decode cX12_harvestOf 25 = .ok (.iload_n 1, 1)) ∧ (decode cX12_harvestOf 26 = .ok (.iload_n 2, 1)) ∧ (decode cX12_harvestOf 27 = .ok (.invokevirtual 345, 3)) ∧ (decode cX12_harvestOf 30 = .ok (.aload_n 0, 1)) ∧ (decode cX12_harvestOf 31 = .ok (.getfield 85, 3)) := by decide +kernel
theorem dX12_harvestOf_15 : decode cX12_harvestOf 15 = .ok (.getfield 35, 3) := bdX12_harvestOf_15.1
theorem dX12_harvestOf_18 : decode cX12_harvestOf 18 = .ok (.bipush 7, 2) := bdX12_harvestOf_15.2.1
theorem dX12_harvestOf_20 : decode cX12_harvestOf 20 = .ok (.iaload, 1) := bdX12_harvestOf_15.2.2.1
theorem dX12_harvestOf_21 : decode cX12_harvestOf 21 = .ok (.ifCond .le 45, 3) := bdX12_harvestOf_15.2.2.2.1
theorem dX12_harvestOf_24 : decode cX12_harvestOf 24 = .ok (.aload_n 0, 1) := bdX12_harvestOf_15.2.2.2.2.1
theorem dX12_harvestOf_25 : decode cX12_harvestOf 25 = .ok (.iload_n 1, 1) := bdX12_harvestOf_15.2.2.2.2.2.1
theorem dX12_harvestOf_26 : decode cX12_harvestOf 26 = .ok (.iload_n 2, 1) := bdX12_harvestOf_15.2.2.2.2.2.2.1
theorem dX12_harvestOf_27 : decode cX12_harvestOf 27 = .ok (.invokevirtual 345, 3) := bdX12_harvestOf_15.2.2.2.2.2.2.2.1
theorem dX12_harvestOf_30 : decode cX12_harvestOf 30 = .ok (.aload_n 0, 1) := bdX12_harvestOf_15.2.2.2.2.2.2.2.2.1
theorem dX12_harvestOf_31 : decode cX12_harvestOf 31 = .ok (.getfield 85, 3) := bdX12_harvestOf_15.2.2.2.2.2.2.2.2.2
theorem bdX12_harvestOf_34 : (decode cX12_harvestOf 34 = .ok (.iconst 5, 1)) ∧ (decode cX12_harvestOf 35 = .ok (.aload_n 0, 1)) ∧ (decode cX12_harvestOf 36 = .ok (.iload_n 3, 1)) ∧ (decode cX12_harvestOf 37 = .ok (.invokevirtual 353, 3)) ∧ (decode cX12_harvestOf 40 = .ok (.iastore, 1)) ∧ (decode cX12_harvestOf 41 = .ok (.aload_n 0, 1)) ∧ (decode cX12_harvestOf 42 = .ok (.getfield 85, 3)) ∧ (decode cX12_harvestOf 45 = .ok (.bipush 6, 2)) ∧ (decode cX12_harvestOf 47 = .ok (.iload_n 3, 1)) ∧ (decode cX12_harvestOf 48 = .ok (.iastore, 1)) := by decide +kernel
theorem dX12_harvestOf_34 : decode cX12_harvestOf 34 = .ok (.iconst 5, 1) := bdX12_harvestOf_34.1
theorem dX12_harvestOf_35 : decode cX12_harvestOf 35 = .ok (.aload_n 0, 1) := bdX12_harvestOf_34.2.1
theorem dX12_harvestOf_36 : decode cX12_harvestOf 36 = .ok (.iload_n 3, 1) := bdX12_harvestOf_34.2.2.1
theorem dX12_harvestOf_37 : decode cX12_harvestOf 37 = .ok (.invokevirtual 353, 3) := bdX12_harvestOf_34.2.2.2.1
theorem dX12_harvestOf_40 : decode cX12_harvestOf 40 = .ok (.iastore, 1) := bdX12_harvestOf_34.2.2.2.2.1
theorem dX12_harvestOf_41 : decode cX12_harvestOf 41 = .ok (.aload_n 0, 1) := bdX12_harvestOf_34.2.2.2.2.2.1
theorem dX12_harvestOf_42 : decode cX12_harvestOf 42 = .ok (.getfield 85, 3) := bdX12_harvestOf_34.2.2.2.2.2.2.1
theorem dX12_harvestOf_45 : decode cX12_harvestOf 45 = .ok (.bipush 6, 2) := bdX12_harvestOf_34.2.2.2.2.2.2.2.1
theorem dX12_harvestOf_47 : decode cX12_harvestOf 47 = .ok (.iload_n 3, 1) := bdX12_harvestOf_34.2.2.2.2.2.2.2.2.1
theorem dX12_harvestOf_48 : decode cX12_harvestOf 48 = .ok (.iastore, 1) := bdX12_harvestOf_34.2.2.2.2.2.2.2.2.2
theorem bdX12_harvestOf_49 : (decode cX12_harvestOf 49 = .ok (.aload_n 0, 1)) ∧ (decode cX12_harvestOf 50 = .ok (.aload_n 0, 1)) ∧ (decode cX12_harvestOf 51 = .ok (.getfield 60, 3)) ∧ (decode cX12_harvestOf 54 = .ok (.aload_n 0, 1)) ∧ (decode cX12_harvestOf 55 = .ok (.getfield 35, 3)) ∧ (decode cX12_harvestOf 58 = .ok (.bipush 7, 2)) ∧ (decode cX12_harvestOf 60 = .ok (.iaload, 1)) ∧ (decode cX12_harvestOf 61 = .ok (.invokevirtual 349, 3)) ∧ (decode cX12_harvestOf 64 = .ok (.istore 4, 2)) ∧ (decode cX12_harvestOf 66 = .ok (.iconst 0, 1)) := by decide +kernel
theorem dX12_harvestOf_49 : decode cX12_harvestOf 49 = .ok (.aload_n 0, 1) := bdX12_harvestOf_49.1
theorem dX12_harvestOf_50 : decode cX12_harvestOf 50 = .ok (.aload_n 0, 1) := bdX12_harvestOf_49.2.1
theorem dX12_harvestOf_51 : decode cX12_harvestOf 51 = .ok (.getfield 60, 3) := bdX12_harvestOf_49.2.2.1
theorem dX12_harvestOf_54 : decode cX12_harvestOf 54 = .ok (.aload_n 0, 1) := bdX12_harvestOf_49.2.2.2.1
theorem dX12_harvestOf_55 : decode cX12_harvestOf 55 = .ok (.getfield 35, 3) := bdX12_harvestOf_49.2.2.2.2.1
theorem dX12_harvestOf_58 : decode cX12_harvestOf 58 = .ok (.bipush 7, 2) := bdX12_harvestOf_49.2.2.2.2.2.1
theorem dX12_harvestOf_60 : decode cX12_harvestOf 60 = .ok (.iaload, 1) := bdX12_harvestOf_49.2.2.2.2.2.2.1
theorem dX12_harvestOf_61 : decode cX12_harvestOf 61 = .ok (.invokevirtual 349, 3) := bdX12_harvestOf_49.2.2.2.2.2.2.2.1
theorem dX12_harvestOf_64 : decode cX12_harvestOf 64 = .ok (.istore 4, 2) := bdX12_harvestOf_49.2.2.2.2.2.2.2.2.1
theorem dX12_harvestOf_66 : decode cX12_harvestOf 66 = .ok (.iconst 0, 1) := bdX12_harvestOf_49.2.2.2.2.2.2.2.2.2
theorem bdX12_harvestOf_67 : (decode cX12_harvestOf 67 = .ok (.bipush 99, 2)) ∧ (decode cX12_harvestOf 69 = .ok (.iload 4, 2)) ∧ (decode cX12_harvestOf 71 = .ok (.invokestatic 177, 3)) ∧ (decode cX12_harvestOf 74 = .ok (.invokestatic 356, 3)) ∧ (decode cX12_harvestOf 77 = .ok (.ireturn, 1)) := by decide +kernel
theorem dX12_harvestOf_67 : decode cX12_harvestOf 67 = .ok (.bipush 99, 2) := bdX12_harvestOf_67.1
theorem dX12_harvestOf_69 : decode cX12_harvestOf 69 = .ok (.iload 4, 2) := bdX12_harvestOf_67.2.1
theorem dX12_harvestOf_71 : decode cX12_harvestOf 71 = .ok (.invokestatic 177, 3) := bdX12_harvestOf_67.2.2.1
theorem dX12_harvestOf_74 : decode cX12_harvestOf 74 = .ok (.invokestatic 356, 3) := bdX12_harvestOf_67.2.2.2.1
theorem dX12_harvestOf_77 : decode cX12_harvestOf 77 = .ok (.ireturn, 1) := bdX12_harvestOf_67.2.2.2.2
theorem bdX12_ownerOf_0 : (decode cX12_ownerOf 0 = .ok (.iconst 0, 1)) ∧ (decode cX12_ownerOf 1 = .ok (.istore_n 2, 1)) ∧ (decode cX12_ownerOf 2 = .ok (.iload_n 2, 1)) ∧ (decode cX12_ownerOf 3 = .ok (.aload_n 0, 1)) ∧ (decode cX12_ownerOf 4 = .ok (.getfield 35, 3)) ∧ (decode cX12_ownerOf 7 = .ok (.iconst 0, 1)) ∧ (decode cX12_ownerOf 8 = .ok (.iaload, 1)) ∧ (decode cX12_ownerOf 9 = .ok (.if_icmp .ge 21, 3)) ∧ (decode cX12_ownerOf 12 = .ok (.aload_n 0, 1)) ∧ (decode cX12_ownerOf 13 = .ok (.getfield 76, 3)) := by decide +kernel
theorem dX12_ownerOf_0 : decode cX12_ownerOf 0 = .ok (.iconst 0, 1) := bdX12_ownerOf_0.1
theorem dX12_ownerOf_1 : decode cX12_ownerOf 1 = .ok (.istore_n 2, 1) := bdX12_ownerOf_0.2.1
theorem dX12_ownerOf_2 : decode cX12_ownerOf 2 = .ok (.iload_n 2, 1) := bdX12_ownerOf_0.2.2.1
theorem dX12_ownerOf_3 : decode cX12_ownerOf 3 = .ok (.aload_n 0, 1) := bdX12_ownerOf_0.2.2.2.1
theorem dX12_ownerOf_4 : decode cX12_ownerOf 4 = .ok (.getfield 35, 3) := bdX12_ownerOf_0.2.2.2.2.1
theorem dX12_ownerOf_7 : decode cX12_ownerOf 7 = .ok (.iconst 0, 1) := bdX12_ownerOf_0.2.2.2.2.2.1
theorem dX12_ownerOf_8 : decode cX12_ownerOf 8 = .ok (.iaload, 1) := bdX12_ownerOf_0.2.2.2.2.2.2.1
theorem dX12_ownerOf_9 : decode cX12_ownerOf 9 = .ok (.if_icmp .ge 21, 3) := bdX12_ownerOf_0.2.2.2.2.2.2.2.1
theorem dX12_ownerOf_12 : decode cX12_ownerOf 12 = .ok (.aload_n 0, 1) := bdX12_ownerOf_0.2.2.2.2.2.2.2.2.1
theorem dX12_ownerOf_13 : decode cX12_ownerOf 13 = .ok (.getfield 76, 3) := bdX12_ownerOf_0.2.2.2.2.2.2.2.2.2
theorem bdX12_ownerOf_16 : (decode cX12_ownerOf 16 = .ok (.iload_n 2, 1)) ∧ (decode cX12_ownerOf 17 = .ok (.iaload, 1)) ∧ (decode cX12_ownerOf 18 = .ok (.iload_n 1, 1)) ∧ (decode cX12_ownerOf 19 = .ok (.if_icmp .ne 5, 3)) ∧ (decode cX12_ownerOf 22 = .ok (.iload_n 2, 1)) ∧ (decode cX12_ownerOf 23 = .ok (.ireturn, 1)) ∧ (decode cX12_ownerOf 24 = .ok (.iinc 2 1, 3)) ∧ (decode cX12_ownerOf 27 = .ok (.goto (-25), 3)) ∧ (decode cX12_ownerOf 30 = .ok (.iconst (-1), 1)) ∧ (decode cX12_ownerOf 31 = .ok (.ireturn, 1)) := by decide +kernel
theorem dX12_ownerOf_16 : decode cX12_ownerOf 16 = .ok (.iload_n 2, 1) := bdX12_ownerOf_16.1
theorem dX12_ownerOf_17 : decode cX12_ownerOf 17 = .ok (.iaload, 1) := bdX12_ownerOf_16.2.1
theorem dX12_ownerOf_18 : decode cX12_ownerOf 18 = .ok (.iload_n 1, 1) := bdX12_ownerOf_16.2.2.1
theorem dX12_ownerOf_19 : decode cX12_ownerOf 19 = .ok (.if_icmp .ne 5, 3) := bdX12_ownerOf_16.2.2.2.1
theorem dX12_ownerOf_22 : decode cX12_ownerOf 22 = .ok (.iload_n 2, 1) := bdX12_ownerOf_16.2.2.2.2.1
theorem dX12_ownerOf_23 : decode cX12_ownerOf 23 = .ok (.ireturn, 1) := bdX12_ownerOf_16.2.2.2.2.2.1
theorem dX12_ownerOf_24 : decode cX12_ownerOf 24 = .ok (.iinc 2 1, 3) := bdX12_ownerOf_16.2.2.2.2.2.2.1
theorem dX12_ownerOf_27 : decode cX12_ownerOf 27 = .ok (.goto (-25), 3) := bdX12_ownerOf_16.2.2.2.2.2.2.2.1
theorem dX12_ownerOf_30 : decode cX12_ownerOf 30 = .ok (.iconst (-1), 1) := bdX12_ownerOf_16.2.2.2.2.2.2.2.2.1
theorem dX12_ownerOf_31 : decode cX12_ownerOf 31 = .ok (.ireturn, 1) := bdX12_ownerOf_16.2.2.2.2.2.2.2.2.2
theorem bdX12_takeShares_0 : (decode cX12_takeShares 0 = .ok (.iconst 0, 1)) ∧ (decode cX12_takeShares 1 = .ok (.istore_n 1, 1)) ∧ (decode cX12_takeShares 2 = .ok (.iload_n 1, 1)) ∧ (decode cX12_takeShares 3 = .ok (.bipush 8, 2)) ∧ (decode cX12_takeShares 5 = .ok (.if_icmp .ge 16, 3)) ∧ (decode cX12_takeShares 8 = .ok (.aload_n 0, 1)) ∧ (decode cX12_takeShares 9 = .ok (.getfield 76, 3)) ∧ (decode cX12_takeShares 12 = .ok (.iload_n 1, 1)) ∧ (decode cX12_takeShares 13 = .ok (.iconst (-1), 1)) ∧ (decode cX12_takeShares 14 = .ok (.iastore, 1)) := by decide +kernel
theorem dX12_takeShares_0 : decode cX12_takeShares 0 = .ok (.iconst 0, 1) := bdX12_takeShares_0.1
theorem dX12_takeShares_1 : decode cX12_takeShares 1 = .ok (.istore_n 1, 1) := bdX12_takeShares_0.2.1
theorem dX12_takeShares_2 : decode cX12_takeShares 2 = .ok (.iload_n 1, 1) := bdX12_takeShares_0.2.2.1
theorem dX12_takeShares_3 : decode cX12_takeShares 3 = .ok (.bipush 8, 2) := bdX12_takeShares_0.2.2.2.1
theorem dX12_takeShares_5 : decode cX12_takeShares 5 = .ok (.if_icmp .ge 16, 3) := bdX12_takeShares_0.2.2.2.2.1
theorem dX12_takeShares_8 : decode cX12_takeShares 8 = .ok (.aload_n 0, 1) := bdX12_takeShares_0.2.2.2.2.2.1
theorem dX12_takeShares_9 : decode cX12_takeShares 9 = .ok (.getfield 76, 3) := bdX12_takeShares_0.2.2.2.2.2.2.1
theorem dX12_takeShares_12 : decode cX12_takeShares 12 = .ok (.iload_n 1, 1) := bdX12_takeShares_0.2.2.2.2.2.2.2.1
theorem dX12_takeShares_13 : decode cX12_takeShares 13 = .ok (.iconst (-1), 1) := bdX12_takeShares_0.2.2.2.2.2.2.2.2.1
theorem dX12_takeShares_14 : decode cX12_takeShares 14 = .ok (.iastore, 1) := bdX12_takeShares_0.2.2.2.2.2.2.2.2.2
theorem bdX12_takeShares_15 : (decode cX12_takeShares 15 = .ok (.iinc 1 1, 3)) ∧ (decode cX12_takeShares 18 = .ok (.goto (-16), 3)) ∧ (decode cX12_takeShares 21 = .ok (.iconst 0, 1)) ∧ (decode cX12_takeShares 22 = .ok (.istore_n 1, 1)) ∧ (decode cX12_takeShares 23 = .ok (.iload_n 1, 1)) ∧ (decode cX12_takeShares 24 = .ok (.aload_n 0, 1)) ∧ (decode cX12_takeShares 25 = .ok (.getfield 35, 3)) ∧ (decode cX12_takeShares 28 = .ok (.iconst 0, 1)) ∧ (decode cX12_takeShares 29 = .ok (.iaload, 1)) ∧ (decode cX12_takeShares 30 = .ok (.if_icmp .ge 103, 3)) := by decide +kernel
theorem dX12_takeShares_15 : decode cX12_takeShares 15 = .ok (.iinc 1 1, 3) := bdX12_takeShares_15.1
theorem dX12_takeShares_18 : decode cX12_takeShares 18 = .ok (.goto (-16), 3) := bdX12_takeShares_15.2.1
theorem dX12_takeShares_21 : decode cX12_takeShares 21 = .ok (.iconst 0, 1) := bdX12_takeShares_15.2.2.1
theorem dX12_takeShares_22 : decode cX12_takeShares 22 = .ok (.istore_n 1, 1) := bdX12_takeShares_15.2.2.2.1
theorem dX12_takeShares_23 : decode cX12_takeShares 23 = .ok (.iload_n 1, 1) := bdX12_takeShares_15.2.2.2.2.1
theorem dX12_takeShares_24 : decode cX12_takeShares 24 = .ok (.aload_n 0, 1) := bdX12_takeShares_15.2.2.2.2.2.1
theorem dX12_takeShares_25 : decode cX12_takeShares 25 = .ok (.getfield 35, 3) := bdX12_takeShares_15.2.2.2.2.2.2.1
theorem dX12_takeShares_28 : decode cX12_takeShares 28 = .ok (.iconst 0, 1) := bdX12_takeShares_15.2.2.2.2.2.2.2.1
theorem dX12_takeShares_29 : decode cX12_takeShares 29 = .ok (.iaload, 1) := bdX12_takeShares_15.2.2.2.2.2.2.2.2.1
theorem dX12_takeShares_30 : decode cX12_takeShares 30 = .ok (.if_icmp .ge 103, 3) := bdX12_takeShares_15.2.2.2.2.2.2.2.2.2
theorem bdX12_takeShares_33 : (decode cX12_takeShares 33 = .ok (.aload_n 0, 1)) ∧ (decode cX12_takeShares 34 = .ok (.getfield 79, 3)) ∧ (decode cX12_takeShares 37 = .ok (.iload_n 1, 1)) ∧ (decode cX12_takeShares 38 = .ok (.iaload, 1)) ∧ (decode cX12_takeShares 39 = .ok (.istore_n 2, 1)) ∧ (decode cX12_takeShares 40 = .ok (.iload_n 2, 1)) ∧ (decode cX12_takeShares 41 = .ok (.aload_n 0, 1)) ∧ (decode cX12_takeShares 42 = .ok (.getfield 91, 3)) ∧ (decode cX12_takeShares 45 = .ok (.if_icmp .ne 6, 3)) ∧ (decode cX12_takeShares 48 = .ok (.goto 79, 3)) := by decide +kernel
theorem dX12_takeShares_33 : decode cX12_takeShares 33 = .ok (.aload_n 0, 1) := bdX12_takeShares_33.1
theorem dX12_takeShares_34 : decode cX12_takeShares 34 = .ok (.getfield 79, 3) := bdX12_takeShares_33.2.1
theorem dX12_takeShares_37 : decode cX12_takeShares 37 = .ok (.iload_n 1, 1) := bdX12_takeShares_33.2.2.1
theorem dX12_takeShares_38 : decode cX12_takeShares 38 = .ok (.iaload, 1) := bdX12_takeShares_33.2.2.2.1
theorem dX12_takeShares_39 : decode cX12_takeShares 39 = .ok (.istore_n 2, 1) := bdX12_takeShares_33.2.2.2.2.1
theorem dX12_takeShares_40 : decode cX12_takeShares 40 = .ok (.iload_n 2, 1) := bdX12_takeShares_33.2.2.2.2.2.1
theorem dX12_takeShares_41 : decode cX12_takeShares 41 = .ok (.aload_n 0, 1) := bdX12_takeShares_33.2.2.2.2.2.2.1
theorem dX12_takeShares_42 : decode cX12_takeShares 42 = .ok (.getfield 91, 3) := bdX12_takeShares_33.2.2.2.2.2.2.2.1
theorem dX12_takeShares_45 : decode cX12_takeShares 45 = .ok (.if_icmp .ne 6, 3) := bdX12_takeShares_33.2.2.2.2.2.2.2.2.1
theorem dX12_takeShares_48 : decode cX12_takeShares 48 = .ok (.goto 79, 3) := bdX12_takeShares_33.2.2.2.2.2.2.2.2.2
theorem bdX12_takeShares_51 : (decode cX12_takeShares 51 = .ok (.iconst (-1), 1)) ∧ (decode cX12_takeShares 52 = .ok (.istore_n 3, 1)) ∧ (decode cX12_takeShares 53 = .ok (.iconst 0, 1)) ∧ (decode cX12_takeShares 54 = .ok (.istore 4, 2)) ∧ (decode cX12_takeShares 56 = .ok (.iconst 0, 1)) ∧ (decode cX12_takeShares 57 = .ok (.istore 5, 2)) ∧ (decode cX12_takeShares 59 = .ok (.iload 5, 2)) ∧ (decode cX12_takeShares 61 = .ok (.aload_n 0, 1)) ∧ (decode cX12_takeShares 62 = .ok (.getfield 35, 3)) ∧ (decode cX12_takeShares 65 = .ok (.iconst 1, 1)) := by decide +kernel
theorem dX12_takeShares_51 : decode cX12_takeShares 51 = .ok (.iconst (-1), 1) := bdX12_takeShares_51.1
theorem dX12_takeShares_52 : decode cX12_takeShares 52 = .ok (.istore_n 3, 1) := bdX12_takeShares_51.2.1
theorem dX12_takeShares_53 : decode cX12_takeShares 53 = .ok (.iconst 0, 1) := bdX12_takeShares_51.2.2.1
theorem dX12_takeShares_54 : decode cX12_takeShares 54 = .ok (.istore 4, 2) := bdX12_takeShares_51.2.2.2.1
theorem dX12_takeShares_56 : decode cX12_takeShares 56 = .ok (.iconst 0, 1) := bdX12_takeShares_51.2.2.2.2.1
theorem dX12_takeShares_57 : decode cX12_takeShares 57 = .ok (.istore 5, 2) := bdX12_takeShares_51.2.2.2.2.2.1
theorem dX12_takeShares_59 : decode cX12_takeShares 59 = .ok (.iload 5, 2) := bdX12_takeShares_51.2.2.2.2.2.2.1
theorem dX12_takeShares_61 : decode cX12_takeShares 61 = .ok (.aload_n 0, 1) := bdX12_takeShares_51.2.2.2.2.2.2.2.1
theorem dX12_takeShares_62 : decode cX12_takeShares 62 = .ok (.getfield 35, 3) := bdX12_takeShares_51.2.2.2.2.2.2.2.2.1
theorem dX12_takeShares_65 : decode cX12_takeShares 65 = .ok (.iconst 1, 1) := bdX12_takeShares_51.2.2.2.2.2.2.2.2.2
theorem bdX12_takeShares_66 : (decode cX12_takeShares 66 = .ok (.iaload, 1)) ∧ (decode cX12_takeShares 67 = .ok (.if_icmp .ge 53, 3)) ∧ (decode cX12_takeShares 70 = .ok (.aload_n 0, 1)) ∧ (decode cX12_takeShares 71 = .ok (.iload 5, 2)) ∧ (decode cX12_takeShares 73 = .ok (.invokevirtual 359, 3)) ∧ (decode cX12_takeShares 76 = .ok (.iconst (-1), 1)) ∧ (decode cX12_takeShares 77 = .ok (.if_icmp .eq 6, 3)) ∧ (decode cX12_takeShares 80 = .ok (.goto 34, 3)) ∧ (decode cX12_takeShares 83 = .ok (.aload_n 0, 1)) ∧ (decode cX12_takeShares 84 = .ok (.iload_n 2, 1)) := by decide +kernel
theorem dX12_takeShares_66 : decode cX12_takeShares 66 = .ok (.iaload, 1) := bdX12_takeShares_66.1
theorem dX12_takeShares_67 : decode cX12_takeShares 67 = .ok (.if_icmp .ge 53, 3) := bdX12_takeShares_66.2.1
theorem dX12_takeShares_70 : decode cX12_takeShares 70 = .ok (.aload_n 0, 1) := bdX12_takeShares_66.2.2.1
theorem dX12_takeShares_71 : decode cX12_takeShares 71 = .ok (.iload 5, 2) := bdX12_takeShares_66.2.2.2.1
theorem dX12_takeShares_73 : decode cX12_takeShares 73 = .ok (.invokevirtual 359, 3) := bdX12_takeShares_66.2.2.2.2.1
theorem dX12_takeShares_76 : decode cX12_takeShares 76 = .ok (.iconst (-1), 1) := bdX12_takeShares_66.2.2.2.2.2.1
theorem dX12_takeShares_77 : decode cX12_takeShares 77 = .ok (.if_icmp .eq 6, 3) := bdX12_takeShares_66.2.2.2.2.2.2.1
theorem dX12_takeShares_80 : decode cX12_takeShares 80 = .ok (.goto 34, 3) := bdX12_takeShares_66.2.2.2.2.2.2.2.1
theorem dX12_takeShares_83 : decode cX12_takeShares 83 = .ok (.aload_n 0, 1) := bdX12_takeShares_66.2.2.2.2.2.2.2.2.1
theorem dX12_takeShares_84 : decode cX12_takeShares 84 = .ok (.iload_n 2, 1) := bdX12_takeShares_66.2.2.2.2.2.2.2.2.2
theorem bdX12_takeShares_85 : (decode cX12_takeShares 85 = .ok (.iload 5, 2)) ∧ (decode cX12_takeShares 87 = .ok (.invokevirtual 362, 3)) ∧ (decode cX12_takeShares 90 = .ok (.istore 6, 2)) ∧ (decode cX12_takeShares 92 = .ok (.iload_n 3, 1)) ∧ (decode cX12_takeShares 93 = .ok (.iconst (-1), 1)) ∧ (decode cX12_takeShares 94 = .ok (.if_icmp .eq 13, 3)) ∧ (decode cX12_takeShares 97 = .ok (.iload 6, 2)) ∧ (decode cX12_takeShares 99 = .ok (.iload 4, 2)) ∧ (decode cX12_takeShares 101 = .ok (.if_icmp .gt 6, 3)) ∧ (decode cX12_takeShares 104 = .ok (.goto 10, 3)) := by decide +kernel
theorem dX12_takeShares_85 : decode cX12_takeShares 85 = .ok (.iload 5, 2) := bdX12_takeShares_85.1
theorem dX12_takeShares_87 : decode cX12_takeShares 87 = .ok (.invokevirtual 362, 3) := bdX12_takeShares_85.2.1
theorem dX12_takeShares_90 : decode cX12_takeShares 90 = .ok (.istore 6, 2) := bdX12_takeShares_85.2.2.1
theorem dX12_takeShares_92 : decode cX12_takeShares 92 = .ok (.iload_n 3, 1) := bdX12_takeShares_85.2.2.2.1
theorem dX12_takeShares_93 : decode cX12_takeShares 93 = .ok (.iconst (-1), 1) := bdX12_takeShares_85.2.2.2.2.1
theorem dX12_takeShares_94 : decode cX12_takeShares 94 = .ok (.if_icmp .eq 13, 3) := bdX12_takeShares_85.2.2.2.2.2.1
theorem dX12_takeShares_97 : decode cX12_takeShares 97 = .ok (.iload 6, 2) := bdX12_takeShares_85.2.2.2.2.2.2.1
theorem dX12_takeShares_99 : decode cX12_takeShares 99 = .ok (.iload 4, 2) := bdX12_takeShares_85.2.2.2.2.2.2.2.1
theorem dX12_takeShares_101 : decode cX12_takeShares 101 = .ok (.if_icmp .gt 6, 3) := bdX12_takeShares_85.2.2.2.2.2.2.2.2.1
theorem dX12_takeShares_104 : decode cX12_takeShares 104 = .ok (.goto 10, 3) := bdX12_takeShares_85.2.2.2.2.2.2.2.2.2
theorem bdX12_takeShares_107 : (decode cX12_takeShares 107 = .ok (.iload 5, 2)) ∧ (decode cX12_takeShares 109 = .ok (.istore_n 3, 1)) ∧ (decode cX12_takeShares 110 = .ok (.iload 6, 2)) ∧ (decode cX12_takeShares 112 = .ok (.istore 4, 2)) ∧ (decode cX12_takeShares 114 = .ok (.iinc 5 1, 3)) ∧ (decode cX12_takeShares 117 = .ok (.goto (-58), 3)) ∧ (decode cX12_takeShares 120 = .ok (.aload_n 0, 1)) ∧ (decode cX12_takeShares 121 = .ok (.getfield 76, 3)) ∧ (decode cX12_takeShares 124 = .ok (.iload_n 2, 1)) ∧ (decode cX12_takeShares 125 = .ok (.iload_n 3, 1)) := by decide +kernel
theorem dX12_takeShares_107 : decode cX12_takeShares 107 = .ok (.iload 5, 2) := bdX12_takeShares_107.1
theorem dX12_takeShares_109 : decode cX12_takeShares 109 = .ok (.istore_n 3, 1) := bdX12_takeShares_107.2.1
theorem dX12_takeShares_110 : decode cX12_takeShares 110 = .ok (.iload 6, 2) := bdX12_takeShares_107.2.2.1
theorem dX12_takeShares_112 : decode cX12_takeShares 112 = .ok (.istore 4, 2) := bdX12_takeShares_107.2.2.2.1
theorem dX12_takeShares_114 : decode cX12_takeShares 114 = .ok (.iinc 5 1, 3) := bdX12_takeShares_107.2.2.2.2.1
theorem dX12_takeShares_117 : decode cX12_takeShares 117 = .ok (.goto (-58), 3) := bdX12_takeShares_107.2.2.2.2.2.1
theorem dX12_takeShares_120 : decode cX12_takeShares 120 = .ok (.aload_n 0, 1) := bdX12_takeShares_107.2.2.2.2.2.2.1
theorem dX12_takeShares_121 : decode cX12_takeShares 121 = .ok (.getfield 76, 3) := bdX12_takeShares_107.2.2.2.2.2.2.2.1
theorem dX12_takeShares_124 : decode cX12_takeShares 124 = .ok (.iload_n 2, 1) := bdX12_takeShares_107.2.2.2.2.2.2.2.2.1
theorem dX12_takeShares_125 : decode cX12_takeShares 125 = .ok (.iload_n 3, 1) := bdX12_takeShares_107.2.2.2.2.2.2.2.2.2
theorem bdX12_takeShares_126 : (decode cX12_takeShares 126 = .ok (.iastore, 1)) ∧ (decode cX12_takeShares 127 = .ok (.iinc 1 1, 3)) ∧ (decode cX12_takeShares 130 = .ok (.goto (-107), 3)) ∧ (decode cX12_takeShares 133 = .ok (.return_, 1)) := by decide +kernel
theorem dX12_takeShares_126 : decode cX12_takeShares 126 = .ok (.iastore, 1) := bdX12_takeShares_126.1
theorem dX12_takeShares_127 : decode cX12_takeShares 127 = .ok (.iinc 1 1, 3) := bdX12_takeShares_126.2.1
theorem dX12_takeShares_130 : decode cX12_takeShares 130 = .ok (.goto (-107), 3) := bdX12_takeShares_126.2.2.1
theorem dX12_takeShares_133 : decode cX12_takeShares 133 = .ok (.return_, 1) := bdX12_takeShares_126.2.2.2
theorem bdX12_aYear_0 : (decode cX12_aYear 0 = .ok (.iconst 0, 1)) ∧ (decode cX12_aYear 1 = .ok (.istore_n 1, 1)) ∧ (decode cX12_aYear 2 = .ok (.iload_n 1, 1)) ∧ (decode cX12_aYear 3 = .ok (.aload_n 0, 1)) ∧ (decode cX12_aYear 4 = .ok (.getfield 35, 3)) ∧ (decode cX12_aYear 7 = .ok (.iconst 0, 1)) ∧ (decode cX12_aYear 8 = .ok (.iaload, 1)) ∧ (decode cX12_aYear 9 = .ok (.if_icmp .ge 141, 3)) ∧ (decode cX12_aYear 12 = .ok (.aload_n 0, 1)) ∧ (decode cX12_aYear 13 = .ok (.getfield 305, 3)) := by decide +kernel
theorem dX12_aYear_0 : decode cX12_aYear 0 = .ok (.iconst 0, 1) := bdX12_aYear_0.1
theorem dX12_aYear_1 : decode cX12_aYear 1 = .ok (.istore_n 1, 1) := bdX12_aYear_0.2.1
theorem dX12_aYear_2 : decode cX12_aYear 2 = .ok (.iload_n 1, 1) := bdX12_aYear_0.2.2.1
theorem dX12_aYear_3 : decode cX12_aYear 3 = .ok (.aload_n 0, 1) := bdX12_aYear_0.2.2.2.1
theorem dX12_aYear_4 : decode cX12_aYear 4 = .ok (.getfield 35, 3) := bdX12_aYear_0.2.2.2.2.1
theorem dX12_aYear_7 : decode cX12_aYear 7 = .ok (.iconst 0, 1) := bdX12_aYear_0.2.2.2.2.2.1
theorem dX12_aYear_8 : decode cX12_aYear 8 = .ok (.iaload, 1) := bdX12_aYear_0.2.2.2.2.2.2.1
theorem dX12_aYear_9 : decode cX12_aYear 9 = .ok (.if_icmp .ge 141, 3) := bdX12_aYear_0.2.2.2.2.2.2.2.1
theorem dX12_aYear_12 : decode cX12_aYear 12 = .ok (.aload_n 0, 1) := bdX12_aYear_0.2.2.2.2.2.2.2.2.1
theorem dX12_aYear_13 : decode cX12_aYear 13 = .ok (.getfield 305, 3) := bdX12_aYear_0.2.2.2.2.2.2.2.2.2
theorem bdX12_aYear_16 : (decode cX12_aYear 16 = .ok (.iload_n 1, 1)) ∧ (decode cX12_aYear 17 = .ok (.invokestatic 333, 3)) ∧ (decode cX12_aYear 20 = .ok (.ifCond .eq 6, 3)) ∧ (decode cX12_aYear 23 = .ok (.goto 121, 3)) ∧ (decode cX12_aYear 26 = .ok (.aload_n 0, 1)) ∧ (decode cX12_aYear 27 = .ok (.getfield 76, 3)) ∧ (decode cX12_aYear 30 = .ok (.iload_n 1, 1)) ∧ (decode cX12_aYear 31 = .ok (.iaload, 1)) ∧ (decode cX12_aYear 32 = .ok (.iconst (-1), 1)) ∧ (decode cX12_aYear 33 = .ok (.if_icmp .ne 7, 3)) := by decide +kernel
theorem dX12_aYear_16 : decode cX12_aYear 16 = .ok (.iload_n 1, 1) := bdX12_aYear_16.1
theorem dX12_aYear_17 : decode cX12_aYear 17 = .ok (.invokestatic 333, 3) := bdX12_aYear_16.2.1
theorem dX12_aYear_20 : decode cX12_aYear 20 = .ok (.ifCond .eq 6, 3) := bdX12_aYear_16.2.2.1
theorem dX12_aYear_23 : decode cX12_aYear 23 = .ok (.goto 121, 3) := bdX12_aYear_16.2.2.2.1
theorem dX12_aYear_26 : decode cX12_aYear 26 = .ok (.aload_n 0, 1) := bdX12_aYear_16.2.2.2.2.1
theorem dX12_aYear_27 : decode cX12_aYear 27 = .ok (.getfield 76, 3) := bdX12_aYear_16.2.2.2.2.2.1
theorem dX12_aYear_30 : decode cX12_aYear 30 = .ok (.iload_n 1, 1) := bdX12_aYear_16.2.2.2.2.2.2.1
theorem dX12_aYear_31 : decode cX12_aYear 31 = .ok (.iaload, 1) := bdX12_aYear_16.2.2.2.2.2.2.2.1
theorem dX12_aYear_32 : decode cX12_aYear 32 = .ok (.iconst (-1), 1) := bdX12_aYear_16.2.2.2.2.2.2.2.2.1
theorem dX12_aYear_33 : decode cX12_aYear 33 = .ok (.if_icmp .ne 7, 3) := bdX12_aYear_16.2.2.2.2.2.2.2.2.2
theorem bdX12_aYear_36 : (decode cX12_aYear 36 = .ok (.iconst 0, 1)) ∧ (decode cX12_aYear 37 = .ok (.goto 18, 3)) ∧ (decode cX12_aYear 40 = .ok (.aload_n 0, 1)) ∧ (decode cX12_aYear 41 = .ok (.iload_n 1, 1)) ∧ (decode cX12_aYear 42 = .ok (.aload_n 0, 1)) ∧ (decode cX12_aYear 43 = .ok (.getfield 76, 3)) ∧ (decode cX12_aYear 46 = .ok (.iload_n 1, 1)) ∧ (decode cX12_aYear 47 = .ok (.iaload, 1)) ∧ (decode cX12_aYear 48 = .ok (.aload_n 0, 1)) ∧ (decode cX12_aYear 49 = .ok (.getfield 303, 3)) := by decide +kernel
theorem dX12_aYear_36 : decode cX12_aYear 36 = .ok (.iconst 0, 1) := bdX12_aYear_36.1
theorem dX12_aYear_37 : decode cX12_aYear 37 = .ok (.goto 18, 3) := bdX12_aYear_36.2.1
theorem dX12_aYear_40 : decode cX12_aYear 40 = .ok (.aload_n 0, 1) := bdX12_aYear_36.2.2.1
theorem dX12_aYear_41 : decode cX12_aYear 41 = .ok (.iload_n 1, 1) := bdX12_aYear_36.2.2.2.1
theorem dX12_aYear_42 : decode cX12_aYear 42 = .ok (.aload_n 0, 1) := bdX12_aYear_36.2.2.2.2.1
theorem dX12_aYear_43 : decode cX12_aYear 43 = .ok (.getfield 76, 3) := bdX12_aYear_36.2.2.2.2.2.1
theorem dX12_aYear_46 : decode cX12_aYear 46 = .ok (.iload_n 1, 1) := bdX12_aYear_36.2.2.2.2.2.2.1
theorem dX12_aYear_47 : decode cX12_aYear 47 = .ok (.iaload, 1) := bdX12_aYear_36.2.2.2.2.2.2.2.1
theorem dX12_aYear_48 : decode cX12_aYear 48 = .ok (.aload_n 0, 1) := bdX12_aYear_36.2.2.2.2.2.2.2.2.1
theorem dX12_aYear_49 : decode cX12_aYear 49 = .ok (.getfield 303, 3) := bdX12_aYear_36.2.2.2.2.2.2.2.2.2
theorem bdX12_aYear_52 : (decode cX12_aYear 52 = .ok (.invokevirtual 365, 3)) ∧ (decode cX12_aYear 55 = .ok (.istore_n 2, 1)) ∧ (decode cX12_aYear 56 = .ok (.aload_n 0, 1)) ∧ (decode cX12_aYear 57 = .ok (.dup, 1)) ∧ (decode cX12_aYear 58 = .ok (.getfield 308, 3)) ∧ (decode cX12_aYear 61 = .ok (.iload_n 2, 1)) ∧ (decode cX12_aYear 62 = .ok (.bipush 10, 2)) ∧ (decode cX12_aYear 64 = .ok (.idiv, 1)) ∧ (decode cX12_aYear 65 = .ok (.iadd, 1)) ∧ (decode cX12_aYear 66 = .ok (.putfield 308, 3)) := by decide +kernel
theorem dX12_aYear_52 : decode cX12_aYear 52 = .ok (.invokevirtual 365, 3) := bdX12_aYear_52.1
theorem dX12_aYear_55 : decode cX12_aYear 55 = .ok (.istore_n 2, 1) := bdX12_aYear_52.2.1
theorem dX12_aYear_56 : decode cX12_aYear 56 = .ok (.aload_n 0, 1) := bdX12_aYear_52.2.2.1
theorem dX12_aYear_57 : decode cX12_aYear 57 = .ok (.dup, 1) := bdX12_aYear_52.2.2.2.1
theorem dX12_aYear_58 : decode cX12_aYear 58 = .ok (.getfield 308, 3) := bdX12_aYear_52.2.2.2.2.1
theorem dX12_aYear_61 : decode cX12_aYear 61 = .ok (.iload_n 2, 1) := bdX12_aYear_52.2.2.2.2.2.1
theorem dX12_aYear_62 : decode cX12_aYear 62 = .ok (.bipush 10, 2) := bdX12_aYear_52.2.2.2.2.2.2.1
theorem dX12_aYear_64 : decode cX12_aYear 64 = .ok (.idiv, 1) := bdX12_aYear_52.2.2.2.2.2.2.2.1
theorem dX12_aYear_65 : decode cX12_aYear 65 = .ok (.iadd, 1) := bdX12_aYear_52.2.2.2.2.2.2.2.2.1
theorem dX12_aYear_66 : decode cX12_aYear 66 = .ok (.putfield 308, 3) := bdX12_aYear_52.2.2.2.2.2.2.2.2.2
theorem bdX12_aYear_69 : (decode cX12_aYear 69 = .ok (.aload_n 0, 1)) ∧ (decode cX12_aYear 70 = .ok (.getfield 73, 3)) ∧ (decode cX12_aYear 73 = .ok (.iload_n 1, 1)) ∧ (decode cX12_aYear 74 = .ok (.sipush 999, 3)) ∧ (decode cX12_aYear 77 = .ok (.aload_n 0, 1)) ∧ (decode cX12_aYear 78 = .ok (.getfield 73, 3)) ∧ (decode cX12_aYear 81 = .ok (.iload_n 1, 1)) ∧ (decode cX12_aYear 82 = .ok (.iaload, 1)) ∧ (decode cX12_aYear 83 = .ok (.iload_n 2, 1)) ∧ (decode cX12_aYear 84 = .ok (.iadd, 1)) := by decide +kernel
theorem dX12_aYear_69 : decode cX12_aYear 69 = .ok (.aload_n 0, 1) := bdX12_aYear_69.1
theorem dX12_aYear_70 : decode cX12_aYear 70 = .ok (.getfield 73, 3) := bdX12_aYear_69.2.1
theorem dX12_aYear_73 : decode cX12_aYear 73 = .ok (.iload_n 1, 1) := bdX12_aYear_69.2.2.1
theorem dX12_aYear_74 : decode cX12_aYear 74 = .ok (.sipush 999, 3) := bdX12_aYear_69.2.2.2.1
theorem dX12_aYear_77 : decode cX12_aYear 77 = .ok (.aload_n 0, 1) := bdX12_aYear_69.2.2.2.2.1
theorem dX12_aYear_78 : decode cX12_aYear 78 = .ok (.getfield 73, 3) := bdX12_aYear_69.2.2.2.2.2.1
theorem dX12_aYear_81 : decode cX12_aYear 81 = .ok (.iload_n 1, 1) := bdX12_aYear_69.2.2.2.2.2.2.1
theorem dX12_aYear_82 : decode cX12_aYear 82 = .ok (.iaload, 1) := bdX12_aYear_69.2.2.2.2.2.2.2.1
theorem dX12_aYear_83 : decode cX12_aYear 83 = .ok (.iload_n 2, 1) := bdX12_aYear_69.2.2.2.2.2.2.2.2.1
theorem dX12_aYear_84 : decode cX12_aYear 84 = .ok (.iadd, 1) := bdX12_aYear_69.2.2.2.2.2.2.2.2.2
theorem bdX12_aYear_85 : (decode cX12_aYear 85 = .ok (.iload_n 2, 1)) ∧ (decode cX12_aYear 86 = .ok (.bipush 10, 2)) ∧ (decode cX12_aYear 88 = .ok (.idiv, 1)) ∧ (decode cX12_aYear 89 = .ok (.isub, 1)) ∧ (decode cX12_aYear 90 = .ok (.invokestatic 177, 3)) ∧ (decode cX12_aYear 93 = .ok (.iastore, 1)) ∧ (decode cX12_aYear 94 = .ok (.aload_n 0, 1)) ∧ (decode cX12_aYear 95 = .ok (.getfield 73, 3)) ∧ (decode cX12_aYear 98 = .ok (.iload_n 1, 1)) ∧ (decode cX12_aYear 99 = .ok (.iaload, 1)) := by decide +kernel
theorem dX12_aYear_85 : decode cX12_aYear 85 = .ok (.iload_n 2, 1) := bdX12_aYear_85.1
theorem dX12_aYear_86 : decode cX12_aYear 86 = .ok (.bipush 10, 2) := bdX12_aYear_85.2.1
theorem dX12_aYear_88 : decode cX12_aYear 88 = .ok (.idiv, 1) := bdX12_aYear_85.2.2.1
theorem dX12_aYear_89 : decode cX12_aYear 89 = .ok (.isub, 1) := bdX12_aYear_85.2.2.2.1
theorem dX12_aYear_90 : decode cX12_aYear 90 = .ok (.invokestatic 177, 3) := bdX12_aYear_85.2.2.2.2.1
theorem dX12_aYear_93 : decode cX12_aYear 93 = .ok (.iastore, 1) := bdX12_aYear_85.2.2.2.2.2.1
theorem dX12_aYear_94 : decode cX12_aYear 94 = .ok (.aload_n 0, 1) := bdX12_aYear_85.2.2.2.2.2.2.1
theorem dX12_aYear_95 : decode cX12_aYear 95 = .ok (.getfield 73, 3) := bdX12_aYear_85.2.2.2.2.2.2.2.1
theorem dX12_aYear_98 : decode cX12_aYear 98 = .ok (.iload_n 1, 1) := bdX12_aYear_85.2.2.2.2.2.2.2.2.1
theorem dX12_aYear_99 : decode cX12_aYear 99 = .ok (.iaload, 1) := bdX12_aYear_85.2.2.2.2.2.2.2.2.2
theorem bdX12_aYear_100 : (decode cX12_aYear 100 = .ok (.aload_n 0, 1)) ∧ (decode cX12_aYear 101 = .ok (.getfield 35, 3)) ∧ (decode cX12_aYear 104 = .ok (.iconst 3, 1)) ∧ (decode cX12_aYear 105 = .ok (.iaload, 1)) ∧ (decode cX12_aYear 106 = .ok (.if_icmp .ge 15, 3)) ∧ (decode cX12_aYear 109 = .ok (.aload_n 0, 1)) ∧ (decode cX12_aYear 110 = .ok (.dup, 1)) ∧ (decode cX12_aYear 111 = .ok (.getfield 305, 3)) ∧ (decode cX12_aYear 114 = .ok (.iconst 1, 1)) ∧ (decode cX12_aYear 115 = .ok (.iload_n 1, 1)) := by decide +kernel
theorem dX12_aYear_100 : decode cX12_aYear 100 = .ok (.aload_n 0, 1) := bdX12_aYear_100.1
theorem dX12_aYear_101 : decode cX12_aYear 101 = .ok (.getfield 35, 3) := bdX12_aYear_100.2.1
theorem dX12_aYear_104 : decode cX12_aYear 104 = .ok (.iconst 3, 1) := bdX12_aYear_100.2.2.1
theorem dX12_aYear_105 : decode cX12_aYear 105 = .ok (.iaload, 1) := bdX12_aYear_100.2.2.2.1
theorem dX12_aYear_106 : decode cX12_aYear 106 = .ok (.if_icmp .ge 15, 3) := bdX12_aYear_100.2.2.2.2.1
theorem dX12_aYear_109 : decode cX12_aYear 109 = .ok (.aload_n 0, 1) := bdX12_aYear_100.2.2.2.2.2.1
theorem dX12_aYear_110 : decode cX12_aYear 110 = .ok (.dup, 1) := bdX12_aYear_100.2.2.2.2.2.2.1
theorem dX12_aYear_111 : decode cX12_aYear 111 = .ok (.getfield 305, 3) := bdX12_aYear_100.2.2.2.2.2.2.2.1
theorem dX12_aYear_114 : decode cX12_aYear 114 = .ok (.iconst 1, 1) := bdX12_aYear_100.2.2.2.2.2.2.2.2.1
theorem dX12_aYear_115 : decode cX12_aYear 115 = .ok (.iload_n 1, 1) := bdX12_aYear_100.2.2.2.2.2.2.2.2.2
theorem bdX12_aYear_116 : (decode cX12_aYear 116 = .ok (.ishl, 1)) ∧ (decode cX12_aYear 117 = .ok (.ior, 1)) ∧ (decode cX12_aYear 118 = .ok (.putfield 305, 3)) ∧ (decode cX12_aYear 121 = .ok (.aload_n 0, 1)) ∧ (decode cX12_aYear 122 = .ok (.getfield 73, 3)) ∧ (decode cX12_aYear 125 = .ok (.iload_n 1, 1)) ∧ (decode cX12_aYear 126 = .ok (.iconst 0, 1)) ∧ (decode cX12_aYear 127 = .ok (.aload_n 0, 1)) ∧ (decode cX12_aYear 128 = .ok (.getfield 73, 3)) ∧ (decode cX12_aYear 131 = .ok (.iload_n 1, 1)) := by decide +kernel
theorem dX12_aYear_116 : decode cX12_aYear 116 = .ok (.ishl, 1) := bdX12_aYear_116.1
theorem dX12_aYear_117 : decode cX12_aYear 117 = .ok (.ior, 1) := bdX12_aYear_116.2.1
theorem dX12_aYear_118 : decode cX12_aYear 118 = .ok (.putfield 305, 3) := bdX12_aYear_116.2.2.1
theorem dX12_aYear_121 : decode cX12_aYear 121 = .ok (.aload_n 0, 1) := bdX12_aYear_116.2.2.2.1
theorem dX12_aYear_122 : decode cX12_aYear 122 = .ok (.getfield 73, 3) := bdX12_aYear_116.2.2.2.2.1
theorem dX12_aYear_125 : decode cX12_aYear 125 = .ok (.iload_n 1, 1) := bdX12_aYear_116.2.2.2.2.2.1
theorem dX12_aYear_126 : decode cX12_aYear 126 = .ok (.iconst 0, 1) := bdX12_aYear_116.2.2.2.2.2.2.1
theorem dX12_aYear_127 : decode cX12_aYear 127 = .ok (.aload_n 0, 1) := bdX12_aYear_116.2.2.2.2.2.2.2.1
theorem dX12_aYear_128 : decode cX12_aYear 128 = .ok (.getfield 73, 3) := bdX12_aYear_116.2.2.2.2.2.2.2.2.1
theorem dX12_aYear_131 : decode cX12_aYear 131 = .ok (.iload_n 1, 1) := bdX12_aYear_116.2.2.2.2.2.2.2.2.2
theorem bdX12_aYear_132 : (decode cX12_aYear 132 = .ok (.iaload, 1)) ∧ (decode cX12_aYear 133 = .ok (.aload_n 0, 1)) ∧ (decode cX12_aYear 134 = .ok (.getfield 35, 3)) ∧ (decode cX12_aYear 137 = .ok (.iconst 3, 1)) ∧ (decode cX12_aYear 138 = .ok (.iaload, 1)) ∧ (decode cX12_aYear 139 = .ok (.isub, 1)) ∧ (decode cX12_aYear 140 = .ok (.invokestatic 356, 3)) ∧ (decode cX12_aYear 143 = .ok (.iastore, 1)) ∧ (decode cX12_aYear 144 = .ok (.iinc 1 1, 3)) ∧ (decode cX12_aYear 147 = .ok (.goto (-145), 3)) := by decide +kernel
theorem dX12_aYear_132 : decode cX12_aYear 132 = .ok (.iaload, 1) := bdX12_aYear_132.1
theorem dX12_aYear_133 : decode cX12_aYear 133 = .ok (.aload_n 0, 1) := bdX12_aYear_132.2.1
theorem dX12_aYear_134 : decode cX12_aYear 134 = .ok (.getfield 35, 3) := bdX12_aYear_132.2.2.1
theorem dX12_aYear_137 : decode cX12_aYear 137 = .ok (.iconst 3, 1) := bdX12_aYear_132.2.2.2.1
theorem dX12_aYear_138 : decode cX12_aYear 138 = .ok (.iaload, 1) := bdX12_aYear_132.2.2.2.2.1
theorem dX12_aYear_139 : decode cX12_aYear 139 = .ok (.isub, 1) := bdX12_aYear_132.2.2.2.2.2.1
theorem dX12_aYear_140 : decode cX12_aYear 140 = .ok (.invokestatic 356, 3) := bdX12_aYear_132.2.2.2.2.2.2.1
theorem dX12_aYear_143 : decode cX12_aYear 143 = .ok (.iastore, 1) := bdX12_aYear_132.2.2.2.2.2.2.2.1
theorem dX12_aYear_144 : decode cX12_aYear 144 = .ok (.iinc 1 1, 3) := bdX12_aYear_132.2.2.2.2.2.2.2.2.1
theorem dX12_aYear_147 : decode cX12_aYear 147 = .ok (.goto (-145), 3) := bdX12_aYear_132.2.2.2.2.2.2.2.2.2
theorem bdX12_aYear_150 : (decode cX12_aYear 150 = .ok (.aload_n 0, 1)) ∧ (decode cX12_aYear 151 = .ok (.dup, 1)) ∧ (decode cX12_aYear 152 = .ok (.getfield 303, 3)) ∧ (decode cX12_aYear 155 = .ok (.iconst 1, 1)) ∧ (decode cX12_aYear 156 = .ok (.iadd, 1)) ∧ (decode cX12_aYear 157 = .ok (.putfield 303, 3)) ∧ (decode cX12_aYear 160 = .ok (.return_, 1)) := by decide +kernel
theorem dX12_aYear_150 : decode cX12_aYear 150 = .ok (.aload_n 0, 1) := bdX12_aYear_150.1
theorem dX12_aYear_151 : decode cX12_aYear 151 = .ok (.dup, 1) := bdX12_aYear_150.2.1
theorem dX12_aYear_152 : decode cX12_aYear 152 = .ok (.getfield 303, 3) := bdX12_aYear_150.2.2.1
theorem dX12_aYear_155 : decode cX12_aYear 155 = .ok (.iconst 1, 1) := bdX12_aYear_150.2.2.2.1
theorem dX12_aYear_156 : decode cX12_aYear 156 = .ok (.iadd, 1) := bdX12_aYear_150.2.2.2.2.1
theorem dX12_aYear_157 : decode cX12_aYear 157 = .ok (.putfield 303, 3) := bdX12_aYear_150.2.2.2.2.2.1
theorem dX12_aYear_160 : decode cX12_aYear 160 = .ok (.return_, 1) := bdX12_aYear_150.2.2.2.2.2.2
theorem bdX12_goOn_0 : (decode cX12_goOn 0 = .ok (.iconst 0, 1)) ∧ (decode cX12_goOn 1 = .ok (.istore_n 2, 1)) ∧ (decode cX12_goOn 2 = .ok (.iload_n 2, 1)) ∧ (decode cX12_goOn 3 = .ok (.iload_n 1, 1)) ∧ (decode cX12_goOn 4 = .ok (.if_icmp .ge 13, 3)) ∧ (decode cX12_goOn 7 = .ok (.aload_n 0, 1)) ∧ (decode cX12_goOn 8 = .ok (.invokevirtual 368, 3)) ∧ (decode cX12_goOn 11 = .ok (.iinc 2 1, 3)) ∧ (decode cX12_goOn 14 = .ok (.goto (-12), 3)) ∧ (decode cX12_goOn 17 = .ok (.return_, 1)) := by decide +kernel
theorem dX12_goOn_0 : decode cX12_goOn 0 = .ok (.iconst 0, 1) := bdX12_goOn_0.1
theorem dX12_goOn_1 : decode cX12_goOn 1 = .ok (.istore_n 2, 1) := bdX12_goOn_0.2.1
theorem dX12_goOn_2 : decode cX12_goOn 2 = .ok (.iload_n 2, 1) := bdX12_goOn_0.2.2.1
theorem dX12_goOn_3 : decode cX12_goOn 3 = .ok (.iload_n 1, 1) := bdX12_goOn_0.2.2.2.1
theorem dX12_goOn_4 : decode cX12_goOn 4 = .ok (.if_icmp .ge 13, 3) := bdX12_goOn_0.2.2.2.2.1
theorem dX12_goOn_7 : decode cX12_goOn 7 = .ok (.aload_n 0, 1) := bdX12_goOn_0.2.2.2.2.2.1
theorem dX12_goOn_8 : decode cX12_goOn 8 = .ok (.invokevirtual 368, 3) := bdX12_goOn_0.2.2.2.2.2.2.1
theorem dX12_goOn_11 : decode cX12_goOn 11 = .ok (.iinc 2 1, 3) := bdX12_goOn_0.2.2.2.2.2.2.2.1
theorem dX12_goOn_14 : decode cX12_goOn 14 = .ok (.goto (-12), 3) := bdX12_goOn_0.2.2.2.2.2.2.2.2.1
theorem dX12_goOn_17 : decode cX12_goOn 17 = .ok (.return_, 1) := bdX12_goOn_0.2.2.2.2.2.2.2.2.2
theorem bdX12_count_0 : (decode cX12_count 0 = .ok (.aload_n 0, 1)) ∧ (decode cX12_count 1 = .ok (.iconst 0, 1)) ∧ (decode cX12_count 2 = .ok (.putfield 140, 3)) ∧ (decode cX12_count 5 = .ok (.iload_n 1, 1)) ∧ (decode cX12_count 6 = .ok (.tableswitch 164 0 15 #[78, 78, 85, 98, 105, 110, 119, 124, 129, 134, 139, 144, 149, 154, 154, 154], 78)) ∧ (decode cX12_count 84 = .ok (.aload_n 0, 1)) ∧ (decode cX12_count 85 = .ok (.getfield 35, 3)) ∧ (decode cX12_count 88 = .ok (.iload_n 1, 1)) ∧ (decode cX12_count 89 = .ok (.iaload, 1)) ∧ (decode cX12_count 90 = .ok (.ireturn, 1)) := by decide +kernel
theorem dX12_count_0 : decode cX12_count 0 = .ok (.aload_n 0, 1) := bdX12_count_0.1
theorem dX12_count_1 : decode cX12_count 1 = .ok (.iconst 0, 1) := bdX12_count_0.2.1
theorem dX12_count_2 : decode cX12_count 2 = .ok (.putfield 140, 3) := bdX12_count_0.2.2.1
theorem dX12_count_5 : decode cX12_count 5 = .ok (.iload_n 1, 1) := bdX12_count_0.2.2.2.1
theorem dX12_count_6 : decode cX12_count 6 = .ok (.tableswitch 164 0 15 #[78, 78, 85, 98, 105, 110, 119, 124, 129, 134, 139, 144, 149, 154, 154, 154], 78) := bdX12_count_0.2.2.2.2.1
theorem dX12_count_84 : decode cX12_count 84 = .ok (.aload_n 0, 1) := bdX12_count_0.2.2.2.2.2.1
theorem dX12_count_85 : decode cX12_count 85 = .ok (.getfield 35, 3) := bdX12_count_0.2.2.2.2.2.2.1
theorem dX12_count_88 : decode cX12_count 88 = .ok (.iload_n 1, 1) := bdX12_count_0.2.2.2.2.2.2.2.1
theorem dX12_count_89 : decode cX12_count 89 = .ok (.iaload, 1) := bdX12_count_0.2.2.2.2.2.2.2.2.1
theorem dX12_count_90 : decode cX12_count 90 = .ok (.ireturn, 1) := bdX12_count_0.2.2.2.2.2.2.2.2.2
theorem bdX12_count_91 : (decode cX12_count 91 = .ok (.bipush 100, 2)) ∧ (decode cX12_count 93 = .ok (.aload_n 0, 1)) ∧ (decode cX12_count 94 = .ok (.getfield 137, 3)) ∧ (decode cX12_count 97 = .ok (.imul, 1)) ∧ (decode cX12_count 98 = .ok (.aload_n 0, 1)) ∧ (decode cX12_count 99 = .ok (.getfield 134, 3)) ∧ (decode cX12_count 102 = .ok (.iadd, 1)) ∧ (decode cX12_count 103 = .ok (.ireturn, 1)) ∧ (decode cX12_count 104 = .ok (.aload_n 0, 1)) ∧ (decode cX12_count 105 = .ok (.getfield 35, 3)) := by decide +kernel
theorem dX12_count_91 : decode cX12_count 91 = .ok (.bipush 100, 2) := bdX12_count_91.1
theorem dX12_count_93 : decode cX12_count 93 = .ok (.aload_n 0, 1) := bdX12_count_91.2.1
theorem dX12_count_94 : decode cX12_count 94 = .ok (.getfield 137, 3) := bdX12_count_91.2.2.1
theorem dX12_count_97 : decode cX12_count 97 = .ok (.imul, 1) := bdX12_count_91.2.2.2.1
theorem dX12_count_98 : decode cX12_count 98 = .ok (.aload_n 0, 1) := bdX12_count_91.2.2.2.2.1
theorem dX12_count_99 : decode cX12_count 99 = .ok (.getfield 134, 3) := bdX12_count_91.2.2.2.2.2.1
theorem dX12_count_102 : decode cX12_count 102 = .ok (.iadd, 1) := bdX12_count_91.2.2.2.2.2.2.1
theorem dX12_count_103 : decode cX12_count 103 = .ok (.ireturn, 1) := bdX12_count_91.2.2.2.2.2.2.2.1
theorem dX12_count_104 : decode cX12_count 104 = .ok (.aload_n 0, 1) := bdX12_count_91.2.2.2.2.2.2.2.2.1
theorem dX12_count_105 : decode cX12_count 105 = .ok (.getfield 35, 3) := bdX12_count_91.2.2.2.2.2.2.2.2.2
theorem bdX12_count_108 : (decode cX12_count 108 = .ok (.iconst 3, 1)) ∧ (decode cX12_count 109 = .ok (.iaload, 1)) ∧ (decode cX12_count 110 = .ok (.ireturn, 1)) ∧ (decode cX12_count 111 = .ok (.aload_n 0, 1)) ∧ (decode cX12_count 112 = .ok (.getfield 303, 3)) ∧ (decode cX12_count 115 = .ok (.ireturn, 1)) ∧ (decode cX12_count 116 = .ok (.aload_n 0, 1)) ∧ (decode cX12_count 117 = .ok (.aload_n 0, 1)) ∧ (decode cX12_count 118 = .ok (.getfield 303, 3)) ∧ (decode cX12_count 121 = .ok (.invokevirtual 353, 3)) := by decide +kernel
theorem dX12_count_108 : decode cX12_count 108 = .ok (.iconst 3, 1) := bdX12_count_108.1
theorem dX12_count_109 : decode cX12_count 109 = .ok (.iaload, 1) := bdX12_count_108.2.1
theorem dX12_count_110 : decode cX12_count 110 = .ok (.ireturn, 1) := bdX12_count_108.2.2.1
theorem dX12_count_111 : decode cX12_count 111 = .ok (.aload_n 0, 1) := bdX12_count_108.2.2.2.1
theorem dX12_count_112 : decode cX12_count 112 = .ok (.getfield 303, 3) := bdX12_count_108.2.2.2.2.1
theorem dX12_count_115 : decode cX12_count 115 = .ok (.ireturn, 1) := bdX12_count_108.2.2.2.2.2.1
theorem dX12_count_116 : decode cX12_count 116 = .ok (.aload_n 0, 1) := bdX12_count_108.2.2.2.2.2.2.1
theorem dX12_count_117 : decode cX12_count 117 = .ok (.aload_n 0, 1) := bdX12_count_108.2.2.2.2.2.2.2.1
theorem dX12_count_118 : decode cX12_count 118 = .ok (.getfield 303, 3) := bdX12_count_108.2.2.2.2.2.2.2.2.1
theorem dX12_count_121 : decode cX12_count 121 = .ok (.invokevirtual 353, 3) := bdX12_count_108.2.2.2.2.2.2.2.2.2
theorem bdX12_count_124 : (decode cX12_count 124 = .ok (.ireturn, 1)) ∧ (decode cX12_count 125 = .ok (.aload_n 0, 1)) ∧ (decode cX12_count 126 = .ok (.getfield 305, 3)) ∧ (decode cX12_count 129 = .ok (.ireturn, 1)) ∧ (decode cX12_count 130 = .ok (.aload_n 0, 1)) ∧ (decode cX12_count 131 = .ok (.getfield 308, 3)) ∧ (decode cX12_count 134 = .ok (.ireturn, 1)) ∧ (decode cX12_count 135 = .ok (.aload_n 0, 1)) ∧ (decode cX12_count 136 = .ok (.getfield 311, 3)) ∧ (decode cX12_count 139 = .ok (.ireturn, 1)) := by decide +kernel
theorem dX12_count_124 : decode cX12_count 124 = .ok (.ireturn, 1) := bdX12_count_124.1
theorem dX12_count_125 : decode cX12_count 125 = .ok (.aload_n 0, 1) := bdX12_count_124.2.1
theorem dX12_count_126 : decode cX12_count 126 = .ok (.getfield 305, 3) := bdX12_count_124.2.2.1
theorem dX12_count_129 : decode cX12_count 129 = .ok (.ireturn, 1) := bdX12_count_124.2.2.2.1
theorem dX12_count_130 : decode cX12_count 130 = .ok (.aload_n 0, 1) := bdX12_count_124.2.2.2.2.1
theorem dX12_count_131 : decode cX12_count 131 = .ok (.getfield 308, 3) := bdX12_count_124.2.2.2.2.2.1
theorem dX12_count_134 : decode cX12_count 134 = .ok (.ireturn, 1) := bdX12_count_124.2.2.2.2.2.2.1
theorem dX12_count_135 : decode cX12_count 135 = .ok (.aload_n 0, 1) := bdX12_count_124.2.2.2.2.2.2.2.1
theorem dX12_count_136 : decode cX12_count 136 = .ok (.getfield 311, 3) := bdX12_count_124.2.2.2.2.2.2.2.2.1
theorem dX12_count_139 : decode cX12_count 139 = .ok (.ireturn, 1) := bdX12_count_124.2.2.2.2.2.2.2.2.2
theorem bdX12_count_140 : (decode cX12_count 140 = .ok (.aload_n 0, 1)) ∧ (decode cX12_count 141 = .ok (.getfield 314, 3)) ∧ (decode cX12_count 144 = .ok (.ireturn, 1)) ∧ (decode cX12_count 145 = .ok (.aload_n 0, 1)) ∧ (decode cX12_count 146 = .ok (.getfield 320, 3)) ∧ (decode cX12_count 149 = .ok (.ireturn, 1)) ∧ (decode cX12_count 150 = .ok (.aload_n 0, 1)) ∧ (decode cX12_count 151 = .ok (.getfield 323, 3)) ∧ (decode cX12_count 154 = .ok (.ireturn, 1)) ∧ (decode cX12_count 155 = .ok (.aload_n 0, 1)) := by decide +kernel
theorem dX12_count_140 : decode cX12_count 140 = .ok (.aload_n 0, 1) := bdX12_count_140.1
theorem dX12_count_141 : decode cX12_count 141 = .ok (.getfield 314, 3) := bdX12_count_140.2.1
theorem dX12_count_144 : decode cX12_count 144 = .ok (.ireturn, 1) := bdX12_count_140.2.2.1
theorem dX12_count_145 : decode cX12_count 145 = .ok (.aload_n 0, 1) := bdX12_count_140.2.2.2.1
theorem dX12_count_146 : decode cX12_count 146 = .ok (.getfield 320, 3) := bdX12_count_140.2.2.2.2.1
theorem dX12_count_149 : decode cX12_count 149 = .ok (.ireturn, 1) := bdX12_count_140.2.2.2.2.2.1
theorem dX12_count_150 : decode cX12_count 150 = .ok (.aload_n 0, 1) := bdX12_count_140.2.2.2.2.2.2.1
theorem dX12_count_151 : decode cX12_count 151 = .ok (.getfield 323, 3) := bdX12_count_140.2.2.2.2.2.2.2.1
theorem dX12_count_154 : decode cX12_count 154 = .ok (.ireturn, 1) := bdX12_count_140.2.2.2.2.2.2.2.2.1
theorem dX12_count_155 : decode cX12_count 155 = .ok (.aload_n 0, 1) := bdX12_count_140.2.2.2.2.2.2.2.2.2
theorem bdX12_count_156 : (decode cX12_count 156 = .ok (.getfield 147, 3)) ∧ (decode cX12_count 159 = .ok (.ireturn, 1)) ∧ (decode cX12_count 160 = .ok (.aload_n 0, 1)) ∧ (decode cX12_count 161 = .ok (.getfield 63, 3)) ∧ (decode cX12_count 164 = .ok (.iload_n 1, 1)) ∧ (decode cX12_count 165 = .ok (.bipush 13, 2)) ∧ (decode cX12_count 167 = .ok (.isub, 1)) ∧ (decode cX12_count 168 = .ok (.iaload, 1)) ∧ (decode cX12_count 169 = .ok (.ireturn, 1)) ∧ (decode cX12_count 170 = .ok (.aload_n 0, 1)) := by decide +kernel
theorem dX12_count_156 : decode cX12_count 156 = .ok (.getfield 147, 3) := bdX12_count_156.1
theorem dX12_count_159 : decode cX12_count 159 = .ok (.ireturn, 1) := bdX12_count_156.2.1
theorem dX12_count_160 : decode cX12_count 160 = .ok (.aload_n 0, 1) := bdX12_count_156.2.2.1
theorem dX12_count_161 : decode cX12_count 161 = .ok (.getfield 63, 3) := bdX12_count_156.2.2.2.1
theorem dX12_count_164 : decode cX12_count 164 = .ok (.iload_n 1, 1) := bdX12_count_156.2.2.2.2.1
theorem dX12_count_165 : decode cX12_count 165 = .ok (.bipush 13, 2) := bdX12_count_156.2.2.2.2.2.1
theorem dX12_count_167 : decode cX12_count 167 = .ok (.isub, 1) := bdX12_count_156.2.2.2.2.2.2.1
theorem dX12_count_168 : decode cX12_count 168 = .ok (.iaload, 1) := bdX12_count_156.2.2.2.2.2.2.2.1
theorem dX12_count_169 : decode cX12_count 169 = .ok (.ireturn, 1) := bdX12_count_156.2.2.2.2.2.2.2.2.1
theorem dX12_count_170 : decode cX12_count 170 = .ok (.aload_n 0, 1) := bdX12_count_156.2.2.2.2.2.2.2.2.2
theorem bdX12_count_171 : (decode cX12_count 171 = .ok (.iconst 1, 1)) ∧ (decode cX12_count 172 = .ok (.invokevirtual 290, 3)) ∧ (decode cX12_count 175 = .ok (.ireturn, 1)) := by decide +kernel
theorem dX12_count_171 : decode cX12_count 171 = .ok (.iconst 1, 1) := bdX12_count_171.1
theorem dX12_count_172 : decode cX12_count 172 = .ok (.invokevirtual 290, 3) := bdX12_count_171.2.1
theorem dX12_count_175 : decode cX12_count 175 = .ok (.ireturn, 1) := bdX12_count_171.2.2
theorem bdX12_placeOf_0 : (decode cX12_placeOf 0 = .ok (.iconst 0, 1)) ∧ (decode cX12_placeOf 1 = .ok (.istore_n 2, 1)) ∧ (decode cX12_placeOf 2 = .ok (.aload_n 0, 1)) ∧ (decode cX12_placeOf 3 = .ok (.getfield 79, 3)) ∧ (decode cX12_placeOf 6 = .ok (.iload_n 2, 1)) ∧ (decode cX12_placeOf 7 = .ok (.iaload, 1)) ∧ (decode cX12_placeOf 8 = .ok (.iload_n 1, 1)) ∧ (decode cX12_placeOf 9 = .ok (.if_icmp .eq 9, 3)) ∧ (decode cX12_placeOf 12 = .ok (.iinc 2 1, 3)) ∧ (decode cX12_placeOf 15 = .ok (.goto (-13), 3)) := by decide +kernel
theorem dX12_placeOf_0 : decode cX12_placeOf 0 = .ok (.iconst 0, 1) := bdX12_placeOf_0.1
theorem dX12_placeOf_1 : decode cX12_placeOf 1 = .ok (.istore_n 2, 1) := bdX12_placeOf_0.2.1
theorem dX12_placeOf_2 : decode cX12_placeOf 2 = .ok (.aload_n 0, 1) := bdX12_placeOf_0.2.2.1
theorem dX12_placeOf_3 : decode cX12_placeOf 3 = .ok (.getfield 79, 3) := bdX12_placeOf_0.2.2.2.1
theorem dX12_placeOf_6 : decode cX12_placeOf 6 = .ok (.iload_n 2, 1) := bdX12_placeOf_0.2.2.2.2.1
theorem dX12_placeOf_7 : decode cX12_placeOf 7 = .ok (.iaload, 1) := bdX12_placeOf_0.2.2.2.2.2.1
theorem dX12_placeOf_8 : decode cX12_placeOf 8 = .ok (.iload_n 1, 1) := bdX12_placeOf_0.2.2.2.2.2.2.1
theorem dX12_placeOf_9 : decode cX12_placeOf 9 = .ok (.if_icmp .eq 9, 3) := bdX12_placeOf_0.2.2.2.2.2.2.2.1
theorem dX12_placeOf_12 : decode cX12_placeOf 12 = .ok (.iinc 2 1, 3) := bdX12_placeOf_0.2.2.2.2.2.2.2.2.1
theorem dX12_placeOf_15 : decode cX12_placeOf 15 = .ok (.goto (-13), 3) := bdX12_placeOf_0.2.2.2.2.2.2.2.2.2
theorem bdX12_placeOf_18 : (decode cX12_placeOf 18 = .ok (.iload_n 2, 1)) ∧ (decode cX12_placeOf 19 = .ok (.ireturn, 1)) := by decide +kernel
theorem dX12_placeOf_18 : decode cX12_placeOf 18 = .ok (.iload_n 2, 1) := bdX12_placeOf_18.1
theorem dX12_placeOf_19 : decode cX12_placeOf 19 = .ok (.ireturn, 1) := bdX12_placeOf_18.2
theorem bdX12_envyOf_0 : (decode cX12_envyOf 0 = .ok (.iconst 0, 1)) ∧ (decode cX12_envyOf 1 = .ok (.istore_n 2, 1)) ∧ (decode cX12_envyOf 2 = .ok (.iconst 0, 1)) ∧ (decode cX12_envyOf 3 = .ok (.istore_n 3, 1)) ∧ (decode cX12_envyOf 4 = .ok (.iload_n 3, 1)) ∧ (decode cX12_envyOf 5 = .ok (.aload_n 0, 1)) ∧ (decode cX12_envyOf 6 = .ok (.getfield 35, 3)) ∧ (decode cX12_envyOf 9 = .ok (.iconst 0, 1)) ∧ (decode cX12_envyOf 10 = .ok (.iaload, 1)) ∧ (decode cX12_envyOf 11 = .ok (.if_icmp .ge 72, 3)) := by decide +kernel
theorem dX12_envyOf_0 : decode cX12_envyOf 0 = .ok (.iconst 0, 1) := bdX12_envyOf_0.1
theorem dX12_envyOf_1 : decode cX12_envyOf 1 = .ok (.istore_n 2, 1) := bdX12_envyOf_0.2.1
theorem dX12_envyOf_2 : decode cX12_envyOf 2 = .ok (.iconst 0, 1) := bdX12_envyOf_0.2.2.1
theorem dX12_envyOf_3 : decode cX12_envyOf 3 = .ok (.istore_n 3, 1) := bdX12_envyOf_0.2.2.2.1
theorem dX12_envyOf_4 : decode cX12_envyOf 4 = .ok (.iload_n 3, 1) := bdX12_envyOf_0.2.2.2.2.1
theorem dX12_envyOf_5 : decode cX12_envyOf 5 = .ok (.aload_n 0, 1) := bdX12_envyOf_0.2.2.2.2.2.1
theorem dX12_envyOf_6 : decode cX12_envyOf 6 = .ok (.getfield 35, 3) := bdX12_envyOf_0.2.2.2.2.2.2.1
theorem dX12_envyOf_9 : decode cX12_envyOf 9 = .ok (.iconst 0, 1) := bdX12_envyOf_0.2.2.2.2.2.2.2.1
theorem dX12_envyOf_10 : decode cX12_envyOf 10 = .ok (.iaload, 1) := bdX12_envyOf_0.2.2.2.2.2.2.2.2.1
theorem dX12_envyOf_11 : decode cX12_envyOf 11 = .ok (.if_icmp .ge 72, 3) := bdX12_envyOf_0.2.2.2.2.2.2.2.2.2
theorem bdX12_envyOf_14 : (decode cX12_envyOf 14 = .ok (.iload_n 3, 1)) ∧ (decode cX12_envyOf 15 = .ok (.iload_n 1, 1)) ∧ (decode cX12_envyOf 16 = .ok (.if_icmp .eq 61, 3)) ∧ (decode cX12_envyOf 19 = .ok (.aload_n 0, 1)) ∧ (decode cX12_envyOf 20 = .ok (.getfield 76, 3)) ∧ (decode cX12_envyOf 23 = .ok (.iload_n 3, 1)) ∧ (decode cX12_envyOf 24 = .ok (.iaload, 1)) ∧ (decode cX12_envyOf 25 = .ok (.iconst (-1), 1)) ∧ (decode cX12_envyOf 26 = .ok (.if_icmp .ne 6, 3)) ∧ (decode cX12_envyOf 29 = .ok (.goto 48, 3)) := by decide +kernel
theorem dX12_envyOf_14 : decode cX12_envyOf 14 = .ok (.iload_n 3, 1) := bdX12_envyOf_14.1
theorem dX12_envyOf_15 : decode cX12_envyOf 15 = .ok (.iload_n 1, 1) := bdX12_envyOf_14.2.1
theorem dX12_envyOf_16 : decode cX12_envyOf 16 = .ok (.if_icmp .eq 61, 3) := bdX12_envyOf_14.2.2.1
theorem dX12_envyOf_19 : decode cX12_envyOf 19 = .ok (.aload_n 0, 1) := bdX12_envyOf_14.2.2.2.1
theorem dX12_envyOf_20 : decode cX12_envyOf 20 = .ok (.getfield 76, 3) := bdX12_envyOf_14.2.2.2.2.1
theorem dX12_envyOf_23 : decode cX12_envyOf 23 = .ok (.iload_n 3, 1) := bdX12_envyOf_14.2.2.2.2.2.1
theorem dX12_envyOf_24 : decode cX12_envyOf 24 = .ok (.iaload, 1) := bdX12_envyOf_14.2.2.2.2.2.2.1
theorem dX12_envyOf_25 : decode cX12_envyOf 25 = .ok (.iconst (-1), 1) := bdX12_envyOf_14.2.2.2.2.2.2.2.1
theorem dX12_envyOf_26 : decode cX12_envyOf 26 = .ok (.if_icmp .ne 6, 3) := bdX12_envyOf_14.2.2.2.2.2.2.2.2.1
theorem dX12_envyOf_29 : decode cX12_envyOf 29 = .ok (.goto 48, 3) := bdX12_envyOf_14.2.2.2.2.2.2.2.2.2
theorem bdX12_envyOf_32 : (decode cX12_envyOf 32 = .ok (.iload_n 2, 1)) ∧ (decode cX12_envyOf 33 = .ok (.aload_n 0, 1)) ∧ (decode cX12_envyOf 34 = .ok (.getfield 76, 3)) ∧ (decode cX12_envyOf 37 = .ok (.iload_n 1, 1)) ∧ (decode cX12_envyOf 38 = .ok (.iaload, 1)) ∧ (decode cX12_envyOf 39 = .ok (.iconst (-1), 1)) ∧ (decode cX12_envyOf 40 = .ok (.if_icmp .eq 28, 3)) ∧ (decode cX12_envyOf 43 = .ok (.aload_n 0, 1)) ∧ (decode cX12_envyOf 44 = .ok (.iload_n 1, 1)) ∧ (decode cX12_envyOf 45 = .ok (.aload_n 0, 1)) := by decide +kernel
theorem dX12_envyOf_32 : decode cX12_envyOf 32 = .ok (.iload_n 2, 1) := bdX12_envyOf_32.1
theorem dX12_envyOf_33 : decode cX12_envyOf 33 = .ok (.aload_n 0, 1) := bdX12_envyOf_32.2.1
theorem dX12_envyOf_34 : decode cX12_envyOf 34 = .ok (.getfield 76, 3) := bdX12_envyOf_32.2.2.1
theorem dX12_envyOf_37 : decode cX12_envyOf 37 = .ok (.iload_n 1, 1) := bdX12_envyOf_32.2.2.2.1
theorem dX12_envyOf_38 : decode cX12_envyOf 38 = .ok (.iaload, 1) := bdX12_envyOf_32.2.2.2.2.1
theorem dX12_envyOf_39 : decode cX12_envyOf 39 = .ok (.iconst (-1), 1) := bdX12_envyOf_32.2.2.2.2.2.1
theorem dX12_envyOf_40 : decode cX12_envyOf 40 = .ok (.if_icmp .eq 28, 3) := bdX12_envyOf_32.2.2.2.2.2.2.1
theorem dX12_envyOf_43 : decode cX12_envyOf 43 = .ok (.aload_n 0, 1) := bdX12_envyOf_32.2.2.2.2.2.2.2.1
theorem dX12_envyOf_44 : decode cX12_envyOf 44 = .ok (.iload_n 1, 1) := bdX12_envyOf_32.2.2.2.2.2.2.2.2.1
theorem dX12_envyOf_45 : decode cX12_envyOf 45 = .ok (.aload_n 0, 1) := bdX12_envyOf_32.2.2.2.2.2.2.2.2.2
theorem bdX12_envyOf_46 : (decode cX12_envyOf 46 = .ok (.getfield 76, 3)) ∧ (decode cX12_envyOf 49 = .ok (.iload_n 3, 1)) ∧ (decode cX12_envyOf 50 = .ok (.iaload, 1)) ∧ (decode cX12_envyOf 51 = .ok (.invokevirtual 362, 3)) ∧ (decode cX12_envyOf 54 = .ok (.aload_n 0, 1)) ∧ (decode cX12_envyOf 55 = .ok (.iload_n 1, 1)) ∧ (decode cX12_envyOf 56 = .ok (.aload_n 0, 1)) ∧ (decode cX12_envyOf 57 = .ok (.getfield 76, 3)) ∧ (decode cX12_envyOf 60 = .ok (.iload_n 1, 1)) ∧ (decode cX12_envyOf 61 = .ok (.iaload, 1)) := by decide +kernel
theorem dX12_envyOf_46 : decode cX12_envyOf 46 = .ok (.getfield 76, 3) := bdX12_envyOf_46.1
theorem dX12_envyOf_49 : decode cX12_envyOf 49 = .ok (.iload_n 3, 1) := bdX12_envyOf_46.2.1
theorem dX12_envyOf_50 : decode cX12_envyOf 50 = .ok (.iaload, 1) := bdX12_envyOf_46.2.2.1
theorem dX12_envyOf_51 : decode cX12_envyOf 51 = .ok (.invokevirtual 362, 3) := bdX12_envyOf_46.2.2.2.1
theorem dX12_envyOf_54 : decode cX12_envyOf 54 = .ok (.aload_n 0, 1) := bdX12_envyOf_46.2.2.2.2.1
theorem dX12_envyOf_55 : decode cX12_envyOf 55 = .ok (.iload_n 1, 1) := bdX12_envyOf_46.2.2.2.2.2.1
theorem dX12_envyOf_56 : decode cX12_envyOf 56 = .ok (.aload_n 0, 1) := bdX12_envyOf_46.2.2.2.2.2.2.1
theorem dX12_envyOf_57 : decode cX12_envyOf 57 = .ok (.getfield 76, 3) := bdX12_envyOf_46.2.2.2.2.2.2.2.1
theorem dX12_envyOf_60 : decode cX12_envyOf 60 = .ok (.iload_n 1, 1) := bdX12_envyOf_46.2.2.2.2.2.2.2.2.1
theorem dX12_envyOf_61 : decode cX12_envyOf 61 = .ok (.iaload, 1) := bdX12_envyOf_46.2.2.2.2.2.2.2.2.2
theorem bdX12_envyOf_62 : (decode cX12_envyOf 62 = .ok (.invokevirtual 362, 3)) ∧ (decode cX12_envyOf 65 = .ok (.if_icmp .le 9, 3)) ∧ (decode cX12_envyOf 68 = .ok (.iconst 1, 1)) ∧ (decode cX12_envyOf 69 = .ok (.iload_n 3, 1)) ∧ (decode cX12_envyOf 70 = .ok (.ishl, 1)) ∧ (decode cX12_envyOf 71 = .ok (.goto 4, 3)) ∧ (decode cX12_envyOf 74 = .ok (.iconst 0, 1)) ∧ (decode cX12_envyOf 75 = .ok (.ior, 1)) ∧ (decode cX12_envyOf 76 = .ok (.istore_n 2, 1)) ∧ (decode cX12_envyOf 77 = .ok (.iinc 3 1, 3)) := by decide +kernel
theorem dX12_envyOf_62 : decode cX12_envyOf 62 = .ok (.invokevirtual 362, 3) := bdX12_envyOf_62.1
theorem dX12_envyOf_65 : decode cX12_envyOf 65 = .ok (.if_icmp .le 9, 3) := bdX12_envyOf_62.2.1
theorem dX12_envyOf_68 : decode cX12_envyOf 68 = .ok (.iconst 1, 1) := bdX12_envyOf_62.2.2.1
theorem dX12_envyOf_69 : decode cX12_envyOf 69 = .ok (.iload_n 3, 1) := bdX12_envyOf_62.2.2.2.1
theorem dX12_envyOf_70 : decode cX12_envyOf 70 = .ok (.ishl, 1) := bdX12_envyOf_62.2.2.2.2.1
theorem dX12_envyOf_71 : decode cX12_envyOf 71 = .ok (.goto 4, 3) := bdX12_envyOf_62.2.2.2.2.2.1
theorem dX12_envyOf_74 : decode cX12_envyOf 74 = .ok (.iconst 0, 1) := bdX12_envyOf_62.2.2.2.2.2.2.1
theorem dX12_envyOf_75 : decode cX12_envyOf 75 = .ok (.ior, 1) := bdX12_envyOf_62.2.2.2.2.2.2.2.1
theorem dX12_envyOf_76 : decode cX12_envyOf 76 = .ok (.istore_n 2, 1) := bdX12_envyOf_62.2.2.2.2.2.2.2.2.1
theorem dX12_envyOf_77 : decode cX12_envyOf 77 = .ok (.iinc 3 1, 3) := bdX12_envyOf_62.2.2.2.2.2.2.2.2.2
theorem bdX12_envyOf_80 : (decode cX12_envyOf 80 = .ok (.goto (-76), 3)) ∧ (decode cX12_envyOf 83 = .ok (.iload_n 2, 1)) ∧ (decode cX12_envyOf 84 = .ok (.ireturn, 1)) := by decide +kernel
theorem dX12_envyOf_80 : decode cX12_envyOf 80 = .ok (.goto (-76), 3) := bdX12_envyOf_80.1
theorem dX12_envyOf_83 : decode cX12_envyOf 83 = .ok (.iload_n 2, 1) := bdX12_envyOf_80.2.1
theorem dX12_envyOf_84 : decode cX12_envyOf 84 = .ok (.ireturn, 1) := bdX12_envyOf_80.2.2
theorem bdX12_house_0 : (decode cX12_house 0 = .ok (.aload_n 0, 1)) ∧ (decode cX12_house 1 = .ok (.iconst 0, 1)) ∧ (decode cX12_house 2 = .ok (.putfield 140, 3)) ∧ (decode cX12_house 5 = .ok (.aload_n 0, 1)) ∧ (decode cX12_house 6 = .ok (.iload_n 1, 1)) ∧ (decode cX12_house 7 = .ok (.invokevirtual 371, 3)) ∧ (decode cX12_house 10 = .ok (.ifCond .ne 9, 3)) ∧ (decode cX12_house 13 = .ok (.aload_n 0, 1)) ∧ (decode cX12_house 14 = .ok (.iconst 1, 1)) ∧ (decode cX12_house 15 = .ok (.invokevirtual 290, 3)) := by decide +kernel
theorem dX12_house_0 : decode cX12_house 0 = .ok (.aload_n 0, 1) := bdX12_house_0.1
theorem dX12_house_1 : decode cX12_house 1 = .ok (.iconst 0, 1) := bdX12_house_0.2.1
theorem dX12_house_2 : decode cX12_house 2 = .ok (.putfield 140, 3) := bdX12_house_0.2.2.1
theorem dX12_house_5 : decode cX12_house 5 = .ok (.aload_n 0, 1) := bdX12_house_0.2.2.2.1
theorem dX12_house_6 : decode cX12_house 6 = .ok (.iload_n 1, 1) := bdX12_house_0.2.2.2.2.1
theorem dX12_house_7 : decode cX12_house 7 = .ok (.invokevirtual 371, 3) := bdX12_house_0.2.2.2.2.2.1
theorem dX12_house_10 : decode cX12_house 10 = .ok (.ifCond .ne 9, 3) := bdX12_house_0.2.2.2.2.2.2.1
theorem dX12_house_13 : decode cX12_house 13 = .ok (.aload_n 0, 1) := bdX12_house_0.2.2.2.2.2.2.2.1
theorem dX12_house_14 : decode cX12_house 14 = .ok (.iconst 1, 1) := bdX12_house_0.2.2.2.2.2.2.2.2.1
theorem dX12_house_15 : decode cX12_house 15 = .ok (.invokevirtual 290, 3) := bdX12_house_0.2.2.2.2.2.2.2.2.2
theorem bdX12_house_18 : (decode cX12_house 18 = .ok (.ireturn, 1)) ∧ (decode cX12_house 19 = .ok (.iload_n 2, 1)) ∧ (decode cX12_house 20 = .ok (.tableswitch 104 0 7 #[48, 55, 62, 69, 78, 85, 92, 98], 48)) ∧ (decode cX12_house 68 = .ok (.aload_n 0, 1)) ∧ (decode cX12_house 69 = .ok (.getfield 39, 3)) ∧ (decode cX12_house 72 = .ok (.iload_n 1, 1)) ∧ (decode cX12_house 73 = .ok (.iaload, 1)) ∧ (decode cX12_house 74 = .ok (.ireturn, 1)) ∧ (decode cX12_house 75 = .ok (.aload_n 0, 1)) ∧ (decode cX12_house 76 = .ok (.getfield 42, 3)) := by decide +kernel
theorem dX12_house_18 : decode cX12_house 18 = .ok (.ireturn, 1) := bdX12_house_18.1
theorem dX12_house_19 : decode cX12_house 19 = .ok (.iload_n 2, 1) := bdX12_house_18.2.1
theorem dX12_house_20 : decode cX12_house 20 = .ok (.tableswitch 104 0 7 #[48, 55, 62, 69, 78, 85, 92, 98], 48) := bdX12_house_18.2.2.1
theorem dX12_house_68 : decode cX12_house 68 = .ok (.aload_n 0, 1) := bdX12_house_18.2.2.2.1
theorem dX12_house_69 : decode cX12_house 69 = .ok (.getfield 39, 3) := bdX12_house_18.2.2.2.2.1
theorem dX12_house_72 : decode cX12_house 72 = .ok (.iload_n 1, 1) := bdX12_house_18.2.2.2.2.2.1
theorem dX12_house_73 : decode cX12_house 73 = .ok (.iaload, 1) := bdX12_house_18.2.2.2.2.2.2.1
theorem dX12_house_74 : decode cX12_house 74 = .ok (.ireturn, 1) := bdX12_house_18.2.2.2.2.2.2.2.1
theorem dX12_house_75 : decode cX12_house 75 = .ok (.aload_n 0, 1) := bdX12_house_18.2.2.2.2.2.2.2.2.1
theorem dX12_house_76 : decode cX12_house 76 = .ok (.getfield 42, 3) := bdX12_house_18.2.2.2.2.2.2.2.2.2
theorem bdX12_house_79 : (decode cX12_house 79 = .ok (.iload_n 1, 1)) ∧ (decode cX12_house 80 = .ok (.iaload, 1)) ∧ (decode cX12_house 81 = .ok (.ireturn, 1)) ∧ (decode cX12_house 82 = .ok (.aload_n 0, 1)) ∧ (decode cX12_house 83 = .ok (.getfield 44, 3)) ∧ (decode cX12_house 86 = .ok (.iload_n 1, 1)) ∧ (decode cX12_house 87 = .ok (.iaload, 1)) ∧ (decode cX12_house 88 = .ok (.ireturn, 1)) ∧ (decode cX12_house 89 = .ok (.aload_n 0, 1)) ∧ (decode cX12_house 90 = .ok (.getfield 314, 3)) := by decide +kernel
theorem dX12_house_79 : decode cX12_house 79 = .ok (.iload_n 1, 1) := bdX12_house_79.1
theorem dX12_house_80 : decode cX12_house 80 = .ok (.iaload, 1) := bdX12_house_79.2.1
theorem dX12_house_81 : decode cX12_house 81 = .ok (.ireturn, 1) := bdX12_house_79.2.2.1
theorem dX12_house_82 : decode cX12_house 82 = .ok (.aload_n 0, 1) := bdX12_house_79.2.2.2.1
theorem dX12_house_83 : decode cX12_house 83 = .ok (.getfield 44, 3) := bdX12_house_79.2.2.2.2.1
theorem dX12_house_86 : decode cX12_house 86 = .ok (.iload_n 1, 1) := bdX12_house_79.2.2.2.2.2.1
theorem dX12_house_87 : decode cX12_house 87 = .ok (.iaload, 1) := bdX12_house_79.2.2.2.2.2.2.1
theorem dX12_house_88 : decode cX12_house 88 = .ok (.ireturn, 1) := bdX12_house_79.2.2.2.2.2.2.2.1
theorem dX12_house_89 : decode cX12_house 89 = .ok (.aload_n 0, 1) := bdX12_house_79.2.2.2.2.2.2.2.2.1
theorem dX12_house_90 : decode cX12_house 90 = .ok (.getfield 314, 3) := bdX12_house_79.2.2.2.2.2.2.2.2.2
theorem bdX12_house_93 : (decode cX12_house 93 = .ok (.iload_n 1, 1)) ∧ (decode cX12_house 94 = .ok (.ishr, 1)) ∧ (decode cX12_house 95 = .ok (.iconst 1, 1)) ∧ (decode cX12_house 96 = .ok (.iand, 1)) ∧ (decode cX12_house 97 = .ok (.ireturn, 1)) ∧ (decode cX12_house 98 = .ok (.aload_n 0, 1)) ∧ (decode cX12_house 99 = .ok (.getfield 76, 3)) ∧ (decode cX12_house 102 = .ok (.iload_n 1, 1)) ∧ (decode cX12_house 103 = .ok (.iaload, 1)) ∧ (decode cX12_house 104 = .ok (.ireturn, 1)) := by decide +kernel
theorem dX12_house_93 : decode cX12_house 93 = .ok (.iload_n 1, 1) := bdX12_house_93.1
theorem dX12_house_94 : decode cX12_house 94 = .ok (.ishr, 1) := bdX12_house_93.2.1
theorem dX12_house_95 : decode cX12_house 95 = .ok (.iconst 1, 1) := bdX12_house_93.2.2.1
theorem dX12_house_96 : decode cX12_house 96 = .ok (.iand, 1) := bdX12_house_93.2.2.2.1
theorem dX12_house_97 : decode cX12_house 97 = .ok (.ireturn, 1) := bdX12_house_93.2.2.2.2.1
theorem dX12_house_98 : decode cX12_house 98 = .ok (.aload_n 0, 1) := bdX12_house_93.2.2.2.2.2.1
theorem dX12_house_99 : decode cX12_house 99 = .ok (.getfield 76, 3) := bdX12_house_93.2.2.2.2.2.2.1
theorem dX12_house_102 : decode cX12_house 102 = .ok (.iload_n 1, 1) := bdX12_house_93.2.2.2.2.2.2.2.1
theorem dX12_house_103 : decode cX12_house 103 = .ok (.iaload, 1) := bdX12_house_93.2.2.2.2.2.2.2.2.1
theorem dX12_house_104 : decode cX12_house 104 = .ok (.ireturn, 1) := bdX12_house_93.2.2.2.2.2.2.2.2.2
theorem bdX12_house_105 : (decode cX12_house 105 = .ok (.aload_n 0, 1)) ∧ (decode cX12_house 106 = .ok (.getfield 73, 3)) ∧ (decode cX12_house 109 = .ok (.iload_n 1, 1)) ∧ (decode cX12_house 110 = .ok (.iaload, 1)) ∧ (decode cX12_house 111 = .ok (.ireturn, 1)) ∧ (decode cX12_house 112 = .ok (.aload_n 0, 1)) ∧ (decode cX12_house 113 = .ok (.iload_n 1, 1)) ∧ (decode cX12_house 114 = .ok (.invokevirtual 374, 3)) ∧ (decode cX12_house 117 = .ok (.ireturn, 1)) ∧ (decode cX12_house 118 = .ok (.aload_n 0, 1)) := by decide +kernel
theorem dX12_house_105 : decode cX12_house 105 = .ok (.aload_n 0, 1) := bdX12_house_105.1
theorem dX12_house_106 : decode cX12_house 106 = .ok (.getfield 73, 3) := bdX12_house_105.2.1
theorem dX12_house_109 : decode cX12_house 109 = .ok (.iload_n 1, 1) := bdX12_house_105.2.2.1
theorem dX12_house_110 : decode cX12_house 110 = .ok (.iaload, 1) := bdX12_house_105.2.2.2.1
theorem dX12_house_111 : decode cX12_house 111 = .ok (.ireturn, 1) := bdX12_house_105.2.2.2.2.1
theorem dX12_house_112 : decode cX12_house 112 = .ok (.aload_n 0, 1) := bdX12_house_105.2.2.2.2.2.1
theorem dX12_house_113 : decode cX12_house 113 = .ok (.iload_n 1, 1) := bdX12_house_105.2.2.2.2.2.2.1
theorem dX12_house_114 : decode cX12_house 114 = .ok (.invokevirtual 374, 3) := bdX12_house_105.2.2.2.2.2.2.2.1
theorem dX12_house_117 : decode cX12_house 117 = .ok (.ireturn, 1) := bdX12_house_105.2.2.2.2.2.2.2.2.1
theorem dX12_house_118 : decode cX12_house 118 = .ok (.aload_n 0, 1) := bdX12_house_105.2.2.2.2.2.2.2.2.2
theorem bdX12_house_119 : (decode cX12_house 119 = .ok (.iload_n 1, 1)) ∧ (decode cX12_house 120 = .ok (.invokevirtual 377, 3)) ∧ (decode cX12_house 123 = .ok (.ireturn, 1)) ∧ (decode cX12_house 124 = .ok (.aload_n 0, 1)) ∧ (decode cX12_house 125 = .ok (.iconst 1, 1)) ∧ (decode cX12_house 126 = .ok (.invokevirtual 290, 3)) ∧ (decode cX12_house 129 = .ok (.ireturn, 1)) := by decide +kernel
theorem dX12_house_119 : decode cX12_house 119 = .ok (.iload_n 1, 1) := bdX12_house_119.1
theorem dX12_house_120 : decode cX12_house 120 = .ok (.invokevirtual 377, 3) := bdX12_house_119.2.1
theorem dX12_house_123 : decode cX12_house 123 = .ok (.ireturn, 1) := bdX12_house_119.2.2.1
theorem dX12_house_124 : decode cX12_house 124 = .ok (.aload_n 0, 1) := bdX12_house_119.2.2.2.1
theorem dX12_house_125 : decode cX12_house 125 = .ok (.iconst 1, 1) := bdX12_house_119.2.2.2.2.1
theorem dX12_house_126 : decode cX12_house 126 = .ok (.invokevirtual 290, 3) := bdX12_house_119.2.2.2.2.2.1
theorem dX12_house_129 : decode cX12_house 129 = .ok (.ireturn, 1) := bdX12_house_119.2.2.2.2.2.2
theorem bdX12_plot_0 : (decode cX12_plot 0 = .ok (.aload_n 0, 1)) ∧ (decode cX12_plot 1 = .ok (.iconst 0, 1)) ∧ (decode cX12_plot 2 = .ok (.putfield 140, 3)) ∧ (decode cX12_plot 5 = .ok (.aload_n 0, 1)) ∧ (decode cX12_plot 6 = .ok (.iload_n 1, 1)) ∧ (decode cX12_plot 7 = .ok (.invokevirtual 380, 3)) ∧ (decode cX12_plot 10 = .ok (.ifCond .eq 15, 3)) ∧ (decode cX12_plot 13 = .ok (.iload_n 2, 1)) ∧ (decode cX12_plot 14 = .ok (.i2l, 1)) ∧ (decode cX12_plot 15 = .ok (.lconst 0, 1)) := by decide +kernel
theorem dX12_plot_0 : decode cX12_plot 0 = .ok (.aload_n 0, 1) := bdX12_plot_0.1
theorem dX12_plot_1 : decode cX12_plot 1 = .ok (.iconst 0, 1) := bdX12_plot_0.2.1
theorem dX12_plot_2 : decode cX12_plot 2 = .ok (.putfield 140, 3) := bdX12_plot_0.2.2.1
theorem dX12_plot_5 : decode cX12_plot 5 = .ok (.aload_n 0, 1) := bdX12_plot_0.2.2.2.1
theorem dX12_plot_6 : decode cX12_plot 6 = .ok (.iload_n 1, 1) := bdX12_plot_0.2.2.2.2.1
theorem dX12_plot_7 : decode cX12_plot 7 = .ok (.invokevirtual 380, 3) := bdX12_plot_0.2.2.2.2.2.1
theorem dX12_plot_10 : decode cX12_plot 10 = .ok (.ifCond .eq 15, 3) := bdX12_plot_0.2.2.2.2.2.2.1
theorem dX12_plot_13 : decode cX12_plot 13 = .ok (.iload_n 2, 1) := bdX12_plot_0.2.2.2.2.2.2.2.1
theorem dX12_plot_14 : decode cX12_plot 14 = .ok (.i2l, 1) := bdX12_plot_0.2.2.2.2.2.2.2.2.1
theorem dX12_plot_15 : decode cX12_plot 15 = .ok (.lconst 0, 1) := bdX12_plot_0.2.2.2.2.2.2.2.2.2
theorem bdX12_plot_16 : (decode cX12_plot 16 = .ok (.ldc2_w 383, 3)) ∧ (decode cX12_plot 19 = .ok (.invokestatic 143, 3)) ∧ (decode cX12_plot 22 = .ok (.ifCond .ne 9, 3)) ∧ (decode cX12_plot 25 = .ok (.aload_n 0, 1)) ∧ (decode cX12_plot 26 = .ok (.iconst 1, 1)) ∧ (decode cX12_plot 27 = .ok (.invokevirtual 290, 3)) ∧ (decode cX12_plot 30 = .ok (.ireturn, 1)) ∧ (decode cX12_plot 31 = .ok (.iload_n 2, 1)) ∧ (decode cX12_plot 32 = .ok (.ifCond .ne 12, 3)) ∧ (decode cX12_plot 35 = .ok (.aload_n 0, 1)) := by decide +kernel
theorem dX12_plot_16 : decode cX12_plot 16 = .ok (.ldc2_w 383, 3) := bdX12_plot_16.1
theorem dX12_plot_19 : decode cX12_plot 19 = .ok (.invokestatic 143, 3) := bdX12_plot_16.2.1
theorem dX12_plot_22 : decode cX12_plot 22 = .ok (.ifCond .ne 9, 3) := bdX12_plot_16.2.2.1
theorem dX12_plot_25 : decode cX12_plot 25 = .ok (.aload_n 0, 1) := bdX12_plot_16.2.2.2.1
theorem dX12_plot_26 : decode cX12_plot 26 = .ok (.iconst 1, 1) := bdX12_plot_16.2.2.2.2.1
theorem dX12_plot_27 : decode cX12_plot 27 = .ok (.invokevirtual 290, 3) := bdX12_plot_16.2.2.2.2.2.1
theorem dX12_plot_30 : decode cX12_plot 30 = .ok (.ireturn, 1) := bdX12_plot_16.2.2.2.2.2.2.1
theorem dX12_plot_31 : decode cX12_plot 31 = .ok (.iload_n 2, 1) := bdX12_plot_16.2.2.2.2.2.2.2.1
theorem dX12_plot_32 : decode cX12_plot 32 = .ok (.ifCond .ne 12, 3) := bdX12_plot_16.2.2.2.2.2.2.2.2.1
theorem dX12_plot_35 : decode cX12_plot 35 = .ok (.aload_n 0, 1) := bdX12_plot_16.2.2.2.2.2.2.2.2.2
theorem bdX12_plot_36 : (decode cX12_plot 36 = .ok (.getfield 46, 3)) ∧ (decode cX12_plot 39 = .ok (.iload_n 1, 1)) ∧ (decode cX12_plot 40 = .ok (.iaload, 1)) ∧ (decode cX12_plot 41 = .ok (.goto 49, 3)) ∧ (decode cX12_plot 44 = .ok (.iload_n 2, 1)) ∧ (decode cX12_plot 45 = .ok (.iconst 1, 1)) ∧ (decode cX12_plot 46 = .ok (.if_icmp .ne 12, 3)) ∧ (decode cX12_plot 49 = .ok (.aload_n 0, 1)) ∧ (decode cX12_plot 50 = .ok (.getfield 49, 3)) ∧ (decode cX12_plot 53 = .ok (.iload_n 1, 1)) := by decide +kernel
theorem dX12_plot_36 : decode cX12_plot 36 = .ok (.getfield 46, 3) := bdX12_plot_36.1
theorem dX12_plot_39 : decode cX12_plot 39 = .ok (.iload_n 1, 1) := bdX12_plot_36.2.1
theorem dX12_plot_40 : decode cX12_plot 40 = .ok (.iaload, 1) := bdX12_plot_36.2.2.1
theorem dX12_plot_41 : decode cX12_plot 41 = .ok (.goto 49, 3) := bdX12_plot_36.2.2.2.1
theorem dX12_plot_44 : decode cX12_plot 44 = .ok (.iload_n 2, 1) := bdX12_plot_36.2.2.2.2.1
theorem dX12_plot_45 : decode cX12_plot 45 = .ok (.iconst 1, 1) := bdX12_plot_36.2.2.2.2.2.1
theorem dX12_plot_46 : decode cX12_plot 46 = .ok (.if_icmp .ne 12, 3) := bdX12_plot_36.2.2.2.2.2.2.1
theorem dX12_plot_49 : decode cX12_plot 49 = .ok (.aload_n 0, 1) := bdX12_plot_36.2.2.2.2.2.2.2.1
theorem dX12_plot_50 : decode cX12_plot 50 = .ok (.getfield 49, 3) := bdX12_plot_36.2.2.2.2.2.2.2.2.1
theorem dX12_plot_53 : decode cX12_plot 53 = .ok (.iload_n 1, 1) := bdX12_plot_36.2.2.2.2.2.2.2.2.2
theorem bdX12_plot_54 : (decode cX12_plot 54 = .ok (.iaload, 1)) ∧ (decode cX12_plot 55 = .ok (.goto 35, 3)) ∧ (decode cX12_plot 58 = .ok (.iload_n 2, 1)) ∧ (decode cX12_plot 59 = .ok (.iconst 2, 1)) ∧ (decode cX12_plot 60 = .ok (.if_icmp .ne 12, 3)) ∧ (decode cX12_plot 63 = .ok (.aload_n 0, 1)) ∧ (decode cX12_plot 64 = .ok (.getfield 52, 3)) ∧ (decode cX12_plot 67 = .ok (.iload_n 1, 1)) ∧ (decode cX12_plot 68 = .ok (.iaload, 1)) ∧ (decode cX12_plot 69 = .ok (.goto 21, 3)) := by decide +kernel
theorem dX12_plot_54 : decode cX12_plot 54 = .ok (.iaload, 1) := bdX12_plot_54.1
theorem dX12_plot_55 : decode cX12_plot 55 = .ok (.goto 35, 3) := bdX12_plot_54.2.1
theorem dX12_plot_58 : decode cX12_plot 58 = .ok (.iload_n 2, 1) := bdX12_plot_54.2.2.1
theorem dX12_plot_59 : decode cX12_plot 59 = .ok (.iconst 2, 1) := bdX12_plot_54.2.2.2.1
theorem dX12_plot_60 : decode cX12_plot 60 = .ok (.if_icmp .ne 12, 3) := bdX12_plot_54.2.2.2.2.1
theorem dX12_plot_63 : decode cX12_plot 63 = .ok (.aload_n 0, 1) := bdX12_plot_54.2.2.2.2.2.1
theorem dX12_plot_64 : decode cX12_plot 64 = .ok (.getfield 52, 3) := bdX12_plot_54.2.2.2.2.2.2.1
theorem dX12_plot_67 : decode cX12_plot 67 = .ok (.iload_n 1, 1) := bdX12_plot_54.2.2.2.2.2.2.2.1
theorem dX12_plot_68 : decode cX12_plot 68 = .ok (.iaload, 1) := bdX12_plot_54.2.2.2.2.2.2.2.2.1
theorem dX12_plot_69 : decode cX12_plot 69 = .ok (.goto 21, 3) := bdX12_plot_54.2.2.2.2.2.2.2.2.2
theorem bdX12_plot_72 : (decode cX12_plot 72 = .ok (.iload_n 2, 1)) ∧ (decode cX12_plot 73 = .ok (.iconst 3, 1)) ∧ (decode cX12_plot 74 = .ok (.if_icmp .ne 11, 3)) ∧ (decode cX12_plot 77 = .ok (.aload_n 0, 1)) ∧ (decode cX12_plot 78 = .ok (.iload_n 1, 1)) ∧ (decode cX12_plot 79 = .ok (.invokevirtual 342, 3)) ∧ (decode cX12_plot 82 = .ok (.goto 8, 3)) ∧ (decode cX12_plot 85 = .ok (.aload_n 0, 1)) ∧ (decode cX12_plot 86 = .ok (.iload_n 1, 1)) ∧ (decode cX12_plot 87 = .ok (.invokevirtual 359, 3)) := by decide +kernel
theorem dX12_plot_72 : decode cX12_plot 72 = .ok (.iload_n 2, 1) := bdX12_plot_72.1
theorem dX12_plot_73 : decode cX12_plot 73 = .ok (.iconst 3, 1) := bdX12_plot_72.2.1
theorem dX12_plot_74 : decode cX12_plot 74 = .ok (.if_icmp .ne 11, 3) := bdX12_plot_72.2.2.1
theorem dX12_plot_77 : decode cX12_plot 77 = .ok (.aload_n 0, 1) := bdX12_plot_72.2.2.2.1
theorem dX12_plot_78 : decode cX12_plot 78 = .ok (.iload_n 1, 1) := bdX12_plot_72.2.2.2.2.1
theorem dX12_plot_79 : decode cX12_plot 79 = .ok (.invokevirtual 342, 3) := bdX12_plot_72.2.2.2.2.2.1
theorem dX12_plot_82 : decode cX12_plot 82 = .ok (.goto 8, 3) := bdX12_plot_72.2.2.2.2.2.2.1
theorem dX12_plot_85 : decode cX12_plot 85 = .ok (.aload_n 0, 1) := bdX12_plot_72.2.2.2.2.2.2.2.1
theorem dX12_plot_86 : decode cX12_plot 86 = .ok (.iload_n 1, 1) := bdX12_plot_72.2.2.2.2.2.2.2.2.1
theorem dX12_plot_87 : decode cX12_plot 87 = .ok (.invokevirtual 359, 3) := bdX12_plot_72.2.2.2.2.2.2.2.2.2
theorem bdX12_plot_90 : (decode cX12_plot 90 = .ok (.ireturn, 1)) := by decide +kernel
theorem dX12_plot_90 : decode cX12_plot 90 = .ok (.ireturn, 1) := bdX12_plot_90
theorem bdX12_worth_0 : (decode cX12_worth 0 = .ok (.aload_n 0, 1)) ∧ (decode cX12_worth 1 = .ok (.iconst 0, 1)) ∧ (decode cX12_worth 2 = .ok (.putfield 140, 3)) ∧ (decode cX12_worth 5 = .ok (.aload_n 0, 1)) ∧ (decode cX12_worth 6 = .ok (.iload_n 1, 1)) ∧ (decode cX12_worth 7 = .ok (.invokevirtual 371, 3)) ∧ (decode cX12_worth 10 = .ok (.ifCond .eq 20, 3)) ∧ (decode cX12_worth 13 = .ok (.aload_n 0, 1)) ∧ (decode cX12_worth 14 = .ok (.iload_n 2, 1)) ∧ (decode cX12_worth 15 = .ok (.invokevirtual 380, 3)) := by decide +kernel
theorem dX12_worth_0 : decode cX12_worth 0 = .ok (.aload_n 0, 1) := bdX12_worth_0.1
theorem dX12_worth_1 : decode cX12_worth 1 = .ok (.iconst 0, 1) := bdX12_worth_0.2.1
theorem dX12_worth_2 : decode cX12_worth 2 = .ok (.putfield 140, 3) := bdX12_worth_0.2.2.1
theorem dX12_worth_5 : decode cX12_worth 5 = .ok (.aload_n 0, 1) := bdX12_worth_0.2.2.2.1
theorem dX12_worth_6 : decode cX12_worth 6 = .ok (.iload_n 1, 1) := bdX12_worth_0.2.2.2.2.1
theorem dX12_worth_7 : decode cX12_worth 7 = .ok (.invokevirtual 371, 3) := bdX12_worth_0.2.2.2.2.2.1
theorem dX12_worth_10 : decode cX12_worth 10 = .ok (.ifCond .eq 20, 3) := bdX12_worth_0.2.2.2.2.2.2.1
theorem dX12_worth_13 : decode cX12_worth 13 = .ok (.aload_n 0, 1) := bdX12_worth_0.2.2.2.2.2.2.2.1
theorem dX12_worth_14 : decode cX12_worth 14 = .ok (.iload_n 2, 1) := bdX12_worth_0.2.2.2.2.2.2.2.2.1
theorem dX12_worth_15 : decode cX12_worth 15 = .ok (.invokevirtual 380, 3) := bdX12_worth_0.2.2.2.2.2.2.2.2.2
theorem bdX12_worth_18 : (decode cX12_worth 18 = .ok (.ifCond .eq 12, 3)) ∧ (decode cX12_worth 21 = .ok (.aload_n 0, 1)) ∧ (decode cX12_worth 22 = .ok (.iload_n 1, 1)) ∧ (decode cX12_worth 23 = .ok (.iload_n 2, 1)) ∧ (decode cX12_worth 24 = .ok (.invokevirtual 362, 3)) ∧ (decode cX12_worth 27 = .ok (.goto 8, 3)) ∧ (decode cX12_worth 30 = .ok (.aload_n 0, 1)) ∧ (decode cX12_worth 31 = .ok (.iconst 1, 1)) ∧ (decode cX12_worth 32 = .ok (.invokevirtual 290, 3)) ∧ (decode cX12_worth 35 = .ok (.ireturn, 1)) := by decide +kernel
theorem dX12_worth_18 : decode cX12_worth 18 = .ok (.ifCond .eq 12, 3) := bdX12_worth_18.1
theorem dX12_worth_21 : decode cX12_worth 21 = .ok (.aload_n 0, 1) := bdX12_worth_18.2.1
theorem dX12_worth_22 : decode cX12_worth 22 = .ok (.iload_n 1, 1) := bdX12_worth_18.2.2.1
theorem dX12_worth_23 : decode cX12_worth 23 = .ok (.iload_n 2, 1) := bdX12_worth_18.2.2.2.1
theorem dX12_worth_24 : decode cX12_worth 24 = .ok (.invokevirtual 362, 3) := bdX12_worth_18.2.2.2.2.1
theorem dX12_worth_27 : decode cX12_worth 27 = .ok (.goto 8, 3) := bdX12_worth_18.2.2.2.2.2.1
theorem dX12_worth_30 : decode cX12_worth 30 = .ok (.aload_n 0, 1) := bdX12_worth_18.2.2.2.2.2.2.1
theorem dX12_worth_31 : decode cX12_worth 31 = .ok (.iconst 1, 1) := bdX12_worth_18.2.2.2.2.2.2.2.1
theorem dX12_worth_32 : decode cX12_worth 32 = .ok (.invokevirtual 290, 3) := bdX12_worth_18.2.2.2.2.2.2.2.2.1
theorem dX12_worth_35 : decode cX12_worth 35 = .ok (.ireturn, 1) := bdX12_worth_18.2.2.2.2.2.2.2.2.2
theorem bdX12_harvest_0 : (decode cX12_harvest 0 = .ok (.aload_n 0, 1)) ∧ (decode cX12_harvest 1 = .ok (.iconst 0, 1)) ∧ (decode cX12_harvest 2 = .ok (.putfield 140, 3)) ∧ (decode cX12_harvest 5 = .ok (.aload_n 0, 1)) ∧ (decode cX12_harvest 6 = .ok (.iload_n 1, 1)) ∧ (decode cX12_harvest 7 = .ok (.invokevirtual 371, 3)) ∧ (decode cX12_harvest 10 = .ok (.ifCond .eq 11, 3)) ∧ (decode cX12_harvest 13 = .ok (.aload_n 0, 1)) ∧ (decode cX12_harvest 14 = .ok (.iload_n 2, 1)) ∧ (decode cX12_harvest 15 = .ok (.invokevirtual 380, 3)) := by decide +kernel
theorem dX12_harvest_0 : decode cX12_harvest 0 = .ok (.aload_n 0, 1) := bdX12_harvest_0.1
theorem dX12_harvest_1 : decode cX12_harvest 1 = .ok (.iconst 0, 1) := bdX12_harvest_0.2.1
theorem dX12_harvest_2 : decode cX12_harvest 2 = .ok (.putfield 140, 3) := bdX12_harvest_0.2.2.1
theorem dX12_harvest_5 : decode cX12_harvest 5 = .ok (.aload_n 0, 1) := bdX12_harvest_0.2.2.2.1
theorem dX12_harvest_6 : decode cX12_harvest 6 = .ok (.iload_n 1, 1) := bdX12_harvest_0.2.2.2.2.1
theorem dX12_harvest_7 : decode cX12_harvest 7 = .ok (.invokevirtual 371, 3) := bdX12_harvest_0.2.2.2.2.2.1
theorem dX12_harvest_10 : decode cX12_harvest 10 = .ok (.ifCond .eq 11, 3) := bdX12_harvest_0.2.2.2.2.2.2.1
theorem dX12_harvest_13 : decode cX12_harvest 13 = .ok (.aload_n 0, 1) := bdX12_harvest_0.2.2.2.2.2.2.2.1
theorem dX12_harvest_14 : decode cX12_harvest 14 = .ok (.iload_n 2, 1) := bdX12_harvest_0.2.2.2.2.2.2.2.2.1
theorem dX12_harvest_15 : decode cX12_harvest 15 = .ok (.invokevirtual 380, 3) := bdX12_harvest_0.2.2.2.2.2.2.2.2.2
theorem bdX12_harvest_18 : (decode cX12_harvest 18 = .ok (.ifCond .ne 9, 3)) ∧ (decode cX12_harvest 21 = .ok (.aload_n 0, 1)) ∧ (decode cX12_harvest 22 = .ok (.iconst 1, 1)) ∧ (decode cX12_harvest 23 = .ok (.invokevirtual 290, 3)) ∧ (decode cX12_harvest 26 = .ok (.ireturn, 1)) ∧ (decode cX12_harvest 27 = .ok (.iload_n 3, 1)) ∧ (decode cX12_harvest 28 = .ok (.i2l, 1)) ∧ (decode cX12_harvest 29 = .ok (.lconst 0, 1)) ∧ (decode cX12_harvest 30 = .ok (.ldc2_w 385, 3)) ∧ (decode cX12_harvest 33 = .ok (.invokestatic 143, 3)) := by decide +kernel
theorem dX12_harvest_18 : decode cX12_harvest 18 = .ok (.ifCond .ne 9, 3) := bdX12_harvest_18.1
theorem dX12_harvest_21 : decode cX12_harvest 21 = .ok (.aload_n 0, 1) := bdX12_harvest_18.2.1
theorem dX12_harvest_22 : decode cX12_harvest 22 = .ok (.iconst 1, 1) := bdX12_harvest_18.2.2.1
theorem dX12_harvest_23 : decode cX12_harvest 23 = .ok (.invokevirtual 290, 3) := bdX12_harvest_18.2.2.2.1
theorem dX12_harvest_26 : decode cX12_harvest 26 = .ok (.ireturn, 1) := bdX12_harvest_18.2.2.2.2.1
theorem dX12_harvest_27 : decode cX12_harvest 27 = .ok (.iload_n 3, 1) := bdX12_harvest_18.2.2.2.2.2.1
theorem dX12_harvest_28 : decode cX12_harvest 28 = .ok (.i2l, 1) := bdX12_harvest_18.2.2.2.2.2.2.1
theorem dX12_harvest_29 : decode cX12_harvest 29 = .ok (.lconst 0, 1) := bdX12_harvest_18.2.2.2.2.2.2.2.1
theorem dX12_harvest_30 : decode cX12_harvest 30 = .ok (.ldc2_w 385, 3) := bdX12_harvest_18.2.2.2.2.2.2.2.2.1
theorem dX12_harvest_33 : decode cX12_harvest 33 = .ok (.invokestatic 143, 3) := bdX12_harvest_18.2.2.2.2.2.2.2.2.2
theorem bdX12_harvest_36 : (decode cX12_harvest 36 = .ok (.ifCond .eq 13, 3)) ∧ (decode cX12_harvest 39 = .ok (.aload_n 0, 1)) ∧ (decode cX12_harvest 40 = .ok (.iload_n 1, 1)) ∧ (decode cX12_harvest 41 = .ok (.iload_n 2, 1)) ∧ (decode cX12_harvest 42 = .ok (.iload_n 3, 1)) ∧ (decode cX12_harvest 43 = .ok (.invokevirtual 365, 3)) ∧ (decode cX12_harvest 46 = .ok (.goto 8, 3)) ∧ (decode cX12_harvest 49 = .ok (.aload_n 0, 1)) ∧ (decode cX12_harvest 50 = .ok (.iconst 2, 1)) ∧ (decode cX12_harvest 51 = .ok (.invokevirtual 290, 3)) := by decide +kernel
theorem dX12_harvest_36 : decode cX12_harvest 36 = .ok (.ifCond .eq 13, 3) := bdX12_harvest_36.1
theorem dX12_harvest_39 : decode cX12_harvest 39 = .ok (.aload_n 0, 1) := bdX12_harvest_36.2.1
theorem dX12_harvest_40 : decode cX12_harvest 40 = .ok (.iload_n 1, 1) := bdX12_harvest_36.2.2.1
theorem dX12_harvest_41 : decode cX12_harvest 41 = .ok (.iload_n 2, 1) := bdX12_harvest_36.2.2.2.1
theorem dX12_harvest_42 : decode cX12_harvest 42 = .ok (.iload_n 3, 1) := bdX12_harvest_36.2.2.2.2.1
theorem dX12_harvest_43 : decode cX12_harvest 43 = .ok (.invokevirtual 365, 3) := bdX12_harvest_36.2.2.2.2.2.1
theorem dX12_harvest_46 : decode cX12_harvest 46 = .ok (.goto 8, 3) := bdX12_harvest_36.2.2.2.2.2.2.1
theorem dX12_harvest_49 : decode cX12_harvest 49 = .ok (.aload_n 0, 1) := bdX12_harvest_36.2.2.2.2.2.2.2.1
theorem dX12_harvest_50 : decode cX12_harvest 50 = .ok (.iconst 2, 1) := bdX12_harvest_36.2.2.2.2.2.2.2.2.1
theorem dX12_harvest_51 : decode cX12_harvest 51 = .ok (.invokevirtual 290, 3) := bdX12_harvest_36.2.2.2.2.2.2.2.2.2
theorem bdX12_harvest_54 : (decode cX12_harvest 54 = .ok (.ireturn, 1)) := by decide +kernel
theorem dX12_harvest_54 : decode cX12_harvest 54 = .ok (.ireturn, 1) := bdX12_harvest_54
theorem bdX12_refuse_0 : (decode cX12_refuse 0 = .ok (.aload_n 0, 1)) ∧ (decode cX12_refuse 1 = .ok (.getfield 63, 3)) ∧ (decode cX12_refuse 4 = .ok (.iload_n 1, 1)) ∧ (decode cX12_refuse 5 = .ok (.dup2, 1)) ∧ (decode cX12_refuse 6 = .ok (.iaload, 1)) ∧ (decode cX12_refuse 7 = .ok (.iconst 1, 1)) ∧ (decode cX12_refuse 8 = .ok (.iadd, 1)) ∧ (decode cX12_refuse 9 = .ok (.iastore, 1)) ∧ (decode cX12_refuse 10 = .ok (.iconst (-1), 1)) ∧ (decode cX12_refuse 11 = .ok (.ireturn, 1)) := by decide +kernel
theorem dX12_refuse_0 : decode cX12_refuse 0 = .ok (.aload_n 0, 1) := bdX12_refuse_0.1
theorem dX12_refuse_1 : decode cX12_refuse 1 = .ok (.getfield 63, 3) := bdX12_refuse_0.2.1
theorem dX12_refuse_4 : decode cX12_refuse 4 = .ok (.iload_n 1, 1) := bdX12_refuse_0.2.2.1
theorem dX12_refuse_5 : decode cX12_refuse 5 = .ok (.dup2, 1) := bdX12_refuse_0.2.2.2.1
theorem dX12_refuse_6 : decode cX12_refuse 6 = .ok (.iaload, 1) := bdX12_refuse_0.2.2.2.2.1
theorem dX12_refuse_7 : decode cX12_refuse 7 = .ok (.iconst 1, 1) := bdX12_refuse_0.2.2.2.2.2.1
theorem dX12_refuse_8 : decode cX12_refuse 8 = .ok (.iadd, 1) := bdX12_refuse_0.2.2.2.2.2.2.1
theorem dX12_refuse_9 : decode cX12_refuse 9 = .ok (.iastore, 1) := bdX12_refuse_0.2.2.2.2.2.2.2.1
theorem dX12_refuse_10 : decode cX12_refuse 10 = .ok (.iconst (-1), 1) := bdX12_refuse_0.2.2.2.2.2.2.2.2.1
theorem dX12_refuse_11 : decode cX12_refuse 11 = .ok (.ireturn, 1) := bdX12_refuse_0.2.2.2.2.2.2.2.2.2
theorem bdX12_keep_0 : (decode cX12_keep 0 = .ok (.aload_n 0, 1)) ∧ (decode cX12_keep 1 = .ok (.getfield 320, 3)) ∧ (decode cX12_keep 4 = .ok (.bipush 40, 2)) ∧ (decode cX12_keep 6 = .ok (.if_icmp .ne 46, 3)) ∧ (decode cX12_keep 9 = .ok (.bipush 31, 2)) ∧ (decode cX12_keep 11 = .ok (.istore_n 1, 1)) ∧ (decode cX12_keep 12 = .ok (.iload_n 1, 1)) ∧ (decode cX12_keep 13 = .ok (.aload_n 0, 1)) ∧ (decode cX12_keep 14 = .ok (.getfield 82, 3)) ∧ (decode cX12_keep 17 = .ok (.arraylength, 1)) := by decide +kernel
theorem dX12_keep_0 : decode cX12_keep 0 = .ok (.aload_n 0, 1) := bdX12_keep_0.1
theorem dX12_keep_1 : decode cX12_keep 1 = .ok (.getfield 320, 3) := bdX12_keep_0.2.1
theorem dX12_keep_4 : decode cX12_keep 4 = .ok (.bipush 40, 2) := bdX12_keep_0.2.2.1
theorem dX12_keep_6 : decode cX12_keep 6 = .ok (.if_icmp .ne 46, 3) := bdX12_keep_0.2.2.2.1
theorem dX12_keep_9 : decode cX12_keep 9 = .ok (.bipush 31, 2) := bdX12_keep_0.2.2.2.2.1
theorem dX12_keep_11 : decode cX12_keep 11 = .ok (.istore_n 1, 1) := bdX12_keep_0.2.2.2.2.2.1
theorem dX12_keep_12 : decode cX12_keep 12 = .ok (.iload_n 1, 1) := bdX12_keep_0.2.2.2.2.2.2.1
theorem dX12_keep_13 : decode cX12_keep 13 = .ok (.aload_n 0, 1) := bdX12_keep_0.2.2.2.2.2.2.2.1
theorem dX12_keep_14 : decode cX12_keep 14 = .ok (.getfield 82, 3) := bdX12_keep_0.2.2.2.2.2.2.2.2.1
theorem dX12_keep_17 : decode cX12_keep 17 = .ok (.arraylength, 1) := bdX12_keep_0.2.2.2.2.2.2.2.2.2
theorem bdX12_keep_18 : (decode cX12_keep 18 = .ok (.if_icmp .ge 24, 3)) ∧ (decode cX12_keep 21 = .ok (.aload_n 0, 1)) ∧ (decode cX12_keep 22 = .ok (.getfield 82, 3)) ∧ (decode cX12_keep 25 = .ok (.iload_n 1, 1)) ∧ (decode cX12_keep 26 = .ok (.bipush 31, 2)) ∧ (decode cX12_keep 28 = .ok (.isub, 1)) ∧ (decode cX12_keep 29 = .ok (.aload_n 0, 1)) ∧ (decode cX12_keep 30 = .ok (.getfield 82, 3)) ∧ (decode cX12_keep 33 = .ok (.iload_n 1, 1)) ∧ (decode cX12_keep 34 = .ok (.iaload, 1)) := by decide +kernel
theorem dX12_keep_18 : decode cX12_keep 18 = .ok (.if_icmp .ge 24, 3) := bdX12_keep_18.1
theorem dX12_keep_21 : decode cX12_keep 21 = .ok (.aload_n 0, 1) := bdX12_keep_18.2.1
theorem dX12_keep_22 : decode cX12_keep 22 = .ok (.getfield 82, 3) := bdX12_keep_18.2.2.1
theorem dX12_keep_25 : decode cX12_keep 25 = .ok (.iload_n 1, 1) := bdX12_keep_18.2.2.2.1
theorem dX12_keep_26 : decode cX12_keep 26 = .ok (.bipush 31, 2) := bdX12_keep_18.2.2.2.2.1
theorem dX12_keep_28 : decode cX12_keep 28 = .ok (.isub, 1) := bdX12_keep_18.2.2.2.2.2.1
theorem dX12_keep_29 : decode cX12_keep 29 = .ok (.aload_n 0, 1) := bdX12_keep_18.2.2.2.2.2.2.1
theorem dX12_keep_30 : decode cX12_keep 30 = .ok (.getfield 82, 3) := bdX12_keep_18.2.2.2.2.2.2.2.1
theorem dX12_keep_33 : decode cX12_keep 33 = .ok (.iload_n 1, 1) := bdX12_keep_18.2.2.2.2.2.2.2.2.1
theorem dX12_keep_34 : decode cX12_keep 34 = .ok (.iaload, 1) := bdX12_keep_18.2.2.2.2.2.2.2.2.2
theorem bdX12_keep_35 : (decode cX12_keep 35 = .ok (.iastore, 1)) ∧ (decode cX12_keep 36 = .ok (.iinc 1 1, 3)) ∧ (decode cX12_keep 39 = .ok (.goto (-27), 3)) ∧ (decode cX12_keep 42 = .ok (.aload_n 0, 1)) ∧ (decode cX12_keep 43 = .ok (.dup, 1)) ∧ (decode cX12_keep 44 = .ok (.getfield 320, 3)) ∧ (decode cX12_keep 47 = .ok (.iconst 1, 1)) ∧ (decode cX12_keep 48 = .ok (.isub, 1)) ∧ (decode cX12_keep 49 = .ok (.putfield 320, 3)) ∧ (decode cX12_keep 52 = .ok (.aload_n 0, 1)) := by decide +kernel
theorem dX12_keep_35 : decode cX12_keep 35 = .ok (.iastore, 1) := bdX12_keep_35.1
theorem dX12_keep_36 : decode cX12_keep 36 = .ok (.iinc 1 1, 3) := bdX12_keep_35.2.1
theorem dX12_keep_39 : decode cX12_keep 39 = .ok (.goto (-27), 3) := bdX12_keep_35.2.2.1
theorem dX12_keep_42 : decode cX12_keep 42 = .ok (.aload_n 0, 1) := bdX12_keep_35.2.2.2.1
theorem dX12_keep_43 : decode cX12_keep 43 = .ok (.dup, 1) := bdX12_keep_35.2.2.2.2.1
theorem dX12_keep_44 : decode cX12_keep 44 = .ok (.getfield 320, 3) := bdX12_keep_35.2.2.2.2.2.1
theorem dX12_keep_47 : decode cX12_keep 47 = .ok (.iconst 1, 1) := bdX12_keep_35.2.2.2.2.2.2.1
theorem dX12_keep_48 : decode cX12_keep 48 = .ok (.isub, 1) := bdX12_keep_35.2.2.2.2.2.2.2.1
theorem dX12_keep_49 : decode cX12_keep 49 = .ok (.putfield 320, 3) := bdX12_keep_35.2.2.2.2.2.2.2.2.1
theorem dX12_keep_52 : decode cX12_keep 52 = .ok (.aload_n 0, 1) := bdX12_keep_35.2.2.2.2.2.2.2.2.2
theorem bdX12_keep_53 : (decode cX12_keep 53 = .ok (.aload_n 0, 1)) ∧ (decode cX12_keep 54 = .ok (.getfield 82, 3)) ∧ (decode cX12_keep 57 = .ok (.bipush 31, 2)) ∧ (decode cX12_keep 59 = .ok (.aload_n 0, 1)) ∧ (decode cX12_keep 60 = .ok (.getfield 320, 3)) ∧ (decode cX12_keep 63 = .ok (.imul, 1)) ∧ (decode cX12_keep 64 = .ok (.invokevirtual 387, 3)) ∧ (decode cX12_keep 67 = .ok (.aload_n 0, 1)) ∧ (decode cX12_keep 68 = .ok (.dup, 1)) ∧ (decode cX12_keep 69 = .ok (.getfield 320, 3)) := by decide +kernel
theorem dX12_keep_53 : decode cX12_keep 53 = .ok (.aload_n 0, 1) := bdX12_keep_53.1
theorem dX12_keep_54 : decode cX12_keep 54 = .ok (.getfield 82, 3) := bdX12_keep_53.2.1
theorem dX12_keep_57 : decode cX12_keep 57 = .ok (.bipush 31, 2) := bdX12_keep_53.2.2.1
theorem dX12_keep_59 : decode cX12_keep 59 = .ok (.aload_n 0, 1) := bdX12_keep_53.2.2.2.1
theorem dX12_keep_60 : decode cX12_keep 60 = .ok (.getfield 320, 3) := bdX12_keep_53.2.2.2.2.1
theorem dX12_keep_63 : decode cX12_keep 63 = .ok (.imul, 1) := bdX12_keep_53.2.2.2.2.2.1
theorem dX12_keep_64 : decode cX12_keep 64 = .ok (.invokevirtual 387, 3) := bdX12_keep_53.2.2.2.2.2.2.1
theorem dX12_keep_67 : decode cX12_keep 67 = .ok (.aload_n 0, 1) := bdX12_keep_53.2.2.2.2.2.2.2.1
theorem dX12_keep_68 : decode cX12_keep 68 = .ok (.dup, 1) := bdX12_keep_53.2.2.2.2.2.2.2.2.1
theorem dX12_keep_69 : decode cX12_keep 69 = .ok (.getfield 320, 3) := bdX12_keep_53.2.2.2.2.2.2.2.2.2
theorem bdX12_keep_72 : (decode cX12_keep 72 = .ok (.iconst 1, 1)) ∧ (decode cX12_keep 73 = .ok (.iadd, 1)) ∧ (decode cX12_keep 74 = .ok (.putfield 320, 3)) ∧ (decode cX12_keep 77 = .ok (.return_, 1)) := by decide +kernel
theorem dX12_keep_72 : decode cX12_keep 72 = .ok (.iconst 1, 1) := bdX12_keep_72.1
theorem dX12_keep_73 : decode cX12_keep 73 = .ok (.iadd, 1) := bdX12_keep_72.2.1
theorem dX12_keep_74 : decode cX12_keep 74 = .ok (.putfield 320, 3) := bdX12_keep_72.2.2.1
theorem dX12_keep_77 : decode cX12_keep 77 = .ok (.return_, 1) := bdX12_keep_72.2.2.2
theorem bdX12_drawOf_0 : (decode cX12_drawOf 0 = .ok (.aload_n 0, 1)) ∧ (decode cX12_drawOf 1 = .ok (.aload_n 0, 1)) ∧ (decode cX12_drawOf 2 = .ok (.getfield 391, 3)) ∧ (decode cX12_drawOf 5 = .ok (.ldc_w 394, 3)) ∧ (decode cX12_drawOf 8 = .ok (.imul, 1)) ∧ (decode cX12_drawOf 9 = .ok (.sipush 12345, 3)) ∧ (decode cX12_drawOf 12 = .ok (.iadd, 1)) ∧ (decode cX12_drawOf 13 = .ok (.putfield 391, 3)) ∧ (decode cX12_drawOf 16 = .ok (.aload_n 0, 1)) ∧ (decode cX12_drawOf 17 = .ok (.getfield 391, 3)) := by decide +kernel
theorem dX12_drawOf_0 : decode cX12_drawOf 0 = .ok (.aload_n 0, 1) := bdX12_drawOf_0.1
theorem dX12_drawOf_1 : decode cX12_drawOf 1 = .ok (.aload_n 0, 1) := bdX12_drawOf_0.2.1
theorem dX12_drawOf_2 : decode cX12_drawOf 2 = .ok (.getfield 391, 3) := bdX12_drawOf_0.2.2.1
theorem dX12_drawOf_5 : decode cX12_drawOf 5 = .ok (.ldc_w 394, 3) := bdX12_drawOf_0.2.2.2.1
theorem dX12_drawOf_8 : decode cX12_drawOf 8 = .ok (.imul, 1) := bdX12_drawOf_0.2.2.2.2.1
theorem dX12_drawOf_9 : decode cX12_drawOf 9 = .ok (.sipush 12345, 3) := bdX12_drawOf_0.2.2.2.2.2.1
theorem dX12_drawOf_12 : decode cX12_drawOf 12 = .ok (.iadd, 1) := bdX12_drawOf_0.2.2.2.2.2.2.1
theorem dX12_drawOf_13 : decode cX12_drawOf 13 = .ok (.putfield 391, 3) := bdX12_drawOf_0.2.2.2.2.2.2.2.1
theorem dX12_drawOf_16 : decode cX12_drawOf 16 = .ok (.aload_n 0, 1) := bdX12_drawOf_0.2.2.2.2.2.2.2.2.1
theorem dX12_drawOf_17 : decode cX12_drawOf 17 = .ok (.getfield 391, 3) := bdX12_drawOf_0.2.2.2.2.2.2.2.2.2
theorem bdX12_drawOf_20 : (decode cX12_drawOf 20 = .ok (.bipush 16, 2)) ∧ (decode cX12_drawOf 22 = .ok (.ishr, 1)) ∧ (decode cX12_drawOf 23 = .ok (.sipush 32767, 3)) ∧ (decode cX12_drawOf 26 = .ok (.iand, 1)) ∧ (decode cX12_drawOf 27 = .ok (.iload_n 1, 1)) ∧ (decode cX12_drawOf 28 = .ok (.irem, 1)) ∧ (decode cX12_drawOf 29 = .ok (.ireturn, 1)) := by decide +kernel
theorem dX12_drawOf_20 : decode cX12_drawOf 20 = .ok (.bipush 16, 2) := bdX12_drawOf_20.1
theorem dX12_drawOf_22 : decode cX12_drawOf 22 = .ok (.ishr, 1) := bdX12_drawOf_20.2.1
theorem dX12_drawOf_23 : decode cX12_drawOf 23 = .ok (.sipush 32767, 3) := bdX12_drawOf_20.2.2.1
theorem dX12_drawOf_26 : decode cX12_drawOf 26 = .ok (.iand, 1) := bdX12_drawOf_20.2.2.2.1
theorem dX12_drawOf_27 : decode cX12_drawOf 27 = .ok (.iload_n 1, 1) := bdX12_drawOf_20.2.2.2.2.1
theorem dX12_drawOf_28 : decode cX12_drawOf 28 = .ok (.irem, 1) := bdX12_drawOf_20.2.2.2.2.2.1
theorem dX12_drawOf_29 : decode cX12_drawOf 29 = .ok (.ireturn, 1) := bdX12_drawOf_20.2.2.2.2.2.2
theorem bdX12_drawLots_0 : (decode cX12_drawLots 0 = .ok (.aload_n 0, 1)) ∧ (decode cX12_drawLots 1 = .ok (.iconst 0, 1)) ∧ (decode cX12_drawLots 2 = .ok (.putfield 314, 3)) ∧ (decode cX12_drawLots 5 = .ok (.iconst 0, 1)) ∧ (decode cX12_drawLots 6 = .ok (.istore_n 1, 1)) ∧ (decode cX12_drawLots 7 = .ok (.iload_n 1, 1)) ∧ (decode cX12_drawLots 8 = .ok (.aload_n 0, 1)) ∧ (decode cX12_drawLots 9 = .ok (.getfield 35, 3)) ∧ (decode cX12_drawLots 12 = .ok (.iconst 0, 1)) ∧ (decode cX12_drawLots 13 = .ok (.iaload, 1)) := by decide +kernel
theorem dX12_drawLots_0 : decode cX12_drawLots 0 = .ok (.aload_n 0, 1) := bdX12_drawLots_0.1
theorem dX12_drawLots_1 : decode cX12_drawLots 1 = .ok (.iconst 0, 1) := bdX12_drawLots_0.2.1
theorem dX12_drawLots_2 : decode cX12_drawLots 2 = .ok (.putfield 314, 3) := bdX12_drawLots_0.2.2.1
theorem dX12_drawLots_5 : decode cX12_drawLots 5 = .ok (.iconst 0, 1) := bdX12_drawLots_0.2.2.2.1
theorem dX12_drawLots_6 : decode cX12_drawLots 6 = .ok (.istore_n 1, 1) := bdX12_drawLots_0.2.2.2.2.1
theorem dX12_drawLots_7 : decode cX12_drawLots 7 = .ok (.iload_n 1, 1) := bdX12_drawLots_0.2.2.2.2.2.1
theorem dX12_drawLots_8 : decode cX12_drawLots 8 = .ok (.aload_n 0, 1) := bdX12_drawLots_0.2.2.2.2.2.2.1
theorem dX12_drawLots_9 : decode cX12_drawLots 9 = .ok (.getfield 35, 3) := bdX12_drawLots_0.2.2.2.2.2.2.2.1
theorem dX12_drawLots_12 : decode cX12_drawLots 12 = .ok (.iconst 0, 1) := bdX12_drawLots_0.2.2.2.2.2.2.2.2.1
theorem dX12_drawLots_13 : decode cX12_drawLots 13 = .ok (.iaload, 1) := bdX12_drawLots_0.2.2.2.2.2.2.2.2.2
theorem bdX12_drawLots_14 : (decode cX12_drawLots 14 = .ok (.if_icmp .ge 25, 3)) ∧ (decode cX12_drawLots 17 = .ok (.aload_n 0, 1)) ∧ (decode cX12_drawLots 18 = .ok (.dup, 1)) ∧ (decode cX12_drawLots 19 = .ok (.getfield 314, 3)) ∧ (decode cX12_drawLots 22 = .ok (.aload_n 0, 1)) ∧ (decode cX12_drawLots 23 = .ok (.iconst 2, 1)) ∧ (decode cX12_drawLots 24 = .ok (.invokevirtual 395, 3)) ∧ (decode cX12_drawLots 27 = .ok (.iload_n 1, 1)) ∧ (decode cX12_drawLots 28 = .ok (.ishl, 1)) ∧ (decode cX12_drawLots 29 = .ok (.ior, 1)) := by decide +kernel
theorem dX12_drawLots_14 : decode cX12_drawLots 14 = .ok (.if_icmp .ge 25, 3) := bdX12_drawLots_14.1
theorem dX12_drawLots_17 : decode cX12_drawLots 17 = .ok (.aload_n 0, 1) := bdX12_drawLots_14.2.1
theorem dX12_drawLots_18 : decode cX12_drawLots 18 = .ok (.dup, 1) := bdX12_drawLots_14.2.2.1
theorem dX12_drawLots_19 : decode cX12_drawLots 19 = .ok (.getfield 314, 3) := bdX12_drawLots_14.2.2.2.1
theorem dX12_drawLots_22 : decode cX12_drawLots 22 = .ok (.aload_n 0, 1) := bdX12_drawLots_14.2.2.2.2.1
theorem dX12_drawLots_23 : decode cX12_drawLots 23 = .ok (.iconst 2, 1) := bdX12_drawLots_14.2.2.2.2.2.1
theorem dX12_drawLots_24 : decode cX12_drawLots 24 = .ok (.invokevirtual 395, 3) := bdX12_drawLots_14.2.2.2.2.2.2.1
theorem dX12_drawLots_27 : decode cX12_drawLots 27 = .ok (.iload_n 1, 1) := bdX12_drawLots_14.2.2.2.2.2.2.2.1
theorem dX12_drawLots_28 : decode cX12_drawLots 28 = .ok (.ishl, 1) := bdX12_drawLots_14.2.2.2.2.2.2.2.2.1
theorem dX12_drawLots_29 : decode cX12_drawLots 29 = .ok (.ior, 1) := bdX12_drawLots_14.2.2.2.2.2.2.2.2.2
theorem bdX12_drawLots_30 : (decode cX12_drawLots 30 = .ok (.putfield 314, 3)) ∧ (decode cX12_drawLots 33 = .ok (.iinc 1 1, 3)) ∧ (decode cX12_drawLots 36 = .ok (.goto (-29), 3)) ∧ (decode cX12_drawLots 39 = .ok (.aload_n 0, 1)) ∧ (decode cX12_drawLots 40 = .ok (.invokevirtual 317, 3)) ∧ (decode cX12_drawLots 43 = .ok (.return_, 1)) := by decide +kernel
theorem dX12_drawLots_30 : decode cX12_drawLots 30 = .ok (.putfield 314, 3) := bdX12_drawLots_30.1
theorem dX12_drawLots_33 : decode cX12_drawLots 33 = .ok (.iinc 1 1, 3) := bdX12_drawLots_30.2.1
theorem dX12_drawLots_36 : decode cX12_drawLots 36 = .ok (.goto (-29), 3) := bdX12_drawLots_30.2.2.1
theorem dX12_drawLots_39 : decode cX12_drawLots 39 = .ok (.aload_n 0, 1) := bdX12_drawLots_30.2.2.2.1
theorem dX12_drawLots_40 : decode cX12_drawLots 40 = .ok (.invokevirtual 317, 3) := bdX12_drawLots_30.2.2.2.2.1
theorem dX12_drawLots_43 : decode cX12_drawLots 43 = .ok (.return_, 1) := bdX12_drawLots_30.2.2.2.2.2
theorem bdX12_lots_0 : (decode cX12_lots 0 = .ok (.aload_n 0, 1)) ∧ (decode cX12_lots 1 = .ok (.iconst 0, 1)) ∧ (decode cX12_lots 2 = .ok (.putfield 140, 3)) ∧ (decode cX12_lots 5 = .ok (.aload_n 0, 1)) ∧ (decode cX12_lots 6 = .ok (.invokevirtual 398, 3)) ∧ (decode cX12_lots 9 = .ok (.aload_n 0, 1)) ∧ (decode cX12_lots 10 = .ok (.iload_n 1, 1)) ∧ (decode cX12_lots 11 = .ok (.putfield 391, 3)) ∧ (decode cX12_lots 14 = .ok (.aload_n 0, 1)) ∧ (decode cX12_lots 15 = .ok (.invokevirtual 401, 3)) := by decide +kernel
theorem dX12_lots_0 : decode cX12_lots 0 = .ok (.aload_n 0, 1) := bdX12_lots_0.1
theorem dX12_lots_1 : decode cX12_lots 1 = .ok (.iconst 0, 1) := bdX12_lots_0.2.1
theorem dX12_lots_2 : decode cX12_lots 2 = .ok (.putfield 140, 3) := bdX12_lots_0.2.2.1
theorem dX12_lots_5 : decode cX12_lots 5 = .ok (.aload_n 0, 1) := bdX12_lots_0.2.2.2.1
theorem dX12_lots_6 : decode cX12_lots 6 = .ok (.invokevirtual 398, 3) := bdX12_lots_0.2.2.2.2.1
theorem dX12_lots_9 : decode cX12_lots 9 = .ok (.aload_n 0, 1) := bdX12_lots_0.2.2.2.2.2.1
theorem dX12_lots_10 : decode cX12_lots 10 = .ok (.iload_n 1, 1) := bdX12_lots_0.2.2.2.2.2.2.1
theorem dX12_lots_11 : decode cX12_lots 11 = .ok (.putfield 391, 3) := bdX12_lots_0.2.2.2.2.2.2.2.1
theorem dX12_lots_14 : decode cX12_lots 14 = .ok (.aload_n 0, 1) := bdX12_lots_0.2.2.2.2.2.2.2.2.1
theorem dX12_lots_15 : decode cX12_lots 15 = .ok (.invokevirtual 401, 3) := bdX12_lots_0.2.2.2.2.2.2.2.2.2
theorem bdX12_lots_18 : (decode cX12_lots 18 = .ok (.aload_n 0, 1)) ∧ (decode cX12_lots 19 = .ok (.getfield 314, 3)) ∧ (decode cX12_lots 22 = .ok (.ireturn, 1)) := by decide +kernel
theorem dX12_lots_18 : decode cX12_lots 18 = .ok (.aload_n 0, 1) := bdX12_lots_18.1
theorem dX12_lots_19 : decode cX12_lots 19 = .ok (.getfield 314, 3) := bdX12_lots_18.2.1
theorem dX12_lots_22 : decode cX12_lots 22 = .ok (.ireturn, 1) := bdX12_lots_18.2.2
theorem bdX12_turn_0 : (decode cX12_turn 0 = .ok (.aload_n 0, 1)) ∧ (decode cX12_turn 1 = .ok (.iconst 0, 1)) ∧ (decode cX12_turn 2 = .ok (.putfield 140, 3)) ∧ (decode cX12_turn 5 = .ok (.aload_n 0, 1)) ∧ (decode cX12_turn 6 = .ok (.iload_n 1, 1)) ∧ (decode cX12_turn 7 = .ok (.invokevirtual 371, 3)) ∧ (decode cX12_turn 10 = .ok (.ifCond .ne 9, 3)) ∧ (decode cX12_turn 13 = .ok (.aload_n 0, 1)) ∧ (decode cX12_turn 14 = .ok (.iconst 1, 1)) ∧ (decode cX12_turn 15 = .ok (.invokevirtual 290, 3)) := by decide +kernel
theorem dX12_turn_0 : decode cX12_turn 0 = .ok (.aload_n 0, 1) := bdX12_turn_0.1
theorem dX12_turn_1 : decode cX12_turn 1 = .ok (.iconst 0, 1) := bdX12_turn_0.2.1
theorem dX12_turn_2 : decode cX12_turn 2 = .ok (.putfield 140, 3) := bdX12_turn_0.2.2.1
theorem dX12_turn_5 : decode cX12_turn 5 = .ok (.aload_n 0, 1) := bdX12_turn_0.2.2.2.1
theorem dX12_turn_6 : decode cX12_turn 6 = .ok (.iload_n 1, 1) := bdX12_turn_0.2.2.2.2.1
theorem dX12_turn_7 : decode cX12_turn 7 = .ok (.invokevirtual 371, 3) := bdX12_turn_0.2.2.2.2.2.1
theorem dX12_turn_10 : decode cX12_turn 10 = .ok (.ifCond .ne 9, 3) := bdX12_turn_0.2.2.2.2.2.2.1
theorem dX12_turn_13 : decode cX12_turn 13 = .ok (.aload_n 0, 1) := bdX12_turn_0.2.2.2.2.2.2.2.1
theorem dX12_turn_14 : decode cX12_turn 14 = .ok (.iconst 1, 1) := bdX12_turn_0.2.2.2.2.2.2.2.2.1
theorem dX12_turn_15 : decode cX12_turn 15 = .ok (.invokevirtual 290, 3) := bdX12_turn_0.2.2.2.2.2.2.2.2.2
theorem bdX12_turn_18 : (decode cX12_turn 18 = .ok (.ireturn, 1)) ∧ (decode cX12_turn 19 = .ok (.aload_n 0, 1)) ∧ (decode cX12_turn 20 = .ok (.invokevirtual 398, 3)) ∧ (decode cX12_turn 23 = .ok (.aload_n 0, 1)) ∧ (decode cX12_turn 24 = .ok (.dup, 1)) ∧ (decode cX12_turn 25 = .ok (.getfield 314, 3)) ∧ (decode cX12_turn 28 = .ok (.iconst 1, 1)) ∧ (decode cX12_turn 29 = .ok (.iload_n 1, 1)) ∧ (decode cX12_turn 30 = .ok (.ishl, 1)) ∧ (decode cX12_turn 31 = .ok (.ixor, 1)) := by decide +kernel
theorem dX12_turn_18 : decode cX12_turn 18 = .ok (.ireturn, 1) := bdX12_turn_18.1
theorem dX12_turn_19 : decode cX12_turn 19 = .ok (.aload_n 0, 1) := bdX12_turn_18.2.1
theorem dX12_turn_20 : decode cX12_turn 20 = .ok (.invokevirtual 398, 3) := bdX12_turn_18.2.2.1
theorem dX12_turn_23 : decode cX12_turn 23 = .ok (.aload_n 0, 1) := bdX12_turn_18.2.2.2.1
theorem dX12_turn_24 : decode cX12_turn 24 = .ok (.dup, 1) := bdX12_turn_18.2.2.2.2.1
theorem dX12_turn_25 : decode cX12_turn 25 = .ok (.getfield 314, 3) := bdX12_turn_18.2.2.2.2.2.1
theorem dX12_turn_28 : decode cX12_turn 28 = .ok (.iconst 1, 1) := bdX12_turn_18.2.2.2.2.2.2.1
theorem dX12_turn_29 : decode cX12_turn 29 = .ok (.iload_n 1, 1) := bdX12_turn_18.2.2.2.2.2.2.2.1
theorem dX12_turn_30 : decode cX12_turn 30 = .ok (.ishl, 1) := bdX12_turn_18.2.2.2.2.2.2.2.2.1
theorem dX12_turn_31 : decode cX12_turn 31 = .ok (.ixor, 1) := bdX12_turn_18.2.2.2.2.2.2.2.2.2
theorem bdX12_turn_32 : (decode cX12_turn 32 = .ok (.putfield 314, 3)) ∧ (decode cX12_turn 35 = .ok (.aload_n 0, 1)) ∧ (decode cX12_turn 36 = .ok (.dup, 1)) ∧ (decode cX12_turn 37 = .ok (.getfield 311, 3)) ∧ (decode cX12_turn 40 = .ok (.iconst 1, 1)) ∧ (decode cX12_turn 41 = .ok (.iadd, 1)) ∧ (decode cX12_turn 42 = .ok (.putfield 311, 3)) ∧ (decode cX12_turn 45 = .ok (.aload_n 0, 1)) ∧ (decode cX12_turn 46 = .ok (.invokevirtual 317, 3)) ∧ (decode cX12_turn 49 = .ok (.aload_n 0, 1)) := by decide +kernel
theorem dX12_turn_32 : decode cX12_turn 32 = .ok (.putfield 314, 3) := bdX12_turn_32.1
theorem dX12_turn_35 : decode cX12_turn 35 = .ok (.aload_n 0, 1) := bdX12_turn_32.2.1
theorem dX12_turn_36 : decode cX12_turn 36 = .ok (.dup, 1) := bdX12_turn_32.2.2.1
theorem dX12_turn_37 : decode cX12_turn 37 = .ok (.getfield 311, 3) := bdX12_turn_32.2.2.2.1
theorem dX12_turn_40 : decode cX12_turn 40 = .ok (.iconst 1, 1) := bdX12_turn_32.2.2.2.2.1
theorem dX12_turn_41 : decode cX12_turn 41 = .ok (.iadd, 1) := bdX12_turn_32.2.2.2.2.2.1
theorem dX12_turn_42 : decode cX12_turn 42 = .ok (.putfield 311, 3) := bdX12_turn_32.2.2.2.2.2.2.1
theorem dX12_turn_45 : decode cX12_turn 45 = .ok (.aload_n 0, 1) := bdX12_turn_32.2.2.2.2.2.2.2.1
theorem dX12_turn_46 : decode cX12_turn 46 = .ok (.invokevirtual 317, 3) := bdX12_turn_32.2.2.2.2.2.2.2.2.1
theorem dX12_turn_49 : decode cX12_turn 49 = .ok (.aload_n 0, 1) := bdX12_turn_32.2.2.2.2.2.2.2.2.2
theorem bdX12_turn_50 : (decode cX12_turn 50 = .ok (.getfield 314, 3)) ∧ (decode cX12_turn 53 = .ok (.iload_n 1, 1)) ∧ (decode cX12_turn 54 = .ok (.ishr, 1)) ∧ (decode cX12_turn 55 = .ok (.iconst 1, 1)) ∧ (decode cX12_turn 56 = .ok (.iand, 1)) ∧ (decode cX12_turn 57 = .ok (.ireturn, 1)) := by decide +kernel
theorem dX12_turn_50 : decode cX12_turn 50 = .ok (.getfield 314, 3) := bdX12_turn_50.1
theorem dX12_turn_53 : decode cX12_turn 53 = .ok (.iload_n 1, 1) := bdX12_turn_50.2.1
theorem dX12_turn_54 : decode cX12_turn 54 = .ok (.ishr, 1) := bdX12_turn_50.2.2.1
theorem dX12_turn_55 : decode cX12_turn 55 = .ok (.iconst 1, 1) := bdX12_turn_50.2.2.2.1
theorem dX12_turn_56 : decode cX12_turn 56 = .ok (.iand, 1) := bdX12_turn_50.2.2.2.2.1
theorem dX12_turn_57 : decode cX12_turn 57 = .ok (.ireturn, 1) := bdX12_turn_50.2.2.2.2.2
theorem bdX12_moveTo_0 : (decode cX12_moveTo 0 = .ok (.aload_n 0, 1)) ∧ (decode cX12_moveTo 1 = .ok (.iload_n 1, 1)) ∧ (decode cX12_moveTo 2 = .ok (.invokevirtual 374, 3)) ∧ (decode cX12_moveTo 5 = .ok (.istore_n 3, 1)) ∧ (decode cX12_moveTo 6 = .ok (.iload_n 3, 1)) ∧ (decode cX12_moveTo 7 = .ok (.istore 4, 2)) ∧ (decode cX12_moveTo 9 = .ok (.iload 4, 2)) ∧ (decode cX12_moveTo 11 = .ok (.iload_n 2, 1)) ∧ (decode cX12_moveTo 12 = .ok (.if_icmp .ge 25, 3)) ∧ (decode cX12_moveTo 15 = .ok (.aload_n 0, 1)) := by decide +kernel
theorem dX12_moveTo_0 : decode cX12_moveTo 0 = .ok (.aload_n 0, 1) := bdX12_moveTo_0.1
theorem dX12_moveTo_1 : decode cX12_moveTo 1 = .ok (.iload_n 1, 1) := bdX12_moveTo_0.2.1
theorem dX12_moveTo_2 : decode cX12_moveTo 2 = .ok (.invokevirtual 374, 3) := bdX12_moveTo_0.2.2.1
theorem dX12_moveTo_5 : decode cX12_moveTo 5 = .ok (.istore_n 3, 1) := bdX12_moveTo_0.2.2.2.1
theorem dX12_moveTo_6 : decode cX12_moveTo 6 = .ok (.iload_n 3, 1) := bdX12_moveTo_0.2.2.2.2.1
theorem dX12_moveTo_7 : decode cX12_moveTo 7 = .ok (.istore 4, 2) := bdX12_moveTo_0.2.2.2.2.2.1
theorem dX12_moveTo_9 : decode cX12_moveTo 9 = .ok (.iload 4, 2) := bdX12_moveTo_0.2.2.2.2.2.2.1
theorem dX12_moveTo_11 : decode cX12_moveTo 11 = .ok (.iload_n 2, 1) := bdX12_moveTo_0.2.2.2.2.2.2.2.1
theorem dX12_moveTo_12 : decode cX12_moveTo 12 = .ok (.if_icmp .ge 25, 3) := bdX12_moveTo_0.2.2.2.2.2.2.2.2.1
theorem dX12_moveTo_15 : decode cX12_moveTo 15 = .ok (.aload_n 0, 1) := bdX12_moveTo_0.2.2.2.2.2.2.2.2.2
theorem bdX12_moveTo_16 : (decode cX12_moveTo 16 = .ok (.getfield 79, 3)) ∧ (decode cX12_moveTo 19 = .ok (.iload 4, 2)) ∧ (decode cX12_moveTo 21 = .ok (.aload_n 0, 1)) ∧ (decode cX12_moveTo 22 = .ok (.getfield 79, 3)) ∧ (decode cX12_moveTo 25 = .ok (.iload 4, 2)) ∧ (decode cX12_moveTo 27 = .ok (.iconst 1, 1)) ∧ (decode cX12_moveTo 28 = .ok (.iadd, 1)) ∧ (decode cX12_moveTo 29 = .ok (.iaload, 1)) ∧ (decode cX12_moveTo 30 = .ok (.iastore, 1)) ∧ (decode cX12_moveTo 31 = .ok (.iinc 4 1, 3)) := by decide +kernel
theorem dX12_moveTo_16 : decode cX12_moveTo 16 = .ok (.getfield 79, 3) := bdX12_moveTo_16.1
theorem dX12_moveTo_19 : decode cX12_moveTo 19 = .ok (.iload 4, 2) := bdX12_moveTo_16.2.1
theorem dX12_moveTo_21 : decode cX12_moveTo 21 = .ok (.aload_n 0, 1) := bdX12_moveTo_16.2.2.1
theorem dX12_moveTo_22 : decode cX12_moveTo 22 = .ok (.getfield 79, 3) := bdX12_moveTo_16.2.2.2.1
theorem dX12_moveTo_25 : decode cX12_moveTo 25 = .ok (.iload 4, 2) := bdX12_moveTo_16.2.2.2.2.1
theorem dX12_moveTo_27 : decode cX12_moveTo 27 = .ok (.iconst 1, 1) := bdX12_moveTo_16.2.2.2.2.2.1
theorem dX12_moveTo_28 : decode cX12_moveTo 28 = .ok (.iadd, 1) := bdX12_moveTo_16.2.2.2.2.2.2.1
theorem dX12_moveTo_29 : decode cX12_moveTo 29 = .ok (.iaload, 1) := bdX12_moveTo_16.2.2.2.2.2.2.2.1
theorem dX12_moveTo_30 : decode cX12_moveTo 30 = .ok (.iastore, 1) := bdX12_moveTo_16.2.2.2.2.2.2.2.2.1
theorem dX12_moveTo_31 : decode cX12_moveTo 31 = .ok (.iinc 4 1, 3) := bdX12_moveTo_16.2.2.2.2.2.2.2.2.2
theorem bdX12_moveTo_34 : (decode cX12_moveTo 34 = .ok (.goto (-25), 3)) ∧ (decode cX12_moveTo 37 = .ok (.iload_n 3, 1)) ∧ (decode cX12_moveTo 38 = .ok (.istore 4, 2)) ∧ (decode cX12_moveTo 40 = .ok (.iload 4, 2)) ∧ (decode cX12_moveTo 42 = .ok (.iload_n 2, 1)) ∧ (decode cX12_moveTo 43 = .ok (.if_icmp .le 25, 3)) ∧ (decode cX12_moveTo 46 = .ok (.aload_n 0, 1)) ∧ (decode cX12_moveTo 47 = .ok (.getfield 79, 3)) ∧ (decode cX12_moveTo 50 = .ok (.iload 4, 2)) ∧ (decode cX12_moveTo 52 = .ok (.aload_n 0, 1)) := by decide +kernel
theorem dX12_moveTo_34 : decode cX12_moveTo 34 = .ok (.goto (-25), 3) := bdX12_moveTo_34.1
theorem dX12_moveTo_37 : decode cX12_moveTo 37 = .ok (.iload_n 3, 1) := bdX12_moveTo_34.2.1
theorem dX12_moveTo_38 : decode cX12_moveTo 38 = .ok (.istore 4, 2) := bdX12_moveTo_34.2.2.1
theorem dX12_moveTo_40 : decode cX12_moveTo 40 = .ok (.iload 4, 2) := bdX12_moveTo_34.2.2.2.1
theorem dX12_moveTo_42 : decode cX12_moveTo 42 = .ok (.iload_n 2, 1) := bdX12_moveTo_34.2.2.2.2.1
theorem dX12_moveTo_43 : decode cX12_moveTo 43 = .ok (.if_icmp .le 25, 3) := bdX12_moveTo_34.2.2.2.2.2.1
theorem dX12_moveTo_46 : decode cX12_moveTo 46 = .ok (.aload_n 0, 1) := bdX12_moveTo_34.2.2.2.2.2.2.1
theorem dX12_moveTo_47 : decode cX12_moveTo 47 = .ok (.getfield 79, 3) := bdX12_moveTo_34.2.2.2.2.2.2.2.1
theorem dX12_moveTo_50 : decode cX12_moveTo 50 = .ok (.iload 4, 2) := bdX12_moveTo_34.2.2.2.2.2.2.2.2.1
theorem dX12_moveTo_52 : decode cX12_moveTo 52 = .ok (.aload_n 0, 1) := bdX12_moveTo_34.2.2.2.2.2.2.2.2.2
theorem bdX12_moveTo_53 : (decode cX12_moveTo 53 = .ok (.getfield 79, 3)) ∧ (decode cX12_moveTo 56 = .ok (.iload 4, 2)) ∧ (decode cX12_moveTo 58 = .ok (.iconst 1, 1)) ∧ (decode cX12_moveTo 59 = .ok (.isub, 1)) ∧ (decode cX12_moveTo 60 = .ok (.iaload, 1)) ∧ (decode cX12_moveTo 61 = .ok (.iastore, 1)) ∧ (decode cX12_moveTo 62 = .ok (.iinc 4 (-1), 3)) ∧ (decode cX12_moveTo 65 = .ok (.goto (-25), 3)) ∧ (decode cX12_moveTo 68 = .ok (.aload_n 0, 1)) ∧ (decode cX12_moveTo 69 = .ok (.getfield 79, 3)) := by decide +kernel
theorem dX12_moveTo_53 : decode cX12_moveTo 53 = .ok (.getfield 79, 3) := bdX12_moveTo_53.1
theorem dX12_moveTo_56 : decode cX12_moveTo 56 = .ok (.iload 4, 2) := bdX12_moveTo_53.2.1
theorem dX12_moveTo_58 : decode cX12_moveTo 58 = .ok (.iconst 1, 1) := bdX12_moveTo_53.2.2.1
theorem dX12_moveTo_59 : decode cX12_moveTo 59 = .ok (.isub, 1) := bdX12_moveTo_53.2.2.2.1
theorem dX12_moveTo_60 : decode cX12_moveTo 60 = .ok (.iaload, 1) := bdX12_moveTo_53.2.2.2.2.1
theorem dX12_moveTo_61 : decode cX12_moveTo 61 = .ok (.iastore, 1) := bdX12_moveTo_53.2.2.2.2.2.1
theorem dX12_moveTo_62 : decode cX12_moveTo 62 = .ok (.iinc 4 (-1), 3) := bdX12_moveTo_53.2.2.2.2.2.2.1
theorem dX12_moveTo_65 : decode cX12_moveTo 65 = .ok (.goto (-25), 3) := bdX12_moveTo_53.2.2.2.2.2.2.2.1
theorem dX12_moveTo_68 : decode cX12_moveTo 68 = .ok (.aload_n 0, 1) := bdX12_moveTo_53.2.2.2.2.2.2.2.2.1
theorem dX12_moveTo_69 : decode cX12_moveTo 69 = .ok (.getfield 79, 3) := bdX12_moveTo_53.2.2.2.2.2.2.2.2.2
theorem bdX12_moveTo_72 : (decode cX12_moveTo 72 = .ok (.iload_n 2, 1)) ∧ (decode cX12_moveTo 73 = .ok (.iload_n 1, 1)) ∧ (decode cX12_moveTo 74 = .ok (.iastore, 1)) ∧ (decode cX12_moveTo 75 = .ok (.aload_n 0, 1)) ∧ (decode cX12_moveTo 76 = .ok (.invokevirtual 317, 3)) ∧ (decode cX12_moveTo 79 = .ok (.iload_n 3, 1)) ∧ (decode cX12_moveTo 80 = .ok (.ireturn, 1)) := by decide +kernel
theorem dX12_moveTo_72 : decode cX12_moveTo 72 = .ok (.iload_n 2, 1) := bdX12_moveTo_72.1
theorem dX12_moveTo_73 : decode cX12_moveTo 73 = .ok (.iload_n 1, 1) := bdX12_moveTo_72.2.1
theorem dX12_moveTo_74 : decode cX12_moveTo 74 = .ok (.iastore, 1) := bdX12_moveTo_72.2.2.1
theorem dX12_moveTo_75 : decode cX12_moveTo 75 = .ok (.aload_n 0, 1) := bdX12_moveTo_72.2.2.2.1
theorem dX12_moveTo_76 : decode cX12_moveTo 76 = .ok (.invokevirtual 317, 3) := bdX12_moveTo_72.2.2.2.2.1
theorem dX12_moveTo_79 : decode cX12_moveTo 79 = .ok (.iload_n 3, 1) := bdX12_moveTo_72.2.2.2.2.2.1
theorem dX12_moveTo_80 : decode cX12_moveTo 80 = .ok (.ireturn, 1) := bdX12_moveTo_72.2.2.2.2.2.2
theorem bdX12_order_0 : (decode cX12_order 0 = .ok (.aload_n 0, 1)) ∧ (decode cX12_order 1 = .ok (.iconst 0, 1)) ∧ (decode cX12_order 2 = .ok (.putfield 140, 3)) ∧ (decode cX12_order 5 = .ok (.aload_n 0, 1)) ∧ (decode cX12_order 6 = .ok (.iload_n 1, 1)) ∧ (decode cX12_order 7 = .ok (.invokevirtual 371, 3)) ∧ (decode cX12_order 10 = .ok (.ifCond .ne 9, 3)) ∧ (decode cX12_order 13 = .ok (.aload_n 0, 1)) ∧ (decode cX12_order 14 = .ok (.iconst 1, 1)) ∧ (decode cX12_order 15 = .ok (.invokevirtual 290, 3)) := by decide +kernel
theorem dX12_order_0 : decode cX12_order 0 = .ok (.aload_n 0, 1) := bdX12_order_0.1
theorem dX12_order_1 : decode cX12_order 1 = .ok (.iconst 0, 1) := bdX12_order_0.2.1
theorem dX12_order_2 : decode cX12_order 2 = .ok (.putfield 140, 3) := bdX12_order_0.2.2.1
theorem dX12_order_5 : decode cX12_order 5 = .ok (.aload_n 0, 1) := bdX12_order_0.2.2.2.1
theorem dX12_order_6 : decode cX12_order 6 = .ok (.iload_n 1, 1) := bdX12_order_0.2.2.2.2.1
theorem dX12_order_7 : decode cX12_order 7 = .ok (.invokevirtual 371, 3) := bdX12_order_0.2.2.2.2.2.1
theorem dX12_order_10 : decode cX12_order 10 = .ok (.ifCond .ne 9, 3) := bdX12_order_0.2.2.2.2.2.2.1
theorem dX12_order_13 : decode cX12_order 13 = .ok (.aload_n 0, 1) := bdX12_order_0.2.2.2.2.2.2.2.1
theorem dX12_order_14 : decode cX12_order 14 = .ok (.iconst 1, 1) := bdX12_order_0.2.2.2.2.2.2.2.2.1
theorem dX12_order_15 : decode cX12_order 15 = .ok (.invokevirtual 290, 3) := bdX12_order_0.2.2.2.2.2.2.2.2.2
theorem bdX12_order_18 : (decode cX12_order 18 = .ok (.ireturn, 1)) ∧ (decode cX12_order 19 = .ok (.iload_n 2, 1)) ∧ (decode cX12_order 20 = .ok (.i2l, 1)) ∧ (decode cX12_order 21 = .ok (.lconst 0, 1)) ∧ (decode cX12_order 22 = .ok (.aload_n 0, 1)) ∧ (decode cX12_order 23 = .ok (.getfield 35, 3)) ∧ (decode cX12_order 26 = .ok (.iconst 0, 1)) ∧ (decode cX12_order 27 = .ok (.iaload, 1)) ∧ (decode cX12_order 28 = .ok (.iconst 1, 1)) ∧ (decode cX12_order 29 = .ok (.isub, 1)) := by decide +kernel
theorem dX12_order_18 : decode cX12_order 18 = .ok (.ireturn, 1) := bdX12_order_18.1
theorem dX12_order_19 : decode cX12_order 19 = .ok (.iload_n 2, 1) := bdX12_order_18.2.1
theorem dX12_order_20 : decode cX12_order 20 = .ok (.i2l, 1) := bdX12_order_18.2.2.1
theorem dX12_order_21 : decode cX12_order 21 = .ok (.lconst 0, 1) := bdX12_order_18.2.2.2.1
theorem dX12_order_22 : decode cX12_order 22 = .ok (.aload_n 0, 1) := bdX12_order_18.2.2.2.2.1
theorem dX12_order_23 : decode cX12_order 23 = .ok (.getfield 35, 3) := bdX12_order_18.2.2.2.2.2.1
theorem dX12_order_26 : decode cX12_order 26 = .ok (.iconst 0, 1) := bdX12_order_18.2.2.2.2.2.2.1
theorem dX12_order_27 : decode cX12_order 27 = .ok (.iaload, 1) := bdX12_order_18.2.2.2.2.2.2.2.1
theorem dX12_order_28 : decode cX12_order 28 = .ok (.iconst 1, 1) := bdX12_order_18.2.2.2.2.2.2.2.2.1
theorem dX12_order_29 : decode cX12_order 29 = .ok (.isub, 1) := bdX12_order_18.2.2.2.2.2.2.2.2.2
theorem bdX12_order_30 : (decode cX12_order 30 = .ok (.i2l, 1)) ∧ (decode cX12_order 31 = .ok (.invokestatic 143, 3)) ∧ (decode cX12_order 34 = .ok (.ifCond .ne 9, 3)) ∧ (decode cX12_order 37 = .ok (.aload_n 0, 1)) ∧ (decode cX12_order 38 = .ok (.iconst 1, 1)) ∧ (decode cX12_order 39 = .ok (.invokevirtual 404, 3)) ∧ (decode cX12_order 42 = .ok (.ireturn, 1)) ∧ (decode cX12_order 43 = .ok (.aload_n 0, 1)) ∧ (decode cX12_order 44 = .ok (.invokevirtual 398, 3)) ∧ (decode cX12_order 47 = .ok (.aload_n 0, 1)) := by decide +kernel
theorem dX12_order_30 : decode cX12_order 30 = .ok (.i2l, 1) := bdX12_order_30.1
theorem dX12_order_31 : decode cX12_order 31 = .ok (.invokestatic 143, 3) := bdX12_order_30.2.1
theorem dX12_order_34 : decode cX12_order 34 = .ok (.ifCond .ne 9, 3) := bdX12_order_30.2.2.1
theorem dX12_order_37 : decode cX12_order 37 = .ok (.aload_n 0, 1) := bdX12_order_30.2.2.2.1
theorem dX12_order_38 : decode cX12_order 38 = .ok (.iconst 1, 1) := bdX12_order_30.2.2.2.2.1
theorem dX12_order_39 : decode cX12_order 39 = .ok (.invokevirtual 404, 3) := bdX12_order_30.2.2.2.2.2.1
theorem dX12_order_42 : decode cX12_order 42 = .ok (.ireturn, 1) := bdX12_order_30.2.2.2.2.2.2.1
theorem dX12_order_43 : decode cX12_order 43 = .ok (.aload_n 0, 1) := bdX12_order_30.2.2.2.2.2.2.2.1
theorem dX12_order_44 : decode cX12_order 44 = .ok (.invokevirtual 398, 3) := bdX12_order_30.2.2.2.2.2.2.2.2.1
theorem dX12_order_47 : decode cX12_order 47 = .ok (.aload_n 0, 1) := bdX12_order_30.2.2.2.2.2.2.2.2.2
theorem bdX12_order_48 : (decode cX12_order 48 = .ok (.iload_n 1, 1)) ∧ (decode cX12_order 49 = .ok (.iload_n 2, 1)) ∧ (decode cX12_order 50 = .ok (.invokevirtual 407, 3)) ∧ (decode cX12_order 53 = .ok (.ireturn, 1)) := by decide +kernel
theorem dX12_order_48 : decode cX12_order 48 = .ok (.iload_n 1, 1) := bdX12_order_48.1
theorem dX12_order_49 : decode cX12_order 49 = .ok (.iload_n 2, 1) := bdX12_order_48.2.1
theorem dX12_order_50 : decode cX12_order 50 = .ok (.invokevirtual 407, 3) := bdX12_order_48.2.2.1
theorem dX12_order_53 : decode cX12_order 53 = .ok (.ireturn, 1) := bdX12_order_48.2.2.2
theorem bdX12_exchange_0 : (decode cX12_exchange 0 = .ok (.aload_n 0, 1)) ∧ (decode cX12_exchange 1 = .ok (.iconst 0, 1)) ∧ (decode cX12_exchange 2 = .ok (.putfield 140, 3)) ∧ (decode cX12_exchange 5 = .ok (.aload_n 0, 1)) ∧ (decode cX12_exchange 6 = .ok (.iload_n 1, 1)) ∧ (decode cX12_exchange 7 = .ok (.invokevirtual 371, 3)) ∧ (decode cX12_exchange 10 = .ok (.ifCond .eq 11, 3)) ∧ (decode cX12_exchange 13 = .ok (.aload_n 0, 1)) ∧ (decode cX12_exchange 14 = .ok (.iload_n 2, 1)) ∧ (decode cX12_exchange 15 = .ok (.invokevirtual 371, 3)) := by decide +kernel
theorem dX12_exchange_0 : decode cX12_exchange 0 = .ok (.aload_n 0, 1) := bdX12_exchange_0.1
theorem dX12_exchange_1 : decode cX12_exchange 1 = .ok (.iconst 0, 1) := bdX12_exchange_0.2.1
theorem dX12_exchange_2 : decode cX12_exchange 2 = .ok (.putfield 140, 3) := bdX12_exchange_0.2.2.1
theorem dX12_exchange_5 : decode cX12_exchange 5 = .ok (.aload_n 0, 1) := bdX12_exchange_0.2.2.2.1
theorem dX12_exchange_6 : decode cX12_exchange 6 = .ok (.iload_n 1, 1) := bdX12_exchange_0.2.2.2.2.1
theorem dX12_exchange_7 : decode cX12_exchange 7 = .ok (.invokevirtual 371, 3) := bdX12_exchange_0.2.2.2.2.2.1
theorem dX12_exchange_10 : decode cX12_exchange 10 = .ok (.ifCond .eq 11, 3) := bdX12_exchange_0.2.2.2.2.2.2.1
theorem dX12_exchange_13 : decode cX12_exchange 13 = .ok (.aload_n 0, 1) := bdX12_exchange_0.2.2.2.2.2.2.2.1
theorem dX12_exchange_14 : decode cX12_exchange 14 = .ok (.iload_n 2, 1) := bdX12_exchange_0.2.2.2.2.2.2.2.2.1
theorem dX12_exchange_15 : decode cX12_exchange 15 = .ok (.invokevirtual 371, 3) := bdX12_exchange_0.2.2.2.2.2.2.2.2.2
theorem bdX12_exchange_18 : (decode cX12_exchange 18 = .ok (.ifCond .ne 9, 3)) ∧ (decode cX12_exchange 21 = .ok (.aload_n 0, 1)) ∧ (decode cX12_exchange 22 = .ok (.iconst 1, 1)) ∧ (decode cX12_exchange 23 = .ok (.invokevirtual 410, 3)) ∧ (decode cX12_exchange 26 = .ok (.ireturn, 1)) ∧ (decode cX12_exchange 27 = .ok (.iload_n 1, 1)) ∧ (decode cX12_exchange 28 = .ok (.iload_n 2, 1)) ∧ (decode cX12_exchange 29 = .ok (.if_icmp .ne 15, 3)) ∧ (decode cX12_exchange 32 = .ok (.aload_n 0, 1)) ∧ (decode cX12_exchange 33 = .ok (.getfield 63, 3)) := by decide +kernel
theorem dX12_exchange_18 : decode cX12_exchange 18 = .ok (.ifCond .ne 9, 3) := bdX12_exchange_18.1
theorem dX12_exchange_21 : decode cX12_exchange 21 = .ok (.aload_n 0, 1) := bdX12_exchange_18.2.1
theorem dX12_exchange_22 : decode cX12_exchange 22 = .ok (.iconst 1, 1) := bdX12_exchange_18.2.2.1
theorem dX12_exchange_23 : decode cX12_exchange 23 = .ok (.invokevirtual 410, 3) := bdX12_exchange_18.2.2.2.1
theorem dX12_exchange_26 : decode cX12_exchange 26 = .ok (.ireturn, 1) := bdX12_exchange_18.2.2.2.2.1
theorem dX12_exchange_27 : decode cX12_exchange 27 = .ok (.iload_n 1, 1) := bdX12_exchange_18.2.2.2.2.2.1
theorem dX12_exchange_28 : decode cX12_exchange 28 = .ok (.iload_n 2, 1) := bdX12_exchange_18.2.2.2.2.2.2.1
theorem dX12_exchange_29 : decode cX12_exchange 29 = .ok (.if_icmp .ne 15, 3) := bdX12_exchange_18.2.2.2.2.2.2.2.1
theorem dX12_exchange_32 : decode cX12_exchange 32 = .ok (.aload_n 0, 1) := bdX12_exchange_18.2.2.2.2.2.2.2.2.1
theorem dX12_exchange_33 : decode cX12_exchange 33 = .ok (.getfield 63, 3) := bdX12_exchange_18.2.2.2.2.2.2.2.2.2
theorem bdX12_exchange_36 : (decode cX12_exchange 36 = .ok (.iconst 1, 1)) ∧ (decode cX12_exchange 37 = .ok (.dup2, 1)) ∧ (decode cX12_exchange 38 = .ok (.iaload, 1)) ∧ (decode cX12_exchange 39 = .ok (.iconst 1, 1)) ∧ (decode cX12_exchange 40 = .ok (.iadd, 1)) ∧ (decode cX12_exchange 41 = .ok (.iastore, 1)) ∧ (decode cX12_exchange 42 = .ok (.iconst 0, 1)) ∧ (decode cX12_exchange 43 = .ok (.ireturn, 1)) ∧ (decode cX12_exchange 44 = .ok (.aload_n 0, 1)) ∧ (decode cX12_exchange 45 = .ok (.invokevirtual 398, 3)) := by decide +kernel
theorem dX12_exchange_36 : decode cX12_exchange 36 = .ok (.iconst 1, 1) := bdX12_exchange_36.1
theorem dX12_exchange_37 : decode cX12_exchange 37 = .ok (.dup2, 1) := bdX12_exchange_36.2.1
theorem dX12_exchange_38 : decode cX12_exchange 38 = .ok (.iaload, 1) := bdX12_exchange_36.2.2.1
theorem dX12_exchange_39 : decode cX12_exchange 39 = .ok (.iconst 1, 1) := bdX12_exchange_36.2.2.2.1
theorem dX12_exchange_40 : decode cX12_exchange 40 = .ok (.iadd, 1) := bdX12_exchange_36.2.2.2.2.1
theorem dX12_exchange_41 : decode cX12_exchange 41 = .ok (.iastore, 1) := bdX12_exchange_36.2.2.2.2.2.1
theorem dX12_exchange_42 : decode cX12_exchange 42 = .ok (.iconst 0, 1) := bdX12_exchange_36.2.2.2.2.2.2.1
theorem dX12_exchange_43 : decode cX12_exchange 43 = .ok (.ireturn, 1) := bdX12_exchange_36.2.2.2.2.2.2.2.1
theorem dX12_exchange_44 : decode cX12_exchange 44 = .ok (.aload_n 0, 1) := bdX12_exchange_36.2.2.2.2.2.2.2.2.1
theorem dX12_exchange_45 : decode cX12_exchange 45 = .ok (.invokevirtual 398, 3) := bdX12_exchange_36.2.2.2.2.2.2.2.2.2
theorem bdX12_exchange_48 : (decode cX12_exchange 48 = .ok (.aload_n 0, 1)) ∧ (decode cX12_exchange 49 = .ok (.getfield 76, 3)) ∧ (decode cX12_exchange 52 = .ok (.iload_n 1, 1)) ∧ (decode cX12_exchange 53 = .ok (.iaload, 1)) ∧ (decode cX12_exchange 54 = .ok (.istore_n 3, 1)) ∧ (decode cX12_exchange 55 = .ok (.aload_n 0, 1)) ∧ (decode cX12_exchange 56 = .ok (.getfield 76, 3)) ∧ (decode cX12_exchange 59 = .ok (.iload_n 1, 1)) ∧ (decode cX12_exchange 60 = .ok (.aload_n 0, 1)) ∧ (decode cX12_exchange 61 = .ok (.getfield 76, 3)) := by decide +kernel
theorem dX12_exchange_48 : decode cX12_exchange 48 = .ok (.aload_n 0, 1) := bdX12_exchange_48.1
theorem dX12_exchange_49 : decode cX12_exchange 49 = .ok (.getfield 76, 3) := bdX12_exchange_48.2.1
theorem dX12_exchange_52 : decode cX12_exchange 52 = .ok (.iload_n 1, 1) := bdX12_exchange_48.2.2.1
theorem dX12_exchange_53 : decode cX12_exchange 53 = .ok (.iaload, 1) := bdX12_exchange_48.2.2.2.1
theorem dX12_exchange_54 : decode cX12_exchange 54 = .ok (.istore_n 3, 1) := bdX12_exchange_48.2.2.2.2.1
theorem dX12_exchange_55 : decode cX12_exchange 55 = .ok (.aload_n 0, 1) := bdX12_exchange_48.2.2.2.2.2.1
theorem dX12_exchange_56 : decode cX12_exchange 56 = .ok (.getfield 76, 3) := bdX12_exchange_48.2.2.2.2.2.2.1
theorem dX12_exchange_59 : decode cX12_exchange 59 = .ok (.iload_n 1, 1) := bdX12_exchange_48.2.2.2.2.2.2.2.1
theorem dX12_exchange_60 : decode cX12_exchange 60 = .ok (.aload_n 0, 1) := bdX12_exchange_48.2.2.2.2.2.2.2.2.1
theorem dX12_exchange_61 : decode cX12_exchange 61 = .ok (.getfield 76, 3) := bdX12_exchange_48.2.2.2.2.2.2.2.2.2
theorem bdX12_exchange_64 : (decode cX12_exchange 64 = .ok (.iload_n 2, 1)) ∧ (decode cX12_exchange 65 = .ok (.iaload, 1)) ∧ (decode cX12_exchange 66 = .ok (.iastore, 1)) ∧ (decode cX12_exchange 67 = .ok (.aload_n 0, 1)) ∧ (decode cX12_exchange 68 = .ok (.getfield 76, 3)) ∧ (decode cX12_exchange 71 = .ok (.iload_n 2, 1)) ∧ (decode cX12_exchange 72 = .ok (.iload_n 3, 1)) ∧ (decode cX12_exchange 73 = .ok (.iastore, 1)) ∧ (decode cX12_exchange 74 = .ok (.iconst 1, 1)) ∧ (decode cX12_exchange 75 = .ok (.ireturn, 1)) := by decide +kernel
theorem dX12_exchange_64 : decode cX12_exchange 64 = .ok (.iload_n 2, 1) := bdX12_exchange_64.1
theorem dX12_exchange_65 : decode cX12_exchange 65 = .ok (.iaload, 1) := bdX12_exchange_64.2.1
theorem dX12_exchange_66 : decode cX12_exchange 66 = .ok (.iastore, 1) := bdX12_exchange_64.2.2.1
theorem dX12_exchange_67 : decode cX12_exchange 67 = .ok (.aload_n 0, 1) := bdX12_exchange_64.2.2.2.1
theorem dX12_exchange_68 : decode cX12_exchange 68 = .ok (.getfield 76, 3) := bdX12_exchange_64.2.2.2.2.1
theorem dX12_exchange_71 : decode cX12_exchange 71 = .ok (.iload_n 2, 1) := bdX12_exchange_64.2.2.2.2.2.1
theorem dX12_exchange_72 : decode cX12_exchange 72 = .ok (.iload_n 3, 1) := bdX12_exchange_64.2.2.2.2.2.2.1
theorem dX12_exchange_73 : decode cX12_exchange 73 = .ok (.iastore, 1) := bdX12_exchange_64.2.2.2.2.2.2.2.1
theorem dX12_exchange_74 : decode cX12_exchange 74 = .ok (.iconst 1, 1) := bdX12_exchange_64.2.2.2.2.2.2.2.2.1
theorem dX12_exchange_75 : decode cX12_exchange 75 = .ok (.ireturn, 1) := bdX12_exchange_64.2.2.2.2.2.2.2.2.2
theorem bdX12_market_0 : (decode cX12_market 0 = .ok (.aload_n 0, 1)) ∧ (decode cX12_market 1 = .ok (.iconst 0, 1)) ∧ (decode cX12_market 2 = .ok (.putfield 140, 3)) ∧ (decode cX12_market 5 = .ok (.iload_n 1, 1)) ∧ (decode cX12_market 6 = .ok (.i2l, 1)) ∧ (decode cX12_market 7 = .ok (.lconst 0, 1)) ∧ (decode cX12_market 8 = .ok (.ldc2_w 413, 3)) ∧ (decode cX12_market 11 = .ok (.invokestatic 143, 3)) ∧ (decode cX12_market 14 = .ok (.ifCond .eq 15, 3)) ∧ (decode cX12_market 17 = .ok (.iload_n 2, 1)) := by decide +kernel
theorem dX12_market_0 : decode cX12_market 0 = .ok (.aload_n 0, 1) := bdX12_market_0.1
theorem dX12_market_1 : decode cX12_market 1 = .ok (.iconst 0, 1) := bdX12_market_0.2.1
theorem dX12_market_2 : decode cX12_market 2 = .ok (.putfield 140, 3) := bdX12_market_0.2.2.1
theorem dX12_market_5 : decode cX12_market 5 = .ok (.iload_n 1, 1) := bdX12_market_0.2.2.2.1
theorem dX12_market_6 : decode cX12_market 6 = .ok (.i2l, 1) := bdX12_market_0.2.2.2.2.1
theorem dX12_market_7 : decode cX12_market 7 = .ok (.lconst 0, 1) := bdX12_market_0.2.2.2.2.2.1
theorem dX12_market_8 : decode cX12_market 8 = .ok (.ldc2_w 413, 3) := bdX12_market_0.2.2.2.2.2.2.1
theorem dX12_market_11 : decode cX12_market 11 = .ok (.invokestatic 143, 3) := bdX12_market_0.2.2.2.2.2.2.2.1
theorem dX12_market_14 : decode cX12_market 14 = .ok (.ifCond .eq 15, 3) := bdX12_market_0.2.2.2.2.2.2.2.2.1
theorem dX12_market_17 : decode cX12_market 17 = .ok (.iload_n 2, 1) := bdX12_market_0.2.2.2.2.2.2.2.2.2
theorem bdX12_market_18 : (decode cX12_market 18 = .ok (.i2l, 1)) ∧ (decode cX12_market 19 = .ok (.lconst 0, 1)) ∧ (decode cX12_market 20 = .ok (.ldc2_w 413, 3)) ∧ (decode cX12_market 23 = .ok (.invokestatic 143, 3)) ∧ (decode cX12_market 26 = .ok (.ifCond .ne 9, 3)) ∧ (decode cX12_market 29 = .ok (.aload_n 0, 1)) ∧ (decode cX12_market 30 = .ok (.iconst 1, 1)) ∧ (decode cX12_market 31 = .ok (.invokevirtual 404, 3)) ∧ (decode cX12_market 34 = .ok (.ireturn, 1)) ∧ (decode cX12_market 35 = .ok (.aload_n 0, 1)) := by decide +kernel
theorem dX12_market_18 : decode cX12_market 18 = .ok (.i2l, 1) := bdX12_market_18.1
theorem dX12_market_19 : decode cX12_market 19 = .ok (.lconst 0, 1) := bdX12_market_18.2.1
theorem dX12_market_20 : decode cX12_market 20 = .ok (.ldc2_w 413, 3) := bdX12_market_18.2.2.1
theorem dX12_market_23 : decode cX12_market 23 = .ok (.invokestatic 143, 3) := bdX12_market_18.2.2.2.1
theorem dX12_market_26 : decode cX12_market 26 = .ok (.ifCond .ne 9, 3) := bdX12_market_18.2.2.2.2.1
theorem dX12_market_29 : decode cX12_market 29 = .ok (.aload_n 0, 1) := bdX12_market_18.2.2.2.2.2.1
theorem dX12_market_30 : decode cX12_market 30 = .ok (.iconst 1, 1) := bdX12_market_18.2.2.2.2.2.2.1
theorem dX12_market_31 : decode cX12_market 31 = .ok (.invokevirtual 404, 3) := bdX12_market_18.2.2.2.2.2.2.2.1
theorem dX12_market_34 : decode cX12_market 34 = .ok (.ireturn, 1) := bdX12_market_18.2.2.2.2.2.2.2.2.1
theorem dX12_market_35 : decode cX12_market 35 = .ok (.aload_n 0, 1) := bdX12_market_18.2.2.2.2.2.2.2.2.2
theorem bdX12_market_36 : (decode cX12_market 36 = .ok (.invokevirtual 398, 3)) ∧ (decode cX12_market 39 = .ok (.bipush 100, 2)) ∧ (decode cX12_market 41 = .ok (.aload_n 0, 1)) ∧ (decode cX12_market 42 = .ok (.getfield 137, 3)) ∧ (decode cX12_market 45 = .ok (.imul, 1)) ∧ (decode cX12_market 46 = .ok (.aload_n 0, 1)) ∧ (decode cX12_market 47 = .ok (.getfield 134, 3)) ∧ (decode cX12_market 50 = .ok (.iadd, 1)) ∧ (decode cX12_market 51 = .ok (.istore_n 3, 1)) ∧ (decode cX12_market 52 = .ok (.aload_n 0, 1)) := by decide +kernel
theorem dX12_market_36 : decode cX12_market 36 = .ok (.invokevirtual 398, 3) := bdX12_market_36.1
theorem dX12_market_39 : decode cX12_market 39 = .ok (.bipush 100, 2) := bdX12_market_36.2.1
theorem dX12_market_41 : decode cX12_market 41 = .ok (.aload_n 0, 1) := bdX12_market_36.2.2.1
theorem dX12_market_42 : decode cX12_market 42 = .ok (.getfield 137, 3) := bdX12_market_36.2.2.2.1
theorem dX12_market_45 : decode cX12_market 45 = .ok (.imul, 1) := bdX12_market_36.2.2.2.2.1
theorem dX12_market_46 : decode cX12_market 46 = .ok (.aload_n 0, 1) := bdX12_market_36.2.2.2.2.2.1
theorem dX12_market_47 : decode cX12_market 47 = .ok (.getfield 134, 3) := bdX12_market_36.2.2.2.2.2.2.1
theorem dX12_market_50 : decode cX12_market 50 = .ok (.iadd, 1) := bdX12_market_36.2.2.2.2.2.2.2.1
theorem dX12_market_51 : decode cX12_market 51 = .ok (.istore_n 3, 1) := bdX12_market_36.2.2.2.2.2.2.2.2.1
theorem dX12_market_52 : decode cX12_market 52 = .ok (.aload_n 0, 1) := bdX12_market_36.2.2.2.2.2.2.2.2.2
theorem bdX12_market_53 : (decode cX12_market 53 = .ok (.iload_n 1, 1)) ∧ (decode cX12_market 54 = .ok (.putfield 134, 3)) ∧ (decode cX12_market 57 = .ok (.aload_n 0, 1)) ∧ (decode cX12_market 58 = .ok (.iload_n 2, 1)) ∧ (decode cX12_market 59 = .ok (.putfield 137, 3)) ∧ (decode cX12_market 62 = .ok (.aload_n 0, 1)) ∧ (decode cX12_market 63 = .ok (.invokevirtual 317, 3)) ∧ (decode cX12_market 66 = .ok (.iload_n 3, 1)) ∧ (decode cX12_market 67 = .ok (.ireturn, 1)) := by decide +kernel
theorem dX12_market_53 : decode cX12_market 53 = .ok (.iload_n 1, 1) := bdX12_market_53.1
theorem dX12_market_54 : decode cX12_market 54 = .ok (.putfield 134, 3) := bdX12_market_53.2.1
theorem dX12_market_57 : decode cX12_market 57 = .ok (.aload_n 0, 1) := bdX12_market_53.2.2.1
theorem dX12_market_58 : decode cX12_market 58 = .ok (.iload_n 2, 1) := bdX12_market_53.2.2.2.1
theorem dX12_market_59 : decode cX12_market 59 = .ok (.putfield 137, 3) := bdX12_market_53.2.2.2.2.1
theorem dX12_market_62 : decode cX12_market 62 = .ok (.aload_n 0, 1) := bdX12_market_53.2.2.2.2.2.1
theorem dX12_market_63 : decode cX12_market 63 = .ok (.invokevirtual 317, 3) := bdX12_market_53.2.2.2.2.2.2.1
theorem dX12_market_66 : decode cX12_market 66 = .ok (.iload_n 3, 1) := bdX12_market_53.2.2.2.2.2.2.2.1
theorem dX12_market_67 : decode cX12_market 67 = .ok (.ireturn, 1) := bdX12_market_53.2.2.2.2.2.2.2.2
theorem bdX12_years_0 : (decode cX12_years 0 = .ok (.aload_n 0, 1)) ∧ (decode cX12_years 1 = .ok (.iconst 0, 1)) ∧ (decode cX12_years 2 = .ok (.putfield 140, 3)) ∧ (decode cX12_years 5 = .ok (.iload_n 1, 1)) ∧ (decode cX12_years 6 = .ok (.i2l, 1)) ∧ (decode cX12_years 7 = .ok (.lconst 1, 1)) ∧ (decode cX12_years 8 = .ok (.ldc2_w 415, 3)) ∧ (decode cX12_years 11 = .ok (.invokestatic 143, 3)) ∧ (decode cX12_years 14 = .ok (.ifCond .eq 15, 3)) ∧ (decode cX12_years 17 = .ok (.aload_n 0, 1)) := by decide +kernel
theorem dX12_years_0 : decode cX12_years 0 = .ok (.aload_n 0, 1) := bdX12_years_0.1
theorem dX12_years_1 : decode cX12_years 1 = .ok (.iconst 0, 1) := bdX12_years_0.2.1
theorem dX12_years_2 : decode cX12_years 2 = .ok (.putfield 140, 3) := bdX12_years_0.2.2.1
theorem dX12_years_5 : decode cX12_years 5 = .ok (.iload_n 1, 1) := bdX12_years_0.2.2.2.1
theorem dX12_years_6 : decode cX12_years 6 = .ok (.i2l, 1) := bdX12_years_0.2.2.2.2.1
theorem dX12_years_7 : decode cX12_years 7 = .ok (.lconst 1, 1) := bdX12_years_0.2.2.2.2.2.1
theorem dX12_years_8 : decode cX12_years 8 = .ok (.ldc2_w 415, 3) := bdX12_years_0.2.2.2.2.2.2.1
theorem dX12_years_11 : decode cX12_years 11 = .ok (.invokestatic 143, 3) := bdX12_years_0.2.2.2.2.2.2.2.1
theorem dX12_years_14 : decode cX12_years 14 = .ok (.ifCond .eq 15, 3) := bdX12_years_0.2.2.2.2.2.2.2.2.1
theorem dX12_years_17 : decode cX12_years 17 = .ok (.aload_n 0, 1) := bdX12_years_0.2.2.2.2.2.2.2.2.2
theorem bdX12_years_18 : (decode cX12_years 18 = .ok (.getfield 303, 3)) ∧ (decode cX12_years 21 = .ok (.iload_n 1, 1)) ∧ (decode cX12_years 22 = .ok (.iadd, 1)) ∧ (decode cX12_years 23 = .ok (.sipush 999, 3)) ∧ (decode cX12_years 26 = .ok (.if_icmp .le 9, 3)) ∧ (decode cX12_years 29 = .ok (.aload_n 0, 1)) ∧ (decode cX12_years 30 = .ok (.iconst 1, 1)) ∧ (decode cX12_years 31 = .ok (.invokevirtual 404, 3)) ∧ (decode cX12_years 34 = .ok (.ireturn, 1)) ∧ (decode cX12_years 35 = .ok (.aload_n 0, 1)) := by decide +kernel
theorem dX12_years_18 : decode cX12_years 18 = .ok (.getfield 303, 3) := bdX12_years_18.1
theorem dX12_years_21 : decode cX12_years 21 = .ok (.iload_n 1, 1) := bdX12_years_18.2.1
theorem dX12_years_22 : decode cX12_years 22 = .ok (.iadd, 1) := bdX12_years_18.2.2.1
theorem dX12_years_23 : decode cX12_years 23 = .ok (.sipush 999, 3) := bdX12_years_18.2.2.2.1
theorem dX12_years_26 : decode cX12_years 26 = .ok (.if_icmp .le 9, 3) := bdX12_years_18.2.2.2.2.1
theorem dX12_years_29 : decode cX12_years 29 = .ok (.aload_n 0, 1) := bdX12_years_18.2.2.2.2.2.1
theorem dX12_years_30 : decode cX12_years 30 = .ok (.iconst 1, 1) := bdX12_years_18.2.2.2.2.2.2.1
theorem dX12_years_31 : decode cX12_years 31 = .ok (.invokevirtual 404, 3) := bdX12_years_18.2.2.2.2.2.2.2.1
theorem dX12_years_34 : decode cX12_years 34 = .ok (.ireturn, 1) := bdX12_years_18.2.2.2.2.2.2.2.2.1
theorem dX12_years_35 : decode cX12_years 35 = .ok (.aload_n 0, 1) := bdX12_years_18.2.2.2.2.2.2.2.2.2
theorem bdX12_years_36 : (decode cX12_years 36 = .ok (.invokevirtual 398, 3)) ∧ (decode cX12_years 39 = .ok (.aload_n 0, 1)) ∧ (decode cX12_years 40 = .ok (.iload_n 1, 1)) ∧ (decode cX12_years 41 = .ok (.invokevirtual 417, 3)) ∧ (decode cX12_years 44 = .ok (.aload_n 0, 1)) ∧ (decode cX12_years 45 = .ok (.getfield 303, 3)) ∧ (decode cX12_years 48 = .ok (.ireturn, 1)) := by decide +kernel
theorem dX12_years_36 : decode cX12_years 36 = .ok (.invokevirtual 398, 3) := bdX12_years_36.1
theorem dX12_years_39 : decode cX12_years 39 = .ok (.aload_n 0, 1) := bdX12_years_36.2.1
theorem dX12_years_40 : decode cX12_years 40 = .ok (.iload_n 1, 1) := bdX12_years_36.2.2.1
theorem dX12_years_41 : decode cX12_years 41 = .ok (.invokevirtual 417, 3) := bdX12_years_36.2.2.2.1
theorem dX12_years_44 : decode cX12_years 44 = .ok (.aload_n 0, 1) := bdX12_years_36.2.2.2.2.1
theorem dX12_years_45 : decode cX12_years 45 = .ok (.getfield 303, 3) := bdX12_years_36.2.2.2.2.2.1
theorem dX12_years_48 : decode cX12_years 48 = .ok (.ireturn, 1) := bdX12_years_36.2.2.2.2.2.2
theorem bdX12_undo_0 : (decode cX12_undo 0 = .ok (.aload_n 0, 1)) ∧ (decode cX12_undo 1 = .ok (.iconst 0, 1)) ∧ (decode cX12_undo 2 = .ok (.putfield 140, 3)) ∧ (decode cX12_undo 5 = .ok (.aload_n 0, 1)) ∧ (decode cX12_undo 6 = .ok (.getfield 320, 3)) ∧ (decode cX12_undo 9 = .ok (.ifCond .ne 5, 3)) ∧ (decode cX12_undo 12 = .ok (.iconst (-1), 1)) ∧ (decode cX12_undo 13 = .ok (.ireturn, 1)) ∧ (decode cX12_undo 14 = .ok (.aload_n 0, 1)) ∧ (decode cX12_undo 15 = .ok (.dup, 1)) := by decide +kernel
theorem dX12_undo_0 : decode cX12_undo 0 = .ok (.aload_n 0, 1) := bdX12_undo_0.1
theorem dX12_undo_1 : decode cX12_undo 1 = .ok (.iconst 0, 1) := bdX12_undo_0.2.1
theorem dX12_undo_2 : decode cX12_undo 2 = .ok (.putfield 140, 3) := bdX12_undo_0.2.2.1
theorem dX12_undo_5 : decode cX12_undo 5 = .ok (.aload_n 0, 1) := bdX12_undo_0.2.2.2.1
theorem dX12_undo_6 : decode cX12_undo 6 = .ok (.getfield 320, 3) := bdX12_undo_0.2.2.2.2.1
theorem dX12_undo_9 : decode cX12_undo 9 = .ok (.ifCond .ne 5, 3) := bdX12_undo_0.2.2.2.2.2.1
theorem dX12_undo_12 : decode cX12_undo 12 = .ok (.iconst (-1), 1) := bdX12_undo_0.2.2.2.2.2.2.1
theorem dX12_undo_13 : decode cX12_undo 13 = .ok (.ireturn, 1) := bdX12_undo_0.2.2.2.2.2.2.2.1
theorem dX12_undo_14 : decode cX12_undo 14 = .ok (.aload_n 0, 1) := bdX12_undo_0.2.2.2.2.2.2.2.2.1
theorem dX12_undo_15 : decode cX12_undo 15 = .ok (.dup, 1) := bdX12_undo_0.2.2.2.2.2.2.2.2.2
theorem bdX12_undo_16 : (decode cX12_undo 16 = .ok (.getfield 320, 3)) ∧ (decode cX12_undo 19 = .ok (.iconst 1, 1)) ∧ (decode cX12_undo 20 = .ok (.isub, 1)) ∧ (decode cX12_undo 21 = .ok (.putfield 320, 3)) ∧ (decode cX12_undo 24 = .ok (.aload_n 0, 1)) ∧ (decode cX12_undo 25 = .ok (.aload_n 0, 1)) ∧ (decode cX12_undo 26 = .ok (.getfield 82, 3)) ∧ (decode cX12_undo 29 = .ok (.bipush 31, 2)) ∧ (decode cX12_undo 31 = .ok (.aload_n 0, 1)) ∧ (decode cX12_undo 32 = .ok (.getfield 320, 3)) := by decide +kernel
theorem dX12_undo_16 : decode cX12_undo 16 = .ok (.getfield 320, 3) := bdX12_undo_16.1
theorem dX12_undo_19 : decode cX12_undo 19 = .ok (.iconst 1, 1) := bdX12_undo_16.2.1
theorem dX12_undo_20 : decode cX12_undo 20 = .ok (.isub, 1) := bdX12_undo_16.2.2.1
theorem dX12_undo_21 : decode cX12_undo 21 = .ok (.putfield 320, 3) := bdX12_undo_16.2.2.2.1
theorem dX12_undo_24 : decode cX12_undo 24 = .ok (.aload_n 0, 1) := bdX12_undo_16.2.2.2.2.1
theorem dX12_undo_25 : decode cX12_undo 25 = .ok (.aload_n 0, 1) := bdX12_undo_16.2.2.2.2.2.1
theorem dX12_undo_26 : decode cX12_undo 26 = .ok (.getfield 82, 3) := bdX12_undo_16.2.2.2.2.2.2.1
theorem dX12_undo_29 : decode cX12_undo 29 = .ok (.bipush 31, 2) := bdX12_undo_16.2.2.2.2.2.2.2.1
theorem dX12_undo_31 : decode cX12_undo 31 = .ok (.aload_n 0, 1) := bdX12_undo_16.2.2.2.2.2.2.2.2.1
theorem dX12_undo_32 : decode cX12_undo 32 = .ok (.getfield 320, 3) := bdX12_undo_16.2.2.2.2.2.2.2.2.2
theorem bdX12_undo_35 : (decode cX12_undo 35 = .ok (.imul, 1)) ∧ (decode cX12_undo 36 = .ok (.invokevirtual 420, 3)) ∧ (decode cX12_undo 39 = .ok (.aload_n 0, 1)) ∧ (decode cX12_undo 40 = .ok (.getfield 320, 3)) ∧ (decode cX12_undo 43 = .ok (.ireturn, 1)) := by decide +kernel
theorem dX12_undo_35 : decode cX12_undo 35 = .ok (.imul, 1) := bdX12_undo_35.1
theorem dX12_undo_36 : decode cX12_undo 36 = .ok (.invokevirtual 420, 3) := bdX12_undo_35.2.1
theorem dX12_undo_39 : decode cX12_undo 39 = .ok (.aload_n 0, 1) := bdX12_undo_35.2.2.1
theorem dX12_undo_40 : decode cX12_undo 40 = .ok (.getfield 320, 3) := bdX12_undo_35.2.2.2.1
theorem dX12_undo_43 : decode cX12_undo 43 = .ok (.ireturn, 1) := bdX12_undo_35.2.2.2.2
theorem bdX12_isRound_0 : (decode cX12_isRound 0 = .ok (.iconst 1, 1)) ∧ (decode cX12_isRound 1 = .ok (.iload_n 1, 1)) ∧ (decode cX12_isRound 2 = .ok (.ishl, 1)) ∧ (decode cX12_isRound 3 = .ok (.istore_n 3, 1)) ∧ (decode cX12_isRound 4 = .ok (.iconst 0, 1)) ∧ (decode cX12_isRound 5 = .ok (.istore 4, 2)) ∧ (decode cX12_isRound 7 = .ok (.iload 4, 2)) ∧ (decode cX12_isRound 9 = .ok (.iload_n 2, 1)) ∧ (decode cX12_isRound 10 = .ok (.if_icmp .ge 59, 3)) ∧ (decode cX12_isRound 13 = .ok (.iconst 0, 1)) := by decide +kernel
theorem dX12_isRound_0 : decode cX12_isRound 0 = .ok (.iconst 1, 1) := bdX12_isRound_0.1
theorem dX12_isRound_1 : decode cX12_isRound 1 = .ok (.iload_n 1, 1) := bdX12_isRound_0.2.1
theorem dX12_isRound_2 : decode cX12_isRound 2 = .ok (.ishl, 1) := bdX12_isRound_0.2.2.1
theorem dX12_isRound_3 : decode cX12_isRound 3 = .ok (.istore_n 3, 1) := bdX12_isRound_0.2.2.2.1
theorem dX12_isRound_4 : decode cX12_isRound 4 = .ok (.iconst 0, 1) := bdX12_isRound_0.2.2.2.2.1
theorem dX12_isRound_5 : decode cX12_isRound 5 = .ok (.istore 4, 2) := bdX12_isRound_0.2.2.2.2.2.1
theorem dX12_isRound_7 : decode cX12_isRound 7 = .ok (.iload 4, 2) := bdX12_isRound_0.2.2.2.2.2.2.1
theorem dX12_isRound_9 : decode cX12_isRound 9 = .ok (.iload_n 2, 1) := bdX12_isRound_0.2.2.2.2.2.2.2.1
theorem dX12_isRound_10 : decode cX12_isRound 10 = .ok (.if_icmp .ge 59, 3) := bdX12_isRound_0.2.2.2.2.2.2.2.2.1
theorem dX12_isRound_13 : decode cX12_isRound 13 = .ok (.iconst 0, 1) := bdX12_isRound_0.2.2.2.2.2.2.2.2.2
theorem bdX12_isRound_14 : (decode cX12_isRound 14 = .ok (.istore 5, 2)) ∧ (decode cX12_isRound 16 = .ok (.iconst 0, 1)) ∧ (decode cX12_isRound 17 = .ok (.istore 6, 2)) ∧ (decode cX12_isRound 19 = .ok (.iload 6, 2)) ∧ (decode cX12_isRound 21 = .ok (.aload_n 0, 1)) ∧ (decode cX12_isRound 22 = .ok (.getfield 35, 3)) ∧ (decode cX12_isRound 25 = .ok (.iconst 0, 1)) ∧ (decode cX12_isRound 26 = .ok (.iaload, 1)) ∧ (decode cX12_isRound 27 = .ok (.if_icmp .ge 33, 3)) ∧ (decode cX12_isRound 30 = .ok (.iload 5, 2)) := by decide +kernel
theorem dX12_isRound_14 : decode cX12_isRound 14 = .ok (.istore 5, 2) := bdX12_isRound_14.1
theorem dX12_isRound_16 : decode cX12_isRound 16 = .ok (.iconst 0, 1) := bdX12_isRound_14.2.1
theorem dX12_isRound_17 : decode cX12_isRound 17 = .ok (.istore 6, 2) := bdX12_isRound_14.2.2.1
theorem dX12_isRound_19 : decode cX12_isRound 19 = .ok (.iload 6, 2) := bdX12_isRound_14.2.2.2.1
theorem dX12_isRound_21 : decode cX12_isRound 21 = .ok (.aload_n 0, 1) := bdX12_isRound_14.2.2.2.2.1
theorem dX12_isRound_22 : decode cX12_isRound 22 = .ok (.getfield 35, 3) := bdX12_isRound_14.2.2.2.2.2.1
theorem dX12_isRound_25 : decode cX12_isRound 25 = .ok (.iconst 0, 1) := bdX12_isRound_14.2.2.2.2.2.2.1
theorem dX12_isRound_26 : decode cX12_isRound 26 = .ok (.iaload, 1) := bdX12_isRound_14.2.2.2.2.2.2.2.1
theorem dX12_isRound_27 : decode cX12_isRound 27 = .ok (.if_icmp .ge 33, 3) := bdX12_isRound_14.2.2.2.2.2.2.2.2.1
theorem dX12_isRound_30 : decode cX12_isRound 30 = .ok (.iload 5, 2) := bdX12_isRound_14.2.2.2.2.2.2.2.2.2
theorem bdX12_isRound_32 : (decode cX12_isRound 32 = .ok (.iload_n 3, 1)) ∧ (decode cX12_isRound 33 = .ok (.iload 6, 2)) ∧ (decode cX12_isRound 35 = .ok (.invokestatic 333, 3)) ∧ (decode cX12_isRound 38 = .ok (.ifCond .eq 12, 3)) ∧ (decode cX12_isRound 41 = .ok (.aload_n 0, 1)) ∧ (decode cX12_isRound 42 = .ok (.iload 6, 2)) ∧ (decode cX12_isRound 44 = .ok (.invokevirtual 377, 3)) ∧ (decode cX12_isRound 47 = .ok (.goto 4, 3)) ∧ (decode cX12_isRound 50 = .ok (.iconst 0, 1)) ∧ (decode cX12_isRound 51 = .ok (.ior, 1)) := by decide +kernel
theorem dX12_isRound_32 : decode cX12_isRound 32 = .ok (.iload_n 3, 1) := bdX12_isRound_32.1
theorem dX12_isRound_33 : decode cX12_isRound 33 = .ok (.iload 6, 2) := bdX12_isRound_32.2.1
theorem dX12_isRound_35 : decode cX12_isRound 35 = .ok (.invokestatic 333, 3) := bdX12_isRound_32.2.2.1
theorem dX12_isRound_38 : decode cX12_isRound 38 = .ok (.ifCond .eq 12, 3) := bdX12_isRound_32.2.2.2.1
theorem dX12_isRound_41 : decode cX12_isRound 41 = .ok (.aload_n 0, 1) := bdX12_isRound_32.2.2.2.2.1
theorem dX12_isRound_42 : decode cX12_isRound 42 = .ok (.iload 6, 2) := bdX12_isRound_32.2.2.2.2.2.1
theorem dX12_isRound_44 : decode cX12_isRound 44 = .ok (.invokevirtual 377, 3) := bdX12_isRound_32.2.2.2.2.2.2.1
theorem dX12_isRound_47 : decode cX12_isRound 47 = .ok (.goto 4, 3) := bdX12_isRound_32.2.2.2.2.2.2.2.1
theorem dX12_isRound_50 : decode cX12_isRound 50 = .ok (.iconst 0, 1) := bdX12_isRound_32.2.2.2.2.2.2.2.2.1
theorem dX12_isRound_51 : decode cX12_isRound 51 = .ok (.ior, 1) := bdX12_isRound_32.2.2.2.2.2.2.2.2.2
theorem bdX12_isRound_52 : (decode cX12_isRound 52 = .ok (.istore 5, 2)) ∧ (decode cX12_isRound 54 = .ok (.iinc 6 1, 3)) ∧ (decode cX12_isRound 57 = .ok (.goto (-38), 3)) ∧ (decode cX12_isRound 60 = .ok (.iload 5, 2)) ∧ (decode cX12_isRound 62 = .ok (.istore_n 3, 1)) ∧ (decode cX12_isRound 63 = .ok (.iinc 4 1, 3)) ∧ (decode cX12_isRound 66 = .ok (.goto (-59), 3)) ∧ (decode cX12_isRound 69 = .ok (.iload_n 3, 1)) ∧ (decode cX12_isRound 70 = .ok (.iload_n 1, 1)) ∧ (decode cX12_isRound 71 = .ok (.invokestatic 333, 3)) := by decide +kernel
theorem dX12_isRound_52 : decode cX12_isRound 52 = .ok (.istore 5, 2) := bdX12_isRound_52.1
theorem dX12_isRound_54 : decode cX12_isRound 54 = .ok (.iinc 6 1, 3) := bdX12_isRound_52.2.1
theorem dX12_isRound_57 : decode cX12_isRound 57 = .ok (.goto (-38), 3) := bdX12_isRound_52.2.2.1
theorem dX12_isRound_60 : decode cX12_isRound 60 = .ok (.iload 5, 2) := bdX12_isRound_52.2.2.2.1
theorem dX12_isRound_62 : decode cX12_isRound 62 = .ok (.istore_n 3, 1) := bdX12_isRound_52.2.2.2.2.1
theorem dX12_isRound_63 : decode cX12_isRound 63 = .ok (.iinc 4 1, 3) := bdX12_isRound_52.2.2.2.2.2.1
theorem dX12_isRound_66 : decode cX12_isRound 66 = .ok (.goto (-59), 3) := bdX12_isRound_52.2.2.2.2.2.2.1
theorem dX12_isRound_69 : decode cX12_isRound 69 = .ok (.iload_n 3, 1) := bdX12_isRound_52.2.2.2.2.2.2.2.1
theorem dX12_isRound_70 : decode cX12_isRound 70 = .ok (.iload_n 1, 1) := bdX12_isRound_52.2.2.2.2.2.2.2.2.1
theorem dX12_isRound_71 : decode cX12_isRound 71 = .ok (.invokestatic 333, 3) := bdX12_isRound_52.2.2.2.2.2.2.2.2.2
theorem bdX12_isRound_74 : (decode cX12_isRound 74 = .ok (.ireturn, 1)) := by decide +kernel
theorem dX12_isRound_74 : decode cX12_isRound 74 = .ok (.ireturn, 1) := bdX12_isRound_74
theorem bdX12_ring_0 : (decode cX12_ring 0 = .ok (.aload_n 0, 1)) ∧ (decode cX12_ring 1 = .ok (.iconst 0, 1)) ∧ (decode cX12_ring 2 = .ok (.putfield 140, 3)) ∧ (decode cX12_ring 5 = .ok (.iconst 2, 1)) ∧ (decode cX12_ring 6 = .ok (.istore_n 1, 1)) ∧ (decode cX12_ring 7 = .ok (.iload_n 1, 1)) ∧ (decode cX12_ring 8 = .ok (.aload_n 0, 1)) ∧ (decode cX12_ring 9 = .ok (.getfield 35, 3)) ∧ (decode cX12_ring 12 = .ok (.iconst 0, 1)) ∧ (decode cX12_ring 13 = .ok (.iaload, 1)) := by decide +kernel
theorem dX12_ring_0 : decode cX12_ring 0 = .ok (.aload_n 0, 1) := bdX12_ring_0.1
theorem dX12_ring_1 : decode cX12_ring 1 = .ok (.iconst 0, 1) := bdX12_ring_0.2.1
theorem dX12_ring_2 : decode cX12_ring 2 = .ok (.putfield 140, 3) := bdX12_ring_0.2.2.1
theorem dX12_ring_5 : decode cX12_ring 5 = .ok (.iconst 2, 1) := bdX12_ring_0.2.2.2.1
theorem dX12_ring_6 : decode cX12_ring 6 = .ok (.istore_n 1, 1) := bdX12_ring_0.2.2.2.2.1
theorem dX12_ring_7 : decode cX12_ring 7 = .ok (.iload_n 1, 1) := bdX12_ring_0.2.2.2.2.2.1
theorem dX12_ring_8 : decode cX12_ring 8 = .ok (.aload_n 0, 1) := bdX12_ring_0.2.2.2.2.2.2.1
theorem dX12_ring_9 : decode cX12_ring 9 = .ok (.getfield 35, 3) := bdX12_ring_0.2.2.2.2.2.2.2.1
theorem dX12_ring_12 : decode cX12_ring 12 = .ok (.iconst 0, 1) := bdX12_ring_0.2.2.2.2.2.2.2.2.1
theorem dX12_ring_13 : decode cX12_ring 13 = .ok (.iaload, 1) := bdX12_ring_0.2.2.2.2.2.2.2.2.2
theorem bdX12_ring_14 : (decode cX12_ring 14 = .ok (.if_icmp .gt 38, 3)) ∧ (decode cX12_ring 17 = .ok (.iconst 0, 1)) ∧ (decode cX12_ring 18 = .ok (.istore_n 2, 1)) ∧ (decode cX12_ring 19 = .ok (.iload_n 2, 1)) ∧ (decode cX12_ring 20 = .ok (.aload_n 0, 1)) ∧ (decode cX12_ring 21 = .ok (.getfield 35, 3)) ∧ (decode cX12_ring 24 = .ok (.iconst 0, 1)) ∧ (decode cX12_ring 25 = .ok (.iaload, 1)) ∧ (decode cX12_ring 26 = .ok (.if_icmp .ge 20, 3)) ∧ (decode cX12_ring 29 = .ok (.aload_n 0, 1)) := by decide +kernel
theorem dX12_ring_14 : decode cX12_ring 14 = .ok (.if_icmp .gt 38, 3) := bdX12_ring_14.1
theorem dX12_ring_17 : decode cX12_ring 17 = .ok (.iconst 0, 1) := bdX12_ring_14.2.1
theorem dX12_ring_18 : decode cX12_ring 18 = .ok (.istore_n 2, 1) := bdX12_ring_14.2.2.1
theorem dX12_ring_19 : decode cX12_ring 19 = .ok (.iload_n 2, 1) := bdX12_ring_14.2.2.2.1
theorem dX12_ring_20 : decode cX12_ring 20 = .ok (.aload_n 0, 1) := bdX12_ring_14.2.2.2.2.1
theorem dX12_ring_21 : decode cX12_ring 21 = .ok (.getfield 35, 3) := bdX12_ring_14.2.2.2.2.2.1
theorem dX12_ring_24 : decode cX12_ring 24 = .ok (.iconst 0, 1) := bdX12_ring_14.2.2.2.2.2.2.1
theorem dX12_ring_25 : decode cX12_ring 25 = .ok (.iaload, 1) := bdX12_ring_14.2.2.2.2.2.2.2.1
theorem dX12_ring_26 : decode cX12_ring 26 = .ok (.if_icmp .ge 20, 3) := bdX12_ring_14.2.2.2.2.2.2.2.2.1
theorem dX12_ring_29 : decode cX12_ring 29 = .ok (.aload_n 0, 1) := bdX12_ring_14.2.2.2.2.2.2.2.2.2
theorem bdX12_ring_30 : (decode cX12_ring 30 = .ok (.iload_n 2, 1)) ∧ (decode cX12_ring 31 = .ok (.iload_n 1, 1)) ∧ (decode cX12_ring 32 = .ok (.invokevirtual 423, 3)) ∧ (decode cX12_ring 35 = .ok (.ifCond .eq 5, 3)) ∧ (decode cX12_ring 38 = .ok (.iload_n 1, 1)) ∧ (decode cX12_ring 39 = .ok (.ireturn, 1)) ∧ (decode cX12_ring 40 = .ok (.iinc 2 1, 3)) ∧ (decode cX12_ring 43 = .ok (.goto (-24), 3)) ∧ (decode cX12_ring 46 = .ok (.iinc 1 1, 3)) ∧ (decode cX12_ring 49 = .ok (.goto (-42), 3)) := by decide +kernel
theorem dX12_ring_30 : decode cX12_ring 30 = .ok (.iload_n 2, 1) := bdX12_ring_30.1
theorem dX12_ring_31 : decode cX12_ring 31 = .ok (.iload_n 1, 1) := bdX12_ring_30.2.1
theorem dX12_ring_32 : decode cX12_ring 32 = .ok (.invokevirtual 423, 3) := bdX12_ring_30.2.2.1
theorem dX12_ring_35 : decode cX12_ring 35 = .ok (.ifCond .eq 5, 3) := bdX12_ring_30.2.2.2.1
theorem dX12_ring_38 : decode cX12_ring 38 = .ok (.iload_n 1, 1) := bdX12_ring_30.2.2.2.2.1
theorem dX12_ring_39 : decode cX12_ring 39 = .ok (.ireturn, 1) := bdX12_ring_30.2.2.2.2.2.1
theorem dX12_ring_40 : decode cX12_ring 40 = .ok (.iinc 2 1, 3) := bdX12_ring_30.2.2.2.2.2.2.1
theorem dX12_ring_43 : decode cX12_ring 43 = .ok (.goto (-24), 3) := bdX12_ring_30.2.2.2.2.2.2.2.1
theorem dX12_ring_46 : decode cX12_ring 46 = .ok (.iinc 1 1, 3) := bdX12_ring_30.2.2.2.2.2.2.2.2.1
theorem dX12_ring_49 : decode cX12_ring 49 = .ok (.goto (-42), 3) := bdX12_ring_30.2.2.2.2.2.2.2.2.2
theorem bdX12_ring_52 : (decode cX12_ring 52 = .ok (.iconst (-1), 1)) ∧ (decode cX12_ring 53 = .ok (.ireturn, 1)) := by decide +kernel
theorem dX12_ring_52 : decode cX12_ring 52 = .ok (.iconst (-1), 1) := bdX12_ring_52.1
theorem dX12_ring_53 : decode cX12_ring 53 = .ok (.ireturn, 1) := bdX12_ring_52.2
theorem bdX12_tellWorths_0 : (decode cX12_tellWorths 0 = .ok (.iconst 0, 1)) ∧ (decode cX12_tellWorths 1 = .ok (.istore_n 1, 1)) ∧ (decode cX12_tellWorths 2 = .ok (.iload_n 1, 1)) ∧ (decode cX12_tellWorths 3 = .ok (.aload_n 0, 1)) ∧ (decode cX12_tellWorths 4 = .ok (.getfield 35, 3)) ∧ (decode cX12_tellWorths 7 = .ok (.iconst 0, 1)) ∧ (decode cX12_tellWorths 8 = .ok (.iaload, 1)) ∧ (decode cX12_tellWorths 9 = .ok (.if_icmp .ge 44, 3)) ∧ (decode cX12_tellWorths 12 = .ok (.iconst 0, 1)) ∧ (decode cX12_tellWorths 13 = .ok (.istore_n 2, 1)) := by decide +kernel
theorem dX12_tellWorths_0 : decode cX12_tellWorths 0 = .ok (.iconst 0, 1) := bdX12_tellWorths_0.1
theorem dX12_tellWorths_1 : decode cX12_tellWorths 1 = .ok (.istore_n 1, 1) := bdX12_tellWorths_0.2.1
theorem dX12_tellWorths_2 : decode cX12_tellWorths 2 = .ok (.iload_n 1, 1) := bdX12_tellWorths_0.2.2.1
theorem dX12_tellWorths_3 : decode cX12_tellWorths 3 = .ok (.aload_n 0, 1) := bdX12_tellWorths_0.2.2.2.1
theorem dX12_tellWorths_4 : decode cX12_tellWorths 4 = .ok (.getfield 35, 3) := bdX12_tellWorths_0.2.2.2.2.1
theorem dX12_tellWorths_7 : decode cX12_tellWorths 7 = .ok (.iconst 0, 1) := bdX12_tellWorths_0.2.2.2.2.2.1
theorem dX12_tellWorths_8 : decode cX12_tellWorths 8 = .ok (.iaload, 1) := bdX12_tellWorths_0.2.2.2.2.2.2.1
theorem dX12_tellWorths_9 : decode cX12_tellWorths 9 = .ok (.if_icmp .ge 44, 3) := bdX12_tellWorths_0.2.2.2.2.2.2.2.1
theorem dX12_tellWorths_12 : decode cX12_tellWorths 12 = .ok (.iconst 0, 1) := bdX12_tellWorths_0.2.2.2.2.2.2.2.2.1
theorem dX12_tellWorths_13 : decode cX12_tellWorths 13 = .ok (.istore_n 2, 1) := bdX12_tellWorths_0.2.2.2.2.2.2.2.2.2
theorem bdX12_tellWorths_14 : (decode cX12_tellWorths 14 = .ok (.iload_n 2, 1)) ∧ (decode cX12_tellWorths 15 = .ok (.aload_n 0, 1)) ∧ (decode cX12_tellWorths 16 = .ok (.getfield 35, 3)) ∧ (decode cX12_tellWorths 19 = .ok (.iconst 1, 1)) ∧ (decode cX12_tellWorths 20 = .ok (.iaload, 1)) ∧ (decode cX12_tellWorths 21 = .ok (.if_icmp .ge 26, 3)) ∧ (decode cX12_tellWorths 24 = .ok (.aload_n 0, 1)) ∧ (decode cX12_tellWorths 25 = .ok (.getfield 98, 3)) ∧ (decode cX12_tellWorths 28 = .ok (.bipush 9, 2)) ∧ (decode cX12_tellWorths 30 = .ok (.iload_n 1, 1)) := by decide +kernel
theorem dX12_tellWorths_14 : decode cX12_tellWorths 14 = .ok (.iload_n 2, 1) := bdX12_tellWorths_14.1
theorem dX12_tellWorths_15 : decode cX12_tellWorths 15 = .ok (.aload_n 0, 1) := bdX12_tellWorths_14.2.1
theorem dX12_tellWorths_16 : decode cX12_tellWorths 16 = .ok (.getfield 35, 3) := bdX12_tellWorths_14.2.2.1
theorem dX12_tellWorths_19 : decode cX12_tellWorths 19 = .ok (.iconst 1, 1) := bdX12_tellWorths_14.2.2.2.1
theorem dX12_tellWorths_20 : decode cX12_tellWorths 20 = .ok (.iaload, 1) := bdX12_tellWorths_14.2.2.2.2.1
theorem dX12_tellWorths_21 : decode cX12_tellWorths 21 = .ok (.if_icmp .ge 26, 3) := bdX12_tellWorths_14.2.2.2.2.2.1
theorem dX12_tellWorths_24 : decode cX12_tellWorths 24 = .ok (.aload_n 0, 1) := bdX12_tellWorths_14.2.2.2.2.2.2.1
theorem dX12_tellWorths_25 : decode cX12_tellWorths 25 = .ok (.getfield 98, 3) := bdX12_tellWorths_14.2.2.2.2.2.2.2.1
theorem dX12_tellWorths_28 : decode cX12_tellWorths 28 = .ok (.bipush 9, 2) := bdX12_tellWorths_14.2.2.2.2.2.2.2.2.1
theorem dX12_tellWorths_30 : decode cX12_tellWorths 30 = .ok (.iload_n 1, 1) := bdX12_tellWorths_14.2.2.2.2.2.2.2.2.2
theorem bdX12_tellWorths_31 : (decode cX12_tellWorths 31 = .ok (.imul, 1)) ∧ (decode cX12_tellWorths 32 = .ok (.iload_n 2, 1)) ∧ (decode cX12_tellWorths 33 = .ok (.iadd, 1)) ∧ (decode cX12_tellWorths 34 = .ok (.aload_n 0, 1)) ∧ (decode cX12_tellWorths 35 = .ok (.iload_n 1, 1)) ∧ (decode cX12_tellWorths 36 = .ok (.iload_n 2, 1)) ∧ (decode cX12_tellWorths 37 = .ok (.invokevirtual 362, 3)) ∧ (decode cX12_tellWorths 40 = .ok (.iastore, 1)) ∧ (decode cX12_tellWorths 41 = .ok (.iinc 2 1, 3)) ∧ (decode cX12_tellWorths 44 = .ok (.goto (-30), 3)) := by decide +kernel
theorem dX12_tellWorths_31 : decode cX12_tellWorths 31 = .ok (.imul, 1) := bdX12_tellWorths_31.1
theorem dX12_tellWorths_32 : decode cX12_tellWorths 32 = .ok (.iload_n 2, 1) := bdX12_tellWorths_31.2.1
theorem dX12_tellWorths_33 : decode cX12_tellWorths 33 = .ok (.iadd, 1) := bdX12_tellWorths_31.2.2.1
theorem dX12_tellWorths_34 : decode cX12_tellWorths 34 = .ok (.aload_n 0, 1) := bdX12_tellWorths_31.2.2.2.1
theorem dX12_tellWorths_35 : decode cX12_tellWorths 35 = .ok (.iload_n 1, 1) := bdX12_tellWorths_31.2.2.2.2.1
theorem dX12_tellWorths_36 : decode cX12_tellWorths 36 = .ok (.iload_n 2, 1) := bdX12_tellWorths_31.2.2.2.2.2.1
theorem dX12_tellWorths_37 : decode cX12_tellWorths 37 = .ok (.invokevirtual 362, 3) := bdX12_tellWorths_31.2.2.2.2.2.2.1
theorem dX12_tellWorths_40 : decode cX12_tellWorths 40 = .ok (.iastore, 1) := bdX12_tellWorths_31.2.2.2.2.2.2.2.1
theorem dX12_tellWorths_41 : decode cX12_tellWorths 41 = .ok (.iinc 2 1, 3) := bdX12_tellWorths_31.2.2.2.2.2.2.2.2.1
theorem dX12_tellWorths_44 : decode cX12_tellWorths 44 = .ok (.goto (-30), 3) := bdX12_tellWorths_31.2.2.2.2.2.2.2.2.2
theorem bdX12_tellWorths_47 : (decode cX12_tellWorths 47 = .ok (.iinc 1 1, 3)) ∧ (decode cX12_tellWorths 50 = .ok (.goto (-48), 3)) ∧ (decode cX12_tellWorths 53 = .ok (.return_, 1)) := by decide +kernel
theorem dX12_tellWorths_47 : decode cX12_tellWorths 47 = .ok (.iinc 1 1, 3) := bdX12_tellWorths_47.1
theorem dX12_tellWorths_50 : decode cX12_tellWorths 50 = .ok (.goto (-48), 3) := bdX12_tellWorths_47.2.1
theorem dX12_tellWorths_53 : decode cX12_tellWorths 53 = .ok (.return_, 1) := bdX12_tellWorths_47.2.2
theorem bdX12_bestBy_0 : (decode cX12_bestBy 0 = .ok (.iload_n 3, 1)) ∧ (decode cX12_bestBy 1 = .ok (.iconst (-1), 1)) ∧ (decode cX12_bestBy 2 = .ok (.if_icmp .ne 17, 3)) ∧ (decode cX12_bestBy 5 = .ok (.aload_n 0, 1)) ∧ (decode cX12_bestBy 6 = .ok (.getfield 94, 3)) ∧ (decode cX12_bestBy 9 = .ok (.iload_n 1, 1)) ∧ (decode cX12_bestBy 10 = .ok (.iconst 1, 1)) ∧ (decode cX12_bestBy 11 = .ok (.iadd, 1)) ∧ (decode cX12_bestBy 12 = .ok (.bipush 9, 2)) ∧ (decode cX12_bestBy 14 = .ok (.ishl, 1)) := by decide +kernel
theorem dX12_bestBy_0 : decode cX12_bestBy 0 = .ok (.iload_n 3, 1) := bdX12_bestBy_0.1
theorem dX12_bestBy_1 : decode cX12_bestBy 1 = .ok (.iconst (-1), 1) := bdX12_bestBy_0.2.1
theorem dX12_bestBy_2 : decode cX12_bestBy 2 = .ok (.if_icmp .ne 17, 3) := bdX12_bestBy_0.2.2.1
theorem dX12_bestBy_5 : decode cX12_bestBy 5 = .ok (.aload_n 0, 1) := bdX12_bestBy_0.2.2.2.1
theorem dX12_bestBy_6 : decode cX12_bestBy 6 = .ok (.getfield 94, 3) := bdX12_bestBy_0.2.2.2.2.1
theorem dX12_bestBy_9 : decode cX12_bestBy 9 = .ok (.iload_n 1, 1) := bdX12_bestBy_0.2.2.2.2.2.1
theorem dX12_bestBy_10 : decode cX12_bestBy 10 = .ok (.iconst 1, 1) := bdX12_bestBy_0.2.2.2.2.2.2.1
theorem dX12_bestBy_11 : decode cX12_bestBy 11 = .ok (.iadd, 1) := bdX12_bestBy_0.2.2.2.2.2.2.2.1
theorem dX12_bestBy_12 : decode cX12_bestBy 12 = .ok (.bipush 9, 2) := bdX12_bestBy_0.2.2.2.2.2.2.2.2.1
theorem dX12_bestBy_14 : decode cX12_bestBy 14 = .ok (.ishl, 1) := bdX12_bestBy_0.2.2.2.2.2.2.2.2.2
theorem bdX12_bestBy_15 : (decode cX12_bestBy 15 = .ok (.iload_n 2, 1)) ∧ (decode cX12_bestBy 16 = .ok (.iadd, 1)) ∧ (decode cX12_bestBy 17 = .ok (.laload, 1)) ∧ (decode cX12_bestBy 18 = .ok (.lreturn, 1)) ∧ (decode cX12_bestBy 19 = .ok (.aload_n 0, 1)) ∧ (decode cX12_bestBy 20 = .ok (.getfield 94, 3)) ∧ (decode cX12_bestBy 23 = .ok (.iload_n 1, 1)) ∧ (decode cX12_bestBy 24 = .ok (.iconst 1, 1)) ∧ (decode cX12_bestBy 25 = .ok (.iadd, 1)) ∧ (decode cX12_bestBy 26 = .ok (.bipush 9, 2)) := by decide +kernel
theorem dX12_bestBy_15 : decode cX12_bestBy 15 = .ok (.iload_n 2, 1) := bdX12_bestBy_15.1
theorem dX12_bestBy_16 : decode cX12_bestBy 16 = .ok (.iadd, 1) := bdX12_bestBy_15.2.1
theorem dX12_bestBy_17 : decode cX12_bestBy 17 = .ok (.laload, 1) := bdX12_bestBy_15.2.2.1
theorem dX12_bestBy_18 : decode cX12_bestBy 18 = .ok (.lreturn, 1) := bdX12_bestBy_15.2.2.2.1
theorem dX12_bestBy_19 : decode cX12_bestBy 19 = .ok (.aload_n 0, 1) := bdX12_bestBy_15.2.2.2.2.1
theorem dX12_bestBy_20 : decode cX12_bestBy 20 = .ok (.getfield 94, 3) := bdX12_bestBy_15.2.2.2.2.2.1
theorem dX12_bestBy_23 : decode cX12_bestBy 23 = .ok (.iload_n 1, 1) := bdX12_bestBy_15.2.2.2.2.2.2.1
theorem dX12_bestBy_24 : decode cX12_bestBy 24 = .ok (.iconst 1, 1) := bdX12_bestBy_15.2.2.2.2.2.2.2.1
theorem dX12_bestBy_25 : decode cX12_bestBy 25 = .ok (.iadd, 1) := bdX12_bestBy_15.2.2.2.2.2.2.2.2.1
theorem dX12_bestBy_26 : decode cX12_bestBy 26 = .ok (.bipush 9, 2) := bdX12_bestBy_15.2.2.2.2.2.2.2.2.2
theorem bdX12_bestBy_28 : (decode cX12_bestBy 28 = .ok (.ishl, 1)) ∧ (decode cX12_bestBy 29 = .ok (.iload_n 2, 1)) ∧ (decode cX12_bestBy 30 = .ok (.iconst 1, 1)) ∧ (decode cX12_bestBy 31 = .ok (.iload_n 3, 1)) ∧ (decode cX12_bestBy 32 = .ok (.ishl, 1)) ∧ (decode cX12_bestBy 33 = .ok (.ior, 1)) ∧ (decode cX12_bestBy 34 = .ok (.iadd, 1)) ∧ (decode cX12_bestBy 35 = .ok (.laload, 1)) ∧ (decode cX12_bestBy 36 = .ok (.lstore 4, 2)) ∧ (decode cX12_bestBy 38 = .ok (.lload 4, 2)) := by decide +kernel
theorem dX12_bestBy_28 : decode cX12_bestBy 28 = .ok (.ishl, 1) := bdX12_bestBy_28.1
theorem dX12_bestBy_29 : decode cX12_bestBy 29 = .ok (.iload_n 2, 1) := bdX12_bestBy_28.2.1
theorem dX12_bestBy_30 : decode cX12_bestBy 30 = .ok (.iconst 1, 1) := bdX12_bestBy_28.2.2.1
theorem dX12_bestBy_31 : decode cX12_bestBy 31 = .ok (.iload_n 3, 1) := bdX12_bestBy_28.2.2.2.1
theorem dX12_bestBy_32 : decode cX12_bestBy 32 = .ok (.ishl, 1) := bdX12_bestBy_28.2.2.2.2.1
theorem dX12_bestBy_33 : decode cX12_bestBy 33 = .ok (.ior, 1) := bdX12_bestBy_28.2.2.2.2.2.1
theorem dX12_bestBy_34 : decode cX12_bestBy 34 = .ok (.iadd, 1) := bdX12_bestBy_28.2.2.2.2.2.2.1
theorem dX12_bestBy_35 : decode cX12_bestBy 35 = .ok (.laload, 1) := bdX12_bestBy_28.2.2.2.2.2.2.2.1
theorem dX12_bestBy_36 : decode cX12_bestBy 36 = .ok (.lstore 4, 2) := bdX12_bestBy_28.2.2.2.2.2.2.2.2.1
theorem dX12_bestBy_38 : decode cX12_bestBy 38 = .ok (.lload 4, 2) := bdX12_bestBy_28.2.2.2.2.2.2.2.2.2
theorem bdX12_bestBy_40 : (decode cX12_bestBy 40 = .ok (.ldc2_w 426, 3)) ∧ (decode cX12_bestBy 43 = .ok (.lcmp, 1)) ∧ (decode cX12_bestBy 44 = .ok (.ifCond .gt 9, 3)) ∧ (decode cX12_bestBy 47 = .ok (.ldc2_w 426, 3)) ∧ (decode cX12_bestBy 50 = .ok (.goto 18, 3)) ∧ (decode cX12_bestBy 53 = .ok (.lload 4, 2)) ∧ (decode cX12_bestBy 55 = .ok (.aload_n 0, 1)) ∧ (decode cX12_bestBy 56 = .ok (.getfield 98, 3)) ∧ (decode cX12_bestBy 59 = .ok (.bipush 9, 2)) ∧ (decode cX12_bestBy 61 = .ok (.iload_n 1, 1)) := by decide +kernel
theorem dX12_bestBy_40 : decode cX12_bestBy 40 = .ok (.ldc2_w 426, 3) := bdX12_bestBy_40.1
theorem dX12_bestBy_43 : decode cX12_bestBy 43 = .ok (.lcmp, 1) := bdX12_bestBy_40.2.1
theorem dX12_bestBy_44 : decode cX12_bestBy 44 = .ok (.ifCond .gt 9, 3) := bdX12_bestBy_40.2.2.1
theorem dX12_bestBy_47 : decode cX12_bestBy 47 = .ok (.ldc2_w 426, 3) := bdX12_bestBy_40.2.2.2.1
theorem dX12_bestBy_50 : decode cX12_bestBy 50 = .ok (.goto 18, 3) := bdX12_bestBy_40.2.2.2.2.1
theorem dX12_bestBy_53 : decode cX12_bestBy 53 = .ok (.lload 4, 2) := bdX12_bestBy_40.2.2.2.2.2.1
theorem dX12_bestBy_55 : decode cX12_bestBy 55 = .ok (.aload_n 0, 1) := bdX12_bestBy_40.2.2.2.2.2.2.1
theorem dX12_bestBy_56 : decode cX12_bestBy 56 = .ok (.getfield 98, 3) := bdX12_bestBy_40.2.2.2.2.2.2.2.1
theorem dX12_bestBy_59 : decode cX12_bestBy 59 = .ok (.bipush 9, 2) := bdX12_bestBy_40.2.2.2.2.2.2.2.2.1
theorem dX12_bestBy_61 : decode cX12_bestBy 61 = .ok (.iload_n 1, 1) := bdX12_bestBy_40.2.2.2.2.2.2.2.2.2
theorem bdX12_bestBy_62 : (decode cX12_bestBy 62 = .ok (.imul, 1)) ∧ (decode cX12_bestBy 63 = .ok (.iload_n 3, 1)) ∧ (decode cX12_bestBy 64 = .ok (.iadd, 1)) ∧ (decode cX12_bestBy 65 = .ok (.iaload, 1)) ∧ (decode cX12_bestBy 66 = .ok (.i2l, 1)) ∧ (decode cX12_bestBy 67 = .ok (.ladd, 1)) ∧ (decode cX12_bestBy 68 = .ok (.lreturn, 1)) := by decide +kernel
theorem dX12_bestBy_62 : decode cX12_bestBy 62 = .ok (.imul, 1) := bdX12_bestBy_62.1
theorem dX12_bestBy_63 : decode cX12_bestBy 63 = .ok (.iload_n 3, 1) := bdX12_bestBy_62.2.1
theorem dX12_bestBy_64 : decode cX12_bestBy 64 = .ok (.iadd, 1) := bdX12_bestBy_62.2.2.1
theorem dX12_bestBy_65 : decode cX12_bestBy 65 = .ok (.iaload, 1) := bdX12_bestBy_62.2.2.2.1
theorem dX12_bestBy_66 : decode cX12_bestBy 66 = .ok (.i2l, 1) := bdX12_bestBy_62.2.2.2.2.1
theorem dX12_bestBy_67 : decode cX12_bestBy 67 = .ok (.ladd, 1) := bdX12_bestBy_62.2.2.2.2.2.1
theorem dX12_bestBy_68 : decode cX12_bestBy 68 = .ok (.lreturn, 1) := bdX12_bestBy_62.2.2.2.2.2.2
theorem bdX12_tellBest_0 : (decode cX12_tellBest 0 = .ok (.aload_n 0, 1)) ∧ (decode cX12_tellBest 1 = .ok (.invokevirtual 428, 3)) ∧ (decode cX12_tellBest 4 = .ok (.aload_n 0, 1)) ∧ (decode cX12_tellBest 5 = .ok (.getfield 35, 3)) ∧ (decode cX12_tellBest 8 = .ok (.iconst 0, 1)) ∧ (decode cX12_tellBest 9 = .ok (.iaload, 1)) ∧ (decode cX12_tellBest 10 = .ok (.aload_n 0, 1)) ∧ (decode cX12_tellBest 11 = .ok (.getfield 35, 3)) ∧ (decode cX12_tellBest 14 = .ok (.iconst 1, 1)) ∧ (decode cX12_tellBest 15 = .ok (.iaload, 1)) := by decide +kernel
theorem dX12_tellBest_0 : decode cX12_tellBest 0 = .ok (.aload_n 0, 1) := bdX12_tellBest_0.1
theorem dX12_tellBest_1 : decode cX12_tellBest 1 = .ok (.invokevirtual 428, 3) := bdX12_tellBest_0.2.1
theorem dX12_tellBest_4 : decode cX12_tellBest 4 = .ok (.aload_n 0, 1) := bdX12_tellBest_0.2.2.1
theorem dX12_tellBest_5 : decode cX12_tellBest 5 = .ok (.getfield 35, 3) := bdX12_tellBest_0.2.2.2.1
theorem dX12_tellBest_8 : decode cX12_tellBest 8 = .ok (.iconst 0, 1) := bdX12_tellBest_0.2.2.2.2.1
theorem dX12_tellBest_9 : decode cX12_tellBest 9 = .ok (.iaload, 1) := bdX12_tellBest_0.2.2.2.2.2.1
theorem dX12_tellBest_10 : decode cX12_tellBest 10 = .ok (.aload_n 0, 1) := bdX12_tellBest_0.2.2.2.2.2.2.1
theorem dX12_tellBest_11 : decode cX12_tellBest 11 = .ok (.getfield 35, 3) := bdX12_tellBest_0.2.2.2.2.2.2.2.1
theorem dX12_tellBest_14 : decode cX12_tellBest 14 = .ok (.iconst 1, 1) := bdX12_tellBest_0.2.2.2.2.2.2.2.2.1
theorem dX12_tellBest_15 : decode cX12_tellBest 15 = .ok (.iaload, 1) := bdX12_tellBest_0.2.2.2.2.2.2.2.2.2
theorem bdX12_tellBest_16 : (decode cX12_tellBest 16 = .ok (.invokestatic 177, 3)) ∧ (decode cX12_tellBest 19 = .ok (.istore_n 1, 1)) ∧ (decode cX12_tellBest 20 = .ok (.iconst 0, 1)) ∧ (decode cX12_tellBest 21 = .ok (.istore_n 2, 1)) ∧ (decode cX12_tellBest 22 = .ok (.iload_n 2, 1)) ∧ (decode cX12_tellBest 23 = .ok (.iconst 1, 1)) ∧ (decode cX12_tellBest 24 = .ok (.aload_n 0, 1)) ∧ (decode cX12_tellBest 25 = .ok (.getfield 35, 3)) ∧ (decode cX12_tellBest 28 = .ok (.iconst 1, 1)) ∧ (decode cX12_tellBest 29 = .ok (.iaload, 1)) := by decide +kernel
theorem dX12_tellBest_16 : decode cX12_tellBest 16 = .ok (.invokestatic 177, 3) := bdX12_tellBest_16.1
theorem dX12_tellBest_19 : decode cX12_tellBest 19 = .ok (.istore_n 1, 1) := bdX12_tellBest_16.2.1
theorem dX12_tellBest_20 : decode cX12_tellBest 20 = .ok (.iconst 0, 1) := bdX12_tellBest_16.2.2.1
theorem dX12_tellBest_21 : decode cX12_tellBest 21 = .ok (.istore_n 2, 1) := bdX12_tellBest_16.2.2.2.1
theorem dX12_tellBest_22 : decode cX12_tellBest 22 = .ok (.iload_n 2, 1) := bdX12_tellBest_16.2.2.2.2.1
theorem dX12_tellBest_23 : decode cX12_tellBest 23 = .ok (.iconst 1, 1) := bdX12_tellBest_16.2.2.2.2.2.1
theorem dX12_tellBest_24 : decode cX12_tellBest 24 = .ok (.aload_n 0, 1) := bdX12_tellBest_16.2.2.2.2.2.2.1
theorem dX12_tellBest_25 : decode cX12_tellBest 25 = .ok (.getfield 35, 3) := bdX12_tellBest_16.2.2.2.2.2.2.2.1
theorem dX12_tellBest_28 : decode cX12_tellBest 28 = .ok (.iconst 1, 1) := bdX12_tellBest_16.2.2.2.2.2.2.2.2.1
theorem dX12_tellBest_29 : decode cX12_tellBest 29 = .ok (.iaload, 1) := bdX12_tellBest_16.2.2.2.2.2.2.2.2.2
theorem bdX12_tellBest_30 : (decode cX12_tellBest 30 = .ok (.ishl, 1)) ∧ (decode cX12_tellBest 31 = .ok (.if_icmp .ge 40, 3)) ∧ (decode cX12_tellBest 34 = .ok (.aload_n 0, 1)) ∧ (decode cX12_tellBest 35 = .ok (.getfield 94, 3)) ∧ (decode cX12_tellBest 38 = .ok (.aload_n 0, 1)) ∧ (decode cX12_tellBest 39 = .ok (.getfield 35, 3)) ∧ (decode cX12_tellBest 42 = .ok (.iconst 0, 1)) ∧ (decode cX12_tellBest 43 = .ok (.iaload, 1)) ∧ (decode cX12_tellBest 44 = .ok (.bipush 9, 2)) ∧ (decode cX12_tellBest 46 = .ok (.ishl, 1)) := by decide +kernel
theorem dX12_tellBest_30 : decode cX12_tellBest 30 = .ok (.ishl, 1) := bdX12_tellBest_30.1
theorem dX12_tellBest_31 : decode cX12_tellBest 31 = .ok (.if_icmp .ge 40, 3) := bdX12_tellBest_30.2.1
theorem dX12_tellBest_34 : decode cX12_tellBest 34 = .ok (.aload_n 0, 1) := bdX12_tellBest_30.2.2.1
theorem dX12_tellBest_35 : decode cX12_tellBest 35 = .ok (.getfield 94, 3) := bdX12_tellBest_30.2.2.2.1
theorem dX12_tellBest_38 : decode cX12_tellBest 38 = .ok (.aload_n 0, 1) := bdX12_tellBest_30.2.2.2.2.1
theorem dX12_tellBest_39 : decode cX12_tellBest 39 = .ok (.getfield 35, 3) := bdX12_tellBest_30.2.2.2.2.2.1
theorem dX12_tellBest_42 : decode cX12_tellBest 42 = .ok (.iconst 0, 1) := bdX12_tellBest_30.2.2.2.2.2.2.1
theorem dX12_tellBest_43 : decode cX12_tellBest 43 = .ok (.iaload, 1) := bdX12_tellBest_30.2.2.2.2.2.2.2.1
theorem dX12_tellBest_44 : decode cX12_tellBest 44 = .ok (.bipush 9, 2) := bdX12_tellBest_30.2.2.2.2.2.2.2.2.1
theorem dX12_tellBest_46 : decode cX12_tellBest 46 = .ok (.ishl, 1) := bdX12_tellBest_30.2.2.2.2.2.2.2.2.2
theorem bdX12_tellBest_47 : (decode cX12_tellBest 47 = .ok (.iload_n 2, 1)) ∧ (decode cX12_tellBest 48 = .ok (.iadd, 1)) ∧ (decode cX12_tellBest 49 = .ok (.iload_n 2, 1)) ∧ (decode cX12_tellBest 50 = .ok (.invokestatic 431, 3)) ∧ (decode cX12_tellBest 53 = .ok (.iload_n 1, 1)) ∧ (decode cX12_tellBest 54 = .ok (.if_icmp .ne 7, 3)) ∧ (decode cX12_tellBest 57 = .ok (.lconst 0, 1)) ∧ (decode cX12_tellBest 58 = .ok (.goto 6, 3)) ∧ (decode cX12_tellBest 61 = .ok (.ldc2_w 426, 3)) ∧ (decode cX12_tellBest 64 = .ok (.lastore, 1)) := by decide +kernel
theorem dX12_tellBest_47 : decode cX12_tellBest 47 = .ok (.iload_n 2, 1) := bdX12_tellBest_47.1
theorem dX12_tellBest_48 : decode cX12_tellBest 48 = .ok (.iadd, 1) := bdX12_tellBest_47.2.1
theorem dX12_tellBest_49 : decode cX12_tellBest 49 = .ok (.iload_n 2, 1) := bdX12_tellBest_47.2.2.1
theorem dX12_tellBest_50 : decode cX12_tellBest 50 = .ok (.invokestatic 431, 3) := bdX12_tellBest_47.2.2.2.1
theorem dX12_tellBest_53 : decode cX12_tellBest 53 = .ok (.iload_n 1, 1) := bdX12_tellBest_47.2.2.2.2.1
theorem dX12_tellBest_54 : decode cX12_tellBest 54 = .ok (.if_icmp .ne 7, 3) := bdX12_tellBest_47.2.2.2.2.2.1
theorem dX12_tellBest_57 : decode cX12_tellBest 57 = .ok (.lconst 0, 1) := bdX12_tellBest_47.2.2.2.2.2.2.1
theorem dX12_tellBest_58 : decode cX12_tellBest 58 = .ok (.goto 6, 3) := bdX12_tellBest_47.2.2.2.2.2.2.2.1
theorem dX12_tellBest_61 : decode cX12_tellBest 61 = .ok (.ldc2_w 426, 3) := bdX12_tellBest_47.2.2.2.2.2.2.2.2.1
theorem dX12_tellBest_64 : decode cX12_tellBest 64 = .ok (.lastore, 1) := bdX12_tellBest_47.2.2.2.2.2.2.2.2.2
theorem bdX12_tellBest_65 : (decode cX12_tellBest 65 = .ok (.iinc 2 1, 3)) ∧ (decode cX12_tellBest 68 = .ok (.goto (-46), 3)) ∧ (decode cX12_tellBest 71 = .ok (.aload_n 0, 1)) ∧ (decode cX12_tellBest 72 = .ok (.getfield 35, 3)) ∧ (decode cX12_tellBest 75 = .ok (.iconst 0, 1)) ∧ (decode cX12_tellBest 76 = .ok (.iaload, 1)) ∧ (decode cX12_tellBest 77 = .ok (.iconst 1, 1)) ∧ (decode cX12_tellBest 78 = .ok (.isub, 1)) ∧ (decode cX12_tellBest 79 = .ok (.istore_n 2, 1)) ∧ (decode cX12_tellBest 80 = .ok (.iload_n 2, 1)) := by decide +kernel
theorem dX12_tellBest_65 : decode cX12_tellBest 65 = .ok (.iinc 2 1, 3) := bdX12_tellBest_65.1
theorem dX12_tellBest_68 : decode cX12_tellBest 68 = .ok (.goto (-46), 3) := bdX12_tellBest_65.2.1
theorem dX12_tellBest_71 : decode cX12_tellBest 71 = .ok (.aload_n 0, 1) := bdX12_tellBest_65.2.2.1
theorem dX12_tellBest_72 : decode cX12_tellBest 72 = .ok (.getfield 35, 3) := bdX12_tellBest_65.2.2.2.1
theorem dX12_tellBest_75 : decode cX12_tellBest 75 = .ok (.iconst 0, 1) := bdX12_tellBest_65.2.2.2.2.1
theorem dX12_tellBest_76 : decode cX12_tellBest 76 = .ok (.iaload, 1) := bdX12_tellBest_65.2.2.2.2.2.1
theorem dX12_tellBest_77 : decode cX12_tellBest 77 = .ok (.iconst 1, 1) := bdX12_tellBest_65.2.2.2.2.2.2.1
theorem dX12_tellBest_78 : decode cX12_tellBest 78 = .ok (.isub, 1) := bdX12_tellBest_65.2.2.2.2.2.2.2.1
theorem dX12_tellBest_79 : decode cX12_tellBest 79 = .ok (.istore_n 2, 1) := bdX12_tellBest_65.2.2.2.2.2.2.2.2.1
theorem dX12_tellBest_80 : decode cX12_tellBest 80 = .ok (.iload_n 2, 1) := bdX12_tellBest_65.2.2.2.2.2.2.2.2.2
theorem bdX12_tellBest_81 : (decode cX12_tellBest 81 = .ok (.ifCond .lt 95, 3)) ∧ (decode cX12_tellBest 84 = .ok (.iconst 0, 1)) ∧ (decode cX12_tellBest 85 = .ok (.istore_n 3, 1)) ∧ (decode cX12_tellBest 86 = .ok (.iload_n 3, 1)) ∧ (decode cX12_tellBest 87 = .ok (.iconst 1, 1)) ∧ (decode cX12_tellBest 88 = .ok (.aload_n 0, 1)) ∧ (decode cX12_tellBest 89 = .ok (.getfield 35, 3)) ∧ (decode cX12_tellBest 92 = .ok (.iconst 1, 1)) ∧ (decode cX12_tellBest 93 = .ok (.iaload, 1)) ∧ (decode cX12_tellBest 94 = .ok (.ishl, 1)) := by decide +kernel
theorem dX12_tellBest_81 : decode cX12_tellBest 81 = .ok (.ifCond .lt 95, 3) := bdX12_tellBest_81.1
theorem dX12_tellBest_84 : decode cX12_tellBest 84 = .ok (.iconst 0, 1) := bdX12_tellBest_81.2.1
theorem dX12_tellBest_85 : decode cX12_tellBest 85 = .ok (.istore_n 3, 1) := bdX12_tellBest_81.2.2.1
theorem dX12_tellBest_86 : decode cX12_tellBest 86 = .ok (.iload_n 3, 1) := bdX12_tellBest_81.2.2.2.1
theorem dX12_tellBest_87 : decode cX12_tellBest 87 = .ok (.iconst 1, 1) := bdX12_tellBest_81.2.2.2.2.1
theorem dX12_tellBest_88 : decode cX12_tellBest 88 = .ok (.aload_n 0, 1) := bdX12_tellBest_81.2.2.2.2.2.1
theorem dX12_tellBest_89 : decode cX12_tellBest 89 = .ok (.getfield 35, 3) := bdX12_tellBest_81.2.2.2.2.2.2.1
theorem dX12_tellBest_92 : decode cX12_tellBest 92 = .ok (.iconst 1, 1) := bdX12_tellBest_81.2.2.2.2.2.2.2.1
theorem dX12_tellBest_93 : decode cX12_tellBest 93 = .ok (.iaload, 1) := bdX12_tellBest_81.2.2.2.2.2.2.2.2.1
theorem dX12_tellBest_94 : decode cX12_tellBest 94 = .ok (.ishl, 1) := bdX12_tellBest_81.2.2.2.2.2.2.2.2.2
theorem bdX12_tellBest_95 : (decode cX12_tellBest 95 = .ok (.if_icmp .ge 75, 3)) ∧ (decode cX12_tellBest 98 = .ok (.aload_n 0, 1)) ∧ (decode cX12_tellBest 99 = .ok (.iload_n 2, 1)) ∧ (decode cX12_tellBest 100 = .ok (.iload_n 3, 1)) ∧ (decode cX12_tellBest 101 = .ok (.iconst (-1), 1)) ∧ (decode cX12_tellBest 102 = .ok (.invokevirtual 434, 3)) ∧ (decode cX12_tellBest 105 = .ok (.lstore 4, 2)) ∧ (decode cX12_tellBest 107 = .ok (.iconst 0, 1)) ∧ (decode cX12_tellBest 108 = .ok (.istore 6, 2)) ∧ (decode cX12_tellBest 110 = .ok (.iload 6, 2)) := by decide +kernel
theorem dX12_tellBest_95 : decode cX12_tellBest 95 = .ok (.if_icmp .ge 75, 3) := bdX12_tellBest_95.1
theorem dX12_tellBest_98 : decode cX12_tellBest 98 = .ok (.aload_n 0, 1) := bdX12_tellBest_95.2.1
theorem dX12_tellBest_99 : decode cX12_tellBest 99 = .ok (.iload_n 2, 1) := bdX12_tellBest_95.2.2.1
theorem dX12_tellBest_100 : decode cX12_tellBest 100 = .ok (.iload_n 3, 1) := bdX12_tellBest_95.2.2.2.1
theorem dX12_tellBest_101 : decode cX12_tellBest 101 = .ok (.iconst (-1), 1) := bdX12_tellBest_95.2.2.2.2.1
theorem dX12_tellBest_102 : decode cX12_tellBest 102 = .ok (.invokevirtual 434, 3) := bdX12_tellBest_95.2.2.2.2.2.1
theorem dX12_tellBest_105 : decode cX12_tellBest 105 = .ok (.lstore 4, 2) := bdX12_tellBest_95.2.2.2.2.2.2.1
theorem dX12_tellBest_107 : decode cX12_tellBest 107 = .ok (.iconst 0, 1) := bdX12_tellBest_95.2.2.2.2.2.2.2.1
theorem dX12_tellBest_108 : decode cX12_tellBest 108 = .ok (.istore 6, 2) := bdX12_tellBest_95.2.2.2.2.2.2.2.2.1
theorem dX12_tellBest_110 : decode cX12_tellBest 110 = .ok (.iload 6, 2) := bdX12_tellBest_95.2.2.2.2.2.2.2.2.2
theorem bdX12_tellBest_112 : (decode cX12_tellBest 112 = .ok (.aload_n 0, 1)) ∧ (decode cX12_tellBest 113 = .ok (.getfield 35, 3)) ∧ (decode cX12_tellBest 116 = .ok (.iconst 1, 1)) ∧ (decode cX12_tellBest 117 = .ok (.iaload, 1)) ∧ (decode cX12_tellBest 118 = .ok (.if_icmp .ge 33, 3)) ∧ (decode cX12_tellBest 121 = .ok (.iload_n 3, 1)) ∧ (decode cX12_tellBest 122 = .ok (.iload 6, 2)) ∧ (decode cX12_tellBest 124 = .ok (.invokestatic 333, 3)) ∧ (decode cX12_tellBest 127 = .ok (.ifCond .ne 18, 3)) ∧ (decode cX12_tellBest 130 = .ok (.lload 4, 2)) := by decide +kernel
theorem dX12_tellBest_112 : decode cX12_tellBest 112 = .ok (.aload_n 0, 1) := bdX12_tellBest_112.1
theorem dX12_tellBest_113 : decode cX12_tellBest 113 = .ok (.getfield 35, 3) := bdX12_tellBest_112.2.1
theorem dX12_tellBest_116 : decode cX12_tellBest 116 = .ok (.iconst 1, 1) := bdX12_tellBest_112.2.2.1
theorem dX12_tellBest_117 : decode cX12_tellBest 117 = .ok (.iaload, 1) := bdX12_tellBest_112.2.2.2.1
theorem dX12_tellBest_118 : decode cX12_tellBest 118 = .ok (.if_icmp .ge 33, 3) := bdX12_tellBest_112.2.2.2.2.1
theorem dX12_tellBest_121 : decode cX12_tellBest 121 = .ok (.iload_n 3, 1) := bdX12_tellBest_112.2.2.2.2.2.1
theorem dX12_tellBest_122 : decode cX12_tellBest 122 = .ok (.iload 6, 2) := bdX12_tellBest_112.2.2.2.2.2.2.1
theorem dX12_tellBest_124 : decode cX12_tellBest 124 = .ok (.invokestatic 333, 3) := bdX12_tellBest_112.2.2.2.2.2.2.2.1
theorem dX12_tellBest_127 : decode cX12_tellBest 127 = .ok (.ifCond .ne 18, 3) := bdX12_tellBest_112.2.2.2.2.2.2.2.2.1
theorem dX12_tellBest_130 : decode cX12_tellBest 130 = .ok (.lload 4, 2) := bdX12_tellBest_112.2.2.2.2.2.2.2.2.2
theorem bdX12_tellBest_132 : (decode cX12_tellBest 132 = .ok (.aload_n 0, 1)) ∧ (decode cX12_tellBest 133 = .ok (.iload_n 2, 1)) ∧ (decode cX12_tellBest 134 = .ok (.iload_n 3, 1)) ∧ (decode cX12_tellBest 135 = .ok (.iload 6, 2)) ∧ (decode cX12_tellBest 137 = .ok (.invokevirtual 434, 3)) ∧ (decode cX12_tellBest 140 = .ok (.invokestatic 438, 3)) ∧ (decode cX12_tellBest 143 = .ok (.lstore 4, 2)) ∧ (decode cX12_tellBest 145 = .ok (.iinc 6 1, 3)) ∧ (decode cX12_tellBest 148 = .ok (.goto (-38), 3)) ∧ (decode cX12_tellBest 151 = .ok (.aload_n 0, 1)) := by decide +kernel
theorem dX12_tellBest_132 : decode cX12_tellBest 132 = .ok (.aload_n 0, 1) := bdX12_tellBest_132.1
theorem dX12_tellBest_133 : decode cX12_tellBest 133 = .ok (.iload_n 2, 1) := bdX12_tellBest_132.2.1
theorem dX12_tellBest_134 : decode cX12_tellBest 134 = .ok (.iload_n 3, 1) := bdX12_tellBest_132.2.2.1
theorem dX12_tellBest_135 : decode cX12_tellBest 135 = .ok (.iload 6, 2) := bdX12_tellBest_132.2.2.2.1
theorem dX12_tellBest_137 : decode cX12_tellBest 137 = .ok (.invokevirtual 434, 3) := bdX12_tellBest_132.2.2.2.2.1
theorem dX12_tellBest_140 : decode cX12_tellBest 140 = .ok (.invokestatic 438, 3) := bdX12_tellBest_132.2.2.2.2.2.1
theorem dX12_tellBest_143 : decode cX12_tellBest 143 = .ok (.lstore 4, 2) := bdX12_tellBest_132.2.2.2.2.2.2.1
theorem dX12_tellBest_145 : decode cX12_tellBest 145 = .ok (.iinc 6 1, 3) := bdX12_tellBest_132.2.2.2.2.2.2.2.1
theorem dX12_tellBest_148 : decode cX12_tellBest 148 = .ok (.goto (-38), 3) := bdX12_tellBest_132.2.2.2.2.2.2.2.2.1
theorem dX12_tellBest_151 : decode cX12_tellBest 151 = .ok (.aload_n 0, 1) := bdX12_tellBest_132.2.2.2.2.2.2.2.2.2
theorem bdX12_tellBest_152 : (decode cX12_tellBest 152 = .ok (.getfield 94, 3)) ∧ (decode cX12_tellBest 155 = .ok (.iload_n 2, 1)) ∧ (decode cX12_tellBest 156 = .ok (.bipush 9, 2)) ∧ (decode cX12_tellBest 158 = .ok (.ishl, 1)) ∧ (decode cX12_tellBest 159 = .ok (.iload_n 3, 1)) ∧ (decode cX12_tellBest 160 = .ok (.iadd, 1)) ∧ (decode cX12_tellBest 161 = .ok (.lload 4, 2)) ∧ (decode cX12_tellBest 163 = .ok (.lastore, 1)) ∧ (decode cX12_tellBest 164 = .ok (.iinc 3 1, 3)) ∧ (decode cX12_tellBest 167 = .ok (.goto (-81), 3)) := by decide +kernel
theorem dX12_tellBest_152 : decode cX12_tellBest 152 = .ok (.getfield 94, 3) := bdX12_tellBest_152.1
theorem dX12_tellBest_155 : decode cX12_tellBest 155 = .ok (.iload_n 2, 1) := bdX12_tellBest_152.2.1
theorem dX12_tellBest_156 : decode cX12_tellBest 156 = .ok (.bipush 9, 2) := bdX12_tellBest_152.2.2.1
theorem dX12_tellBest_158 : decode cX12_tellBest 158 = .ok (.ishl, 1) := bdX12_tellBest_152.2.2.2.1
theorem dX12_tellBest_159 : decode cX12_tellBest 159 = .ok (.iload_n 3, 1) := bdX12_tellBest_152.2.2.2.2.1
theorem dX12_tellBest_160 : decode cX12_tellBest 160 = .ok (.iadd, 1) := bdX12_tellBest_152.2.2.2.2.2.1
theorem dX12_tellBest_161 : decode cX12_tellBest 161 = .ok (.lload 4, 2) := bdX12_tellBest_152.2.2.2.2.2.2.1
theorem dX12_tellBest_163 : decode cX12_tellBest 163 = .ok (.lastore, 1) := bdX12_tellBest_152.2.2.2.2.2.2.2.1
theorem dX12_tellBest_164 : decode cX12_tellBest 164 = .ok (.iinc 3 1, 3) := bdX12_tellBest_152.2.2.2.2.2.2.2.2.1
theorem dX12_tellBest_167 : decode cX12_tellBest 167 = .ok (.goto (-81), 3) := bdX12_tellBest_152.2.2.2.2.2.2.2.2.2
theorem bdX12_tellBest_170 : (decode cX12_tellBest 170 = .ok (.iinc 2 (-1), 3)) ∧ (decode cX12_tellBest 173 = .ok (.goto (-93), 3)) ∧ (decode cX12_tellBest 176 = .ok (.return_, 1)) := by decide +kernel
theorem dX12_tellBest_170 : decode cX12_tellBest 170 = .ok (.iinc 2 (-1), 3) := bdX12_tellBest_170.1
theorem dX12_tellBest_173 : decode cX12_tellBest 173 = .ok (.goto (-93), 3) := bdX12_tellBest_170.2.1
theorem dX12_tellBest_176 : decode cX12_tellBest 176 = .ok (.return_, 1) := bdX12_tellBest_170.2.2
theorem bdX12_best_0 : (decode cX12_best 0 = .ok (.aload_n 0, 1)) ∧ (decode cX12_best 1 = .ok (.iconst 0, 1)) ∧ (decode cX12_best 2 = .ok (.putfield 140, 3)) ∧ (decode cX12_best 5 = .ok (.iload_n 1, 1)) ∧ (decode cX12_best 6 = .ok (.i2l, 1)) ∧ (decode cX12_best 7 = .ok (.ldc2_w 441, 3)) ∧ (decode cX12_best 10 = .ok (.aload_n 0, 1)) ∧ (decode cX12_best 11 = .ok (.getfield 35, 3)) ∧ (decode cX12_best 14 = .ok (.iconst 0, 1)) ∧ (decode cX12_best 15 = .ok (.iaload, 1)) := by decide +kernel
theorem dX12_best_0 : decode cX12_best 0 = .ok (.aload_n 0, 1) := bdX12_best_0.1
theorem dX12_best_1 : decode cX12_best 1 = .ok (.iconst 0, 1) := bdX12_best_0.2.1
theorem dX12_best_2 : decode cX12_best 2 = .ok (.putfield 140, 3) := bdX12_best_0.2.2.1
theorem dX12_best_5 : decode cX12_best 5 = .ok (.iload_n 1, 1) := bdX12_best_0.2.2.2.1
theorem dX12_best_6 : decode cX12_best 6 = .ok (.i2l, 1) := bdX12_best_0.2.2.2.2.1
theorem dX12_best_7 : decode cX12_best 7 = .ok (.ldc2_w 441, 3) := bdX12_best_0.2.2.2.2.2.1
theorem dX12_best_10 : decode cX12_best 10 = .ok (.aload_n 0, 1) := bdX12_best_0.2.2.2.2.2.2.1
theorem dX12_best_11 : decode cX12_best 11 = .ok (.getfield 35, 3) := bdX12_best_0.2.2.2.2.2.2.2.1
theorem dX12_best_14 : decode cX12_best 14 = .ok (.iconst 0, 1) := bdX12_best_0.2.2.2.2.2.2.2.2.1
theorem dX12_best_15 : decode cX12_best 15 = .ok (.iaload, 1) := bdX12_best_0.2.2.2.2.2.2.2.2.2
theorem bdX12_best_16 : (decode cX12_best 16 = .ok (.iconst 1, 1)) ∧ (decode cX12_best 17 = .ok (.isub, 1)) ∧ (decode cX12_best 18 = .ok (.i2l, 1)) ∧ (decode cX12_best 19 = .ok (.invokestatic 143, 3)) ∧ (decode cX12_best 22 = .ok (.ifCond .ne 10, 3)) ∧ (decode cX12_best 25 = .ok (.aload_n 0, 1)) ∧ (decode cX12_best 26 = .ok (.iconst 1, 1)) ∧ (decode cX12_best 27 = .ok (.invokevirtual 290, 3)) ∧ (decode cX12_best 30 = .ok (.i2l, 1)) ∧ (decode cX12_best 31 = .ok (.lreturn, 1)) := by decide +kernel
theorem dX12_best_16 : decode cX12_best 16 = .ok (.iconst 1, 1) := bdX12_best_16.1
theorem dX12_best_17 : decode cX12_best 17 = .ok (.isub, 1) := bdX12_best_16.2.1
theorem dX12_best_18 : decode cX12_best 18 = .ok (.i2l, 1) := bdX12_best_16.2.2.1
theorem dX12_best_19 : decode cX12_best 19 = .ok (.invokestatic 143, 3) := bdX12_best_16.2.2.2.1
theorem dX12_best_22 : decode cX12_best 22 = .ok (.ifCond .ne 10, 3) := bdX12_best_16.2.2.2.2.1
theorem dX12_best_25 : decode cX12_best 25 = .ok (.aload_n 0, 1) := bdX12_best_16.2.2.2.2.2.1
theorem dX12_best_26 : decode cX12_best 26 = .ok (.iconst 1, 1) := bdX12_best_16.2.2.2.2.2.2.1
theorem dX12_best_27 : decode cX12_best 27 = .ok (.invokevirtual 290, 3) := bdX12_best_16.2.2.2.2.2.2.2.1
theorem dX12_best_30 : decode cX12_best 30 = .ok (.i2l, 1) := bdX12_best_16.2.2.2.2.2.2.2.2.1
theorem dX12_best_31 : decode cX12_best 31 = .ok (.lreturn, 1) := bdX12_best_16.2.2.2.2.2.2.2.2.2
theorem bdX12_best_32 : (decode cX12_best 32 = .ok (.aload_n 0, 1)) ∧ (decode cX12_best 33 = .ok (.invokevirtual 443, 3)) ∧ (decode cX12_best 36 = .ok (.iload_n 1, 1)) ∧ (decode cX12_best 37 = .ok (.iconst (-1), 1)) ∧ (decode cX12_best 38 = .ok (.if_icmp .ne 10, 3)) ∧ (decode cX12_best 41 = .ok (.aload_n 0, 1)) ∧ (decode cX12_best 42 = .ok (.getfield 94, 3)) ∧ (decode cX12_best 45 = .ok (.iconst 0, 1)) ∧ (decode cX12_best 46 = .ok (.laload, 1)) ∧ (decode cX12_best 47 = .ok (.lreturn, 1)) := by decide +kernel
theorem dX12_best_32 : decode cX12_best 32 = .ok (.aload_n 0, 1) := bdX12_best_32.1
theorem dX12_best_33 : decode cX12_best 33 = .ok (.invokevirtual 443, 3) := bdX12_best_32.2.1
theorem dX12_best_36 : decode cX12_best 36 = .ok (.iload_n 1, 1) := bdX12_best_32.2.2.1
theorem dX12_best_37 : decode cX12_best 37 = .ok (.iconst (-1), 1) := bdX12_best_32.2.2.2.1
theorem dX12_best_38 : decode cX12_best 38 = .ok (.if_icmp .ne 10, 3) := bdX12_best_32.2.2.2.2.1
theorem dX12_best_41 : decode cX12_best 41 = .ok (.aload_n 0, 1) := bdX12_best_32.2.2.2.2.2.1
theorem dX12_best_42 : decode cX12_best 42 = .ok (.getfield 94, 3) := bdX12_best_32.2.2.2.2.2.2.1
theorem dX12_best_45 : decode cX12_best 45 = .ok (.iconst 0, 1) := bdX12_best_32.2.2.2.2.2.2.2.1
theorem dX12_best_46 : decode cX12_best 46 = .ok (.laload, 1) := bdX12_best_32.2.2.2.2.2.2.2.2.1
theorem dX12_best_47 : decode cX12_best 47 = .ok (.lreturn, 1) := bdX12_best_32.2.2.2.2.2.2.2.2.2
theorem bdX12_best_48 : (decode cX12_best 48 = .ok (.iconst 0, 1)) ∧ (decode cX12_best 49 = .ok (.istore_n 2, 1)) ∧ (decode cX12_best 50 = .ok (.iconst (-1), 1)) ∧ (decode cX12_best 51 = .ok (.istore_n 3, 1)) ∧ (decode cX12_best 52 = .ok (.iconst 0, 1)) ∧ (decode cX12_best 53 = .ok (.istore 4, 2)) ∧ (decode cX12_best 55 = .ok (.iload 4, 2)) ∧ (decode cX12_best 57 = .ok (.iload_n 1, 1)) ∧ (decode cX12_best 58 = .ok (.if_icmp .gt 84, 3)) ∧ (decode cX12_best 61 = .ok (.iconst (-1), 1)) := by decide +kernel
theorem dX12_best_48 : decode cX12_best 48 = .ok (.iconst 0, 1) := bdX12_best_48.1
theorem dX12_best_49 : decode cX12_best 49 = .ok (.istore_n 2, 1) := bdX12_best_48.2.1
theorem dX12_best_50 : decode cX12_best 50 = .ok (.iconst (-1), 1) := bdX12_best_48.2.2.1
theorem dX12_best_51 : decode cX12_best 51 = .ok (.istore_n 3, 1) := bdX12_best_48.2.2.2.1
theorem dX12_best_52 : decode cX12_best 52 = .ok (.iconst 0, 1) := bdX12_best_48.2.2.2.2.1
theorem dX12_best_53 : decode cX12_best 53 = .ok (.istore 4, 2) := bdX12_best_48.2.2.2.2.2.1
theorem dX12_best_55 : decode cX12_best 55 = .ok (.iload 4, 2) := bdX12_best_48.2.2.2.2.2.2.1
theorem dX12_best_57 : decode cX12_best 57 = .ok (.iload_n 1, 1) := bdX12_best_48.2.2.2.2.2.2.2.1
theorem dX12_best_58 : decode cX12_best 58 = .ok (.if_icmp .gt 84, 3) := bdX12_best_48.2.2.2.2.2.2.2.2.1
theorem dX12_best_61 : decode cX12_best 61 = .ok (.iconst (-1), 1) := bdX12_best_48.2.2.2.2.2.2.2.2.2
theorem bdX12_best_62 : (decode cX12_best 62 = .ok (.istore_n 3, 1)) ∧ (decode cX12_best 63 = .ok (.aload_n 0, 1)) ∧ (decode cX12_best 64 = .ok (.getfield 35, 3)) ∧ (decode cX12_best 67 = .ok (.iconst 1, 1)) ∧ (decode cX12_best 68 = .ok (.iaload, 1)) ∧ (decode cX12_best 69 = .ok (.iconst 1, 1)) ∧ (decode cX12_best 70 = .ok (.isub, 1)) ∧ (decode cX12_best 71 = .ok (.istore 5, 2)) ∧ (decode cX12_best 73 = .ok (.iload 5, 2)) ∧ (decode cX12_best 75 = .ok (.ifCond .lt 46, 3)) := by decide +kernel
theorem dX12_best_62 : decode cX12_best 62 = .ok (.istore_n 3, 1) := bdX12_best_62.1
theorem dX12_best_63 : decode cX12_best 63 = .ok (.aload_n 0, 1) := bdX12_best_62.2.1
theorem dX12_best_64 : decode cX12_best 64 = .ok (.getfield 35, 3) := bdX12_best_62.2.2.1
theorem dX12_best_67 : decode cX12_best 67 = .ok (.iconst 1, 1) := bdX12_best_62.2.2.2.1
theorem dX12_best_68 : decode cX12_best 68 = .ok (.iaload, 1) := bdX12_best_62.2.2.2.2.1
theorem dX12_best_69 : decode cX12_best 69 = .ok (.iconst 1, 1) := bdX12_best_62.2.2.2.2.2.1
theorem dX12_best_70 : decode cX12_best 70 = .ok (.isub, 1) := bdX12_best_62.2.2.2.2.2.2.1
theorem dX12_best_71 : decode cX12_best 71 = .ok (.istore 5, 2) := bdX12_best_62.2.2.2.2.2.2.2.1
theorem dX12_best_73 : decode cX12_best 73 = .ok (.iload 5, 2) := bdX12_best_62.2.2.2.2.2.2.2.2.1
theorem dX12_best_75 : decode cX12_best 75 = .ok (.ifCond .lt 46, 3) := bdX12_best_62.2.2.2.2.2.2.2.2.2
theorem bdX12_best_78 : (decode cX12_best 78 = .ok (.iload_n 2, 1)) ∧ (decode cX12_best 79 = .ok (.iload 5, 2)) ∧ (decode cX12_best 81 = .ok (.invokestatic 333, 3)) ∧ (decode cX12_best 84 = .ok (.ifCond .ne 31, 3)) ∧ (decode cX12_best 87 = .ok (.aload_n 0, 1)) ∧ (decode cX12_best 88 = .ok (.iload 4, 2)) ∧ (decode cX12_best 90 = .ok (.iload_n 2, 1)) ∧ (decode cX12_best 91 = .ok (.iload 5, 2)) ∧ (decode cX12_best 93 = .ok (.invokevirtual 434, 3)) ∧ (decode cX12_best 96 = .ok (.aload_n 0, 1)) := by decide +kernel
theorem dX12_best_78 : decode cX12_best 78 = .ok (.iload_n 2, 1) := bdX12_best_78.1
theorem dX12_best_79 : decode cX12_best 79 = .ok (.iload 5, 2) := bdX12_best_78.2.1
theorem dX12_best_81 : decode cX12_best 81 = .ok (.invokestatic 333, 3) := bdX12_best_78.2.2.1
theorem dX12_best_84 : decode cX12_best 84 = .ok (.ifCond .ne 31, 3) := bdX12_best_78.2.2.2.1
theorem dX12_best_87 : decode cX12_best 87 = .ok (.aload_n 0, 1) := bdX12_best_78.2.2.2.2.1
theorem dX12_best_88 : decode cX12_best 88 = .ok (.iload 4, 2) := bdX12_best_78.2.2.2.2.2.1
theorem dX12_best_90 : decode cX12_best 90 = .ok (.iload_n 2, 1) := bdX12_best_78.2.2.2.2.2.2.1
theorem dX12_best_91 : decode cX12_best 91 = .ok (.iload 5, 2) := bdX12_best_78.2.2.2.2.2.2.2.1
theorem dX12_best_93 : decode cX12_best 93 = .ok (.invokevirtual 434, 3) := bdX12_best_78.2.2.2.2.2.2.2.2.1
theorem dX12_best_96 : decode cX12_best 96 = .ok (.aload_n 0, 1) := bdX12_best_78.2.2.2.2.2.2.2.2.2
theorem bdX12_best_97 : (decode cX12_best 97 = .ok (.getfield 94, 3)) ∧ (decode cX12_best 100 = .ok (.iload 4, 2)) ∧ (decode cX12_best 102 = .ok (.bipush 9, 2)) ∧ (decode cX12_best 104 = .ok (.ishl, 1)) ∧ (decode cX12_best 105 = .ok (.iload_n 2, 1)) ∧ (decode cX12_best 106 = .ok (.iadd, 1)) ∧ (decode cX12_best 107 = .ok (.laload, 1)) ∧ (decode cX12_best 108 = .ok (.lcmp, 1)) ∧ (decode cX12_best 109 = .ok (.ifCond .ne 6, 3)) ∧ (decode cX12_best 112 = .ok (.iload 5, 2)) := by decide +kernel
theorem dX12_best_97 : decode cX12_best 97 = .ok (.getfield 94, 3) := bdX12_best_97.1
theorem dX12_best_100 : decode cX12_best 100 = .ok (.iload 4, 2) := bdX12_best_97.2.1
theorem dX12_best_102 : decode cX12_best 102 = .ok (.bipush 9, 2) := bdX12_best_97.2.2.1
theorem dX12_best_104 : decode cX12_best 104 = .ok (.ishl, 1) := bdX12_best_97.2.2.2.1
theorem dX12_best_105 : decode cX12_best 105 = .ok (.iload_n 2, 1) := bdX12_best_97.2.2.2.2.1
theorem dX12_best_106 : decode cX12_best 106 = .ok (.iadd, 1) := bdX12_best_97.2.2.2.2.2.1
theorem dX12_best_107 : decode cX12_best 107 = .ok (.laload, 1) := bdX12_best_97.2.2.2.2.2.2.1
theorem dX12_best_108 : decode cX12_best 108 = .ok (.lcmp, 1) := bdX12_best_97.2.2.2.2.2.2.2.1
theorem dX12_best_109 : decode cX12_best 109 = .ok (.ifCond .ne 6, 3) := bdX12_best_97.2.2.2.2.2.2.2.2.1
theorem dX12_best_112 : decode cX12_best 112 = .ok (.iload 5, 2) := bdX12_best_97.2.2.2.2.2.2.2.2.2
theorem bdX12_best_114 : (decode cX12_best 114 = .ok (.istore_n 3, 1)) ∧ (decode cX12_best 115 = .ok (.iinc 5 (-1), 3)) ∧ (decode cX12_best 118 = .ok (.goto (-45), 3)) ∧ (decode cX12_best 121 = .ok (.iload_n 2, 1)) ∧ (decode cX12_best 122 = .ok (.iload_n 3, 1)) ∧ (decode cX12_best 123 = .ok (.iconst (-1), 1)) ∧ (decode cX12_best 124 = .ok (.if_icmp .ne 7, 3)) ∧ (decode cX12_best 127 = .ok (.iconst 0, 1)) ∧ (decode cX12_best 128 = .ok (.goto 6, 3)) ∧ (decode cX12_best 131 = .ok (.iconst 1, 1)) := by decide +kernel
theorem dX12_best_114 : decode cX12_best 114 = .ok (.istore_n 3, 1) := bdX12_best_114.1
theorem dX12_best_115 : decode cX12_best 115 = .ok (.iinc 5 (-1), 3) := bdX12_best_114.2.1
theorem dX12_best_118 : decode cX12_best 118 = .ok (.goto (-45), 3) := bdX12_best_114.2.2.1
theorem dX12_best_121 : decode cX12_best 121 = .ok (.iload_n 2, 1) := bdX12_best_114.2.2.2.1
theorem dX12_best_122 : decode cX12_best 122 = .ok (.iload_n 3, 1) := bdX12_best_114.2.2.2.2.1
theorem dX12_best_123 : decode cX12_best 123 = .ok (.iconst (-1), 1) := bdX12_best_114.2.2.2.2.2.1
theorem dX12_best_124 : decode cX12_best 124 = .ok (.if_icmp .ne 7, 3) := bdX12_best_114.2.2.2.2.2.2.1
theorem dX12_best_127 : decode cX12_best 127 = .ok (.iconst 0, 1) := bdX12_best_114.2.2.2.2.2.2.2.1
theorem dX12_best_128 : decode cX12_best 128 = .ok (.goto 6, 3) := bdX12_best_114.2.2.2.2.2.2.2.2.1
theorem dX12_best_131 : decode cX12_best 131 = .ok (.iconst 1, 1) := bdX12_best_114.2.2.2.2.2.2.2.2.2
theorem bdX12_best_132 : (decode cX12_best 132 = .ok (.iload_n 3, 1)) ∧ (decode cX12_best 133 = .ok (.ishl, 1)) ∧ (decode cX12_best 134 = .ok (.ior, 1)) ∧ (decode cX12_best 135 = .ok (.istore_n 2, 1)) ∧ (decode cX12_best 136 = .ok (.iinc 4 1, 3)) ∧ (decode cX12_best 139 = .ok (.goto (-84), 3)) ∧ (decode cX12_best 142 = .ok (.iload_n 3, 1)) ∧ (decode cX12_best 143 = .ok (.i2l, 1)) ∧ (decode cX12_best 144 = .ok (.lreturn, 1)) := by decide +kernel
theorem dX12_best_132 : decode cX12_best 132 = .ok (.iload_n 3, 1) := bdX12_best_132.1
theorem dX12_best_133 : decode cX12_best 133 = .ok (.ishl, 1) := bdX12_best_132.2.1
theorem dX12_best_134 : decode cX12_best 134 = .ok (.ior, 1) := bdX12_best_132.2.2.1
theorem dX12_best_135 : decode cX12_best 135 = .ok (.istore_n 2, 1) := bdX12_best_132.2.2.2.1
theorem dX12_best_136 : decode cX12_best 136 = .ok (.iinc 4 1, 3) := bdX12_best_132.2.2.2.2.1
theorem dX12_best_139 : decode cX12_best 139 = .ok (.goto (-84), 3) := bdX12_best_132.2.2.2.2.2.1
theorem dX12_best_142 : decode cX12_best 142 = .ok (.iload_n 3, 1) := bdX12_best_132.2.2.2.2.2.2.1
theorem dX12_best_143 : decode cX12_best 143 = .ok (.i2l, 1) := bdX12_best_132.2.2.2.2.2.2.2.1
theorem dX12_best_144 : decode cX12_best 144 = .ok (.lreturn, 1) := bdX12_best_132.2.2.2.2.2.2.2.2
theorem bdX12_canAll_0 : (decode cX12_canAll 0 = .ok (.iload_n 1, 1)) ∧ (decode cX12_canAll 1 = .ok (.aload_n 0, 1)) ∧ (decode cX12_canAll 2 = .ok (.getfield 35, 3)) ∧ (decode cX12_canAll 5 = .ok (.iconst 0, 1)) ∧ (decode cX12_canAll 6 = .ok (.iaload, 1)) ∧ (decode cX12_canAll 7 = .ok (.if_icmp .ne 5, 3)) ∧ (decode cX12_canAll 10 = .ok (.iconst 1, 1)) ∧ (decode cX12_canAll 11 = .ok (.ireturn, 1)) ∧ (decode cX12_canAll 12 = .ok (.iconst 0, 1)) ∧ (decode cX12_canAll 13 = .ok (.istore 4, 2)) := by decide +kernel
theorem dX12_canAll_0 : decode cX12_canAll 0 = .ok (.iload_n 1, 1) := bdX12_canAll_0.1
theorem dX12_canAll_1 : decode cX12_canAll 1 = .ok (.aload_n 0, 1) := bdX12_canAll_0.2.1
theorem dX12_canAll_2 : decode cX12_canAll 2 = .ok (.getfield 35, 3) := bdX12_canAll_0.2.2.1
theorem dX12_canAll_5 : decode cX12_canAll 5 = .ok (.iconst 0, 1) := bdX12_canAll_0.2.2.2.1
theorem dX12_canAll_6 : decode cX12_canAll 6 = .ok (.iaload, 1) := bdX12_canAll_0.2.2.2.2.1
theorem dX12_canAll_7 : decode cX12_canAll 7 = .ok (.if_icmp .ne 5, 3) := bdX12_canAll_0.2.2.2.2.2.1
theorem dX12_canAll_10 : decode cX12_canAll 10 = .ok (.iconst 1, 1) := bdX12_canAll_0.2.2.2.2.2.2.1
theorem dX12_canAll_11 : decode cX12_canAll 11 = .ok (.ireturn, 1) := bdX12_canAll_0.2.2.2.2.2.2.2.1
theorem dX12_canAll_12 : decode cX12_canAll 12 = .ok (.iconst 0, 1) := bdX12_canAll_0.2.2.2.2.2.2.2.2.1
theorem dX12_canAll_13 : decode cX12_canAll 13 = .ok (.istore 4, 2) := bdX12_canAll_0.2.2.2.2.2.2.2.2.2
theorem bdX12_canAll_15 : (decode cX12_canAll 15 = .ok (.iload 4, 2)) ∧ (decode cX12_canAll 17 = .ok (.aload_n 0, 1)) ∧ (decode cX12_canAll 18 = .ok (.getfield 35, 3)) ∧ (decode cX12_canAll 21 = .ok (.iconst 1, 1)) ∧ (decode cX12_canAll 22 = .ok (.iaload, 1)) ∧ (decode cX12_canAll 23 = .ok (.if_icmp .ge 53, 3)) ∧ (decode cX12_canAll 26 = .ok (.iload_n 2, 1)) ∧ (decode cX12_canAll 27 = .ok (.iload 4, 2)) ∧ (decode cX12_canAll 29 = .ok (.invokestatic 333, 3)) ∧ (decode cX12_canAll 32 = .ok (.ifCond .ne 38, 3)) := by decide +kernel
theorem dX12_canAll_15 : decode cX12_canAll 15 = .ok (.iload 4, 2) := bdX12_canAll_15.1
theorem dX12_canAll_17 : decode cX12_canAll 17 = .ok (.aload_n 0, 1) := bdX12_canAll_15.2.1
theorem dX12_canAll_18 : decode cX12_canAll 18 = .ok (.getfield 35, 3) := bdX12_canAll_15.2.2.1
theorem dX12_canAll_21 : decode cX12_canAll 21 = .ok (.iconst 1, 1) := bdX12_canAll_15.2.2.2.1
theorem dX12_canAll_22 : decode cX12_canAll 22 = .ok (.iaload, 1) := bdX12_canAll_15.2.2.2.2.1
theorem dX12_canAll_23 : decode cX12_canAll 23 = .ok (.if_icmp .ge 53, 3) := bdX12_canAll_15.2.2.2.2.2.1
theorem dX12_canAll_26 : decode cX12_canAll 26 = .ok (.iload_n 2, 1) := bdX12_canAll_15.2.2.2.2.2.2.1
theorem dX12_canAll_27 : decode cX12_canAll 27 = .ok (.iload 4, 2) := bdX12_canAll_15.2.2.2.2.2.2.2.1
theorem dX12_canAll_29 : decode cX12_canAll 29 = .ok (.invokestatic 333, 3) := bdX12_canAll_15.2.2.2.2.2.2.2.2.1
theorem dX12_canAll_32 : decode cX12_canAll 32 = .ok (.ifCond .ne 38, 3) := bdX12_canAll_15.2.2.2.2.2.2.2.2.2
theorem bdX12_canAll_35 : (decode cX12_canAll 35 = .ok (.aload_n 0, 1)) ∧ (decode cX12_canAll 36 = .ok (.getfield 98, 3)) ∧ (decode cX12_canAll 39 = .ok (.bipush 9, 2)) ∧ (decode cX12_canAll 41 = .ok (.iload_n 1, 1)) ∧ (decode cX12_canAll 42 = .ok (.imul, 1)) ∧ (decode cX12_canAll 43 = .ok (.iload 4, 2)) ∧ (decode cX12_canAll 45 = .ok (.iadd, 1)) ∧ (decode cX12_canAll 46 = .ok (.iaload, 1)) ∧ (decode cX12_canAll 47 = .ok (.iload_n 3, 1)) ∧ (decode cX12_canAll 48 = .ok (.if_icmp .lt 22, 3)) := by decide +kernel
theorem dX12_canAll_35 : decode cX12_canAll 35 = .ok (.aload_n 0, 1) := bdX12_canAll_35.1
theorem dX12_canAll_36 : decode cX12_canAll 36 = .ok (.getfield 98, 3) := bdX12_canAll_35.2.1
theorem dX12_canAll_39 : decode cX12_canAll 39 = .ok (.bipush 9, 2) := bdX12_canAll_35.2.2.1
theorem dX12_canAll_41 : decode cX12_canAll 41 = .ok (.iload_n 1, 1) := bdX12_canAll_35.2.2.2.1
theorem dX12_canAll_42 : decode cX12_canAll 42 = .ok (.imul, 1) := bdX12_canAll_35.2.2.2.2.1
theorem dX12_canAll_43 : decode cX12_canAll 43 = .ok (.iload 4, 2) := bdX12_canAll_35.2.2.2.2.2.1
theorem dX12_canAll_45 : decode cX12_canAll 45 = .ok (.iadd, 1) := bdX12_canAll_35.2.2.2.2.2.2.1
theorem dX12_canAll_46 : decode cX12_canAll 46 = .ok (.iaload, 1) := bdX12_canAll_35.2.2.2.2.2.2.2.1
theorem dX12_canAll_47 : decode cX12_canAll 47 = .ok (.iload_n 3, 1) := bdX12_canAll_35.2.2.2.2.2.2.2.2.1
theorem dX12_canAll_48 : decode cX12_canAll 48 = .ok (.if_icmp .lt 22, 3) := bdX12_canAll_35.2.2.2.2.2.2.2.2.2
theorem bdX12_canAll_51 : (decode cX12_canAll 51 = .ok (.aload_n 0, 1)) ∧ (decode cX12_canAll 52 = .ok (.iload_n 1, 1)) ∧ (decode cX12_canAll 53 = .ok (.iconst 1, 1)) ∧ (decode cX12_canAll 54 = .ok (.iadd, 1)) ∧ (decode cX12_canAll 55 = .ok (.iload_n 2, 1)) ∧ (decode cX12_canAll 56 = .ok (.iconst 1, 1)) ∧ (decode cX12_canAll 57 = .ok (.iload 4, 2)) ∧ (decode cX12_canAll 59 = .ok (.ishl, 1)) ∧ (decode cX12_canAll 60 = .ok (.ior, 1)) ∧ (decode cX12_canAll 61 = .ok (.iload_n 3, 1)) := by decide +kernel
theorem dX12_canAll_51 : decode cX12_canAll 51 = .ok (.aload_n 0, 1) := bdX12_canAll_51.1
theorem dX12_canAll_52 : decode cX12_canAll 52 = .ok (.iload_n 1, 1) := bdX12_canAll_51.2.1
theorem dX12_canAll_53 : decode cX12_canAll 53 = .ok (.iconst 1, 1) := bdX12_canAll_51.2.2.1
theorem dX12_canAll_54 : decode cX12_canAll 54 = .ok (.iadd, 1) := bdX12_canAll_51.2.2.2.1
theorem dX12_canAll_55 : decode cX12_canAll 55 = .ok (.iload_n 2, 1) := bdX12_canAll_51.2.2.2.2.1
theorem dX12_canAll_56 : decode cX12_canAll 56 = .ok (.iconst 1, 1) := bdX12_canAll_51.2.2.2.2.2.1
theorem dX12_canAll_57 : decode cX12_canAll 57 = .ok (.iload 4, 2) := bdX12_canAll_51.2.2.2.2.2.2.1
theorem dX12_canAll_59 : decode cX12_canAll 59 = .ok (.ishl, 1) := bdX12_canAll_51.2.2.2.2.2.2.2.1
theorem dX12_canAll_60 : decode cX12_canAll 60 = .ok (.ior, 1) := bdX12_canAll_51.2.2.2.2.2.2.2.2.1
theorem dX12_canAll_61 : decode cX12_canAll 61 = .ok (.iload_n 3, 1) := bdX12_canAll_51.2.2.2.2.2.2.2.2.2
theorem bdX12_canAll_62 : (decode cX12_canAll 62 = .ok (.invokevirtual 446, 3)) ∧ (decode cX12_canAll 65 = .ok (.ifCond .eq 5, 3)) ∧ (decode cX12_canAll 68 = .ok (.iconst 1, 1)) ∧ (decode cX12_canAll 69 = .ok (.ireturn, 1)) ∧ (decode cX12_canAll 70 = .ok (.iinc 4 1, 3)) ∧ (decode cX12_canAll 73 = .ok (.goto (-58), 3)) ∧ (decode cX12_canAll 76 = .ok (.iconst 0, 1)) ∧ (decode cX12_canAll 77 = .ok (.ireturn, 1)) := by decide +kernel
theorem dX12_canAll_62 : decode cX12_canAll 62 = .ok (.invokevirtual 446, 3) := bdX12_canAll_62.1
theorem dX12_canAll_65 : decode cX12_canAll 65 = .ok (.ifCond .eq 5, 3) := bdX12_canAll_62.2.1
theorem dX12_canAll_68 : decode cX12_canAll 68 = .ok (.iconst 1, 1) := bdX12_canAll_62.2.2.1
theorem dX12_canAll_69 : decode cX12_canAll 69 = .ok (.ireturn, 1) := bdX12_canAll_62.2.2.2.1
theorem dX12_canAll_70 : decode cX12_canAll 70 = .ok (.iinc 4 1, 3) := bdX12_canAll_62.2.2.2.2.1
theorem dX12_canAll_73 : decode cX12_canAll 73 = .ok (.goto (-58), 3) := bdX12_canAll_62.2.2.2.2.2.1
theorem dX12_canAll_76 : decode cX12_canAll 76 = .ok (.iconst 0, 1) := bdX12_canAll_62.2.2.2.2.2.2.1
theorem dX12_canAll_77 : decode cX12_canAll 77 = .ok (.ireturn, 1) := bdX12_canAll_62.2.2.2.2.2.2.2
theorem bdX12_fairest_0 : (decode cX12_fairest 0 = .ok (.aload_n 0, 1)) ∧ (decode cX12_fairest 1 = .ok (.iconst 0, 1)) ∧ (decode cX12_fairest 2 = .ok (.putfield 140, 3)) ∧ (decode cX12_fairest 5 = .ok (.iload_n 1, 1)) ∧ (decode cX12_fairest 6 = .ok (.ifCond .lt 8, 3)) ∧ (decode cX12_fairest 9 = .ok (.iload_n 1, 1)) ∧ (decode cX12_fairest 10 = .ok (.iconst 1, 1)) ∧ (decode cX12_fairest 11 = .ok (.if_icmp .le 9, 3)) ∧ (decode cX12_fairest 14 = .ok (.aload_n 0, 1)) ∧ (decode cX12_fairest 15 = .ok (.iconst 1, 1)) := by decide +kernel
theorem dX12_fairest_0 : decode cX12_fairest 0 = .ok (.aload_n 0, 1) := bdX12_fairest_0.1
theorem dX12_fairest_1 : decode cX12_fairest 1 = .ok (.iconst 0, 1) := bdX12_fairest_0.2.1
theorem dX12_fairest_2 : decode cX12_fairest 2 = .ok (.putfield 140, 3) := bdX12_fairest_0.2.2.1
theorem dX12_fairest_5 : decode cX12_fairest 5 = .ok (.iload_n 1, 1) := bdX12_fairest_0.2.2.2.1
theorem dX12_fairest_6 : decode cX12_fairest 6 = .ok (.ifCond .lt 8, 3) := bdX12_fairest_0.2.2.2.2.1
theorem dX12_fairest_9 : decode cX12_fairest 9 = .ok (.iload_n 1, 1) := bdX12_fairest_0.2.2.2.2.2.1
theorem dX12_fairest_10 : decode cX12_fairest 10 = .ok (.iconst 1, 1) := bdX12_fairest_0.2.2.2.2.2.2.1
theorem dX12_fairest_11 : decode cX12_fairest 11 = .ok (.if_icmp .le 9, 3) := bdX12_fairest_0.2.2.2.2.2.2.2.1
theorem dX12_fairest_14 : decode cX12_fairest 14 = .ok (.aload_n 0, 1) := bdX12_fairest_0.2.2.2.2.2.2.2.2.1
theorem dX12_fairest_15 : decode cX12_fairest 15 = .ok (.iconst 1, 1) := bdX12_fairest_0.2.2.2.2.2.2.2.2.2
theorem bdX12_fairest_16 : (decode cX12_fairest 16 = .ok (.invokevirtual 290, 3)) ∧ (decode cX12_fairest 19 = .ok (.ireturn, 1)) ∧ (decode cX12_fairest 20 = .ok (.aload_n 0, 1)) ∧ (decode cX12_fairest 21 = .ok (.getfield 35, 3)) ∧ (decode cX12_fairest 24 = .ok (.iconst 0, 1)) ∧ (decode cX12_fairest 25 = .ok (.iaload, 1)) ∧ (decode cX12_fairest 26 = .ok (.ifCond .eq 18, 3)) ∧ (decode cX12_fairest 29 = .ok (.aload_n 0, 1)) ∧ (decode cX12_fairest 30 = .ok (.getfield 35, 3)) ∧ (decode cX12_fairest 33 = .ok (.iconst 1, 1)) := by decide +kernel
theorem dX12_fairest_16 : decode cX12_fairest 16 = .ok (.invokevirtual 290, 3) := bdX12_fairest_16.1
theorem dX12_fairest_19 : decode cX12_fairest 19 = .ok (.ireturn, 1) := bdX12_fairest_16.2.1
theorem dX12_fairest_20 : decode cX12_fairest 20 = .ok (.aload_n 0, 1) := bdX12_fairest_16.2.2.1
theorem dX12_fairest_21 : decode cX12_fairest 21 = .ok (.getfield 35, 3) := bdX12_fairest_16.2.2.2.1
theorem dX12_fairest_24 : decode cX12_fairest 24 = .ok (.iconst 0, 1) := bdX12_fairest_16.2.2.2.2.1
theorem dX12_fairest_25 : decode cX12_fairest 25 = .ok (.iaload, 1) := bdX12_fairest_16.2.2.2.2.2.1
theorem dX12_fairest_26 : decode cX12_fairest 26 = .ok (.ifCond .eq 18, 3) := bdX12_fairest_16.2.2.2.2.2.2.1
theorem dX12_fairest_29 : decode cX12_fairest 29 = .ok (.aload_n 0, 1) := bdX12_fairest_16.2.2.2.2.2.2.2.1
theorem dX12_fairest_30 : decode cX12_fairest 30 = .ok (.getfield 35, 3) := bdX12_fairest_16.2.2.2.2.2.2.2.2.1
theorem dX12_fairest_33 : decode cX12_fairest 33 = .ok (.iconst 1, 1) := bdX12_fairest_16.2.2.2.2.2.2.2.2.2
theorem bdX12_fairest_34 : (decode cX12_fairest 34 = .ok (.iaload, 1)) ∧ (decode cX12_fairest 35 = .ok (.aload_n 0, 1)) ∧ (decode cX12_fairest 36 = .ok (.getfield 35, 3)) ∧ (decode cX12_fairest 39 = .ok (.iconst 0, 1)) ∧ (decode cX12_fairest 40 = .ok (.iaload, 1)) ∧ (decode cX12_fairest 41 = .ok (.if_icmp .ge 5, 3)) ∧ (decode cX12_fairest 44 = .ok (.iconst 0, 1)) ∧ (decode cX12_fairest 45 = .ok (.ireturn, 1)) ∧ (decode cX12_fairest 46 = .ok (.iload_n 1, 1)) ∧ (decode cX12_fairest 47 = .ok (.ifCond .ne 5, 3)) := by decide +kernel
theorem dX12_fairest_34 : decode cX12_fairest 34 = .ok (.iaload, 1) := bdX12_fairest_34.1
theorem dX12_fairest_35 : decode cX12_fairest 35 = .ok (.aload_n 0, 1) := bdX12_fairest_34.2.1
theorem dX12_fairest_36 : decode cX12_fairest 36 = .ok (.getfield 35, 3) := bdX12_fairest_34.2.2.1
theorem dX12_fairest_39 : decode cX12_fairest 39 = .ok (.iconst 0, 1) := bdX12_fairest_34.2.2.2.1
theorem dX12_fairest_40 : decode cX12_fairest 40 = .ok (.iaload, 1) := bdX12_fairest_34.2.2.2.2.1
theorem dX12_fairest_41 : decode cX12_fairest 41 = .ok (.if_icmp .ge 5, 3) := bdX12_fairest_34.2.2.2.2.2.1
theorem dX12_fairest_44 : decode cX12_fairest 44 = .ok (.iconst 0, 1) := bdX12_fairest_34.2.2.2.2.2.2.1
theorem dX12_fairest_45 : decode cX12_fairest 45 = .ok (.ireturn, 1) := bdX12_fairest_34.2.2.2.2.2.2.2.1
theorem dX12_fairest_46 : decode cX12_fairest 46 = .ok (.iload_n 1, 1) := bdX12_fairest_34.2.2.2.2.2.2.2.2.1
theorem dX12_fairest_47 : decode cX12_fairest 47 = .ok (.ifCond .ne 5, 3) := bdX12_fairest_34.2.2.2.2.2.2.2.2.2
theorem bdX12_fairest_50 : (decode cX12_fairest 50 = .ok (.iconst 1, 1)) ∧ (decode cX12_fairest 51 = .ok (.ireturn, 1)) ∧ (decode cX12_fairest 52 = .ok (.aload_n 0, 1)) ∧ (decode cX12_fairest 53 = .ok (.invokevirtual 428, 3)) ∧ (decode cX12_fairest 56 = .ok (.ldc_w 452, 3)) ∧ (decode cX12_fairest 59 = .ok (.istore_n 2, 1)) ∧ (decode cX12_fairest 60 = .ok (.iconst 0, 1)) ∧ (decode cX12_fairest 61 = .ok (.istore_n 3, 1)) ∧ (decode cX12_fairest 62 = .ok (.iload_n 3, 1)) ∧ (decode cX12_fairest 63 = .ok (.bipush 9, 2)) := by decide +kernel
theorem dX12_fairest_50 : decode cX12_fairest 50 = .ok (.iconst 1, 1) := bdX12_fairest_50.1
theorem dX12_fairest_51 : decode cX12_fairest 51 = .ok (.ireturn, 1) := bdX12_fairest_50.2.1
theorem dX12_fairest_52 : decode cX12_fairest 52 = .ok (.aload_n 0, 1) := bdX12_fairest_50.2.2.1
theorem dX12_fairest_53 : decode cX12_fairest 53 = .ok (.invokevirtual 428, 3) := bdX12_fairest_50.2.2.2.1
theorem dX12_fairest_56 : decode cX12_fairest 56 = .ok (.ldc_w 452, 3) := bdX12_fairest_50.2.2.2.2.1
theorem dX12_fairest_59 : decode cX12_fairest 59 = .ok (.istore_n 2, 1) := bdX12_fairest_50.2.2.2.2.2.1
theorem dX12_fairest_60 : decode cX12_fairest 60 = .ok (.iconst 0, 1) := bdX12_fairest_50.2.2.2.2.2.2.1
theorem dX12_fairest_61 : decode cX12_fairest 61 = .ok (.istore_n 3, 1) := bdX12_fairest_50.2.2.2.2.2.2.2.1
theorem dX12_fairest_62 : decode cX12_fairest 62 = .ok (.iload_n 3, 1) := bdX12_fairest_50.2.2.2.2.2.2.2.2.1
theorem dX12_fairest_63 : decode cX12_fairest 63 = .ok (.bipush 9, 2) := bdX12_fairest_50.2.2.2.2.2.2.2.2.2
theorem bdX12_fairest_65 : (decode cX12_fairest 65 = .ok (.aload_n 0, 1)) ∧ (decode cX12_fairest 66 = .ok (.getfield 35, 3)) ∧ (decode cX12_fairest 69 = .ok (.iconst 0, 1)) ∧ (decode cX12_fairest 70 = .ok (.iaload, 1)) ∧ (decode cX12_fairest 71 = .ok (.imul, 1)) ∧ (decode cX12_fairest 72 = .ok (.if_icmp .ge 54, 3)) ∧ (decode cX12_fairest 75 = .ok (.iload_n 3, 1)) ∧ (decode cX12_fairest 76 = .ok (.bipush 9, 2)) ∧ (decode cX12_fairest 78 = .ok (.irem, 1)) ∧ (decode cX12_fairest 79 = .ok (.aload_n 0, 1)) := by decide +kernel
theorem dX12_fairest_65 : decode cX12_fairest 65 = .ok (.aload_n 0, 1) := bdX12_fairest_65.1
theorem dX12_fairest_66 : decode cX12_fairest 66 = .ok (.getfield 35, 3) := bdX12_fairest_65.2.1
theorem dX12_fairest_69 : decode cX12_fairest 69 = .ok (.iconst 0, 1) := bdX12_fairest_65.2.2.1
theorem dX12_fairest_70 : decode cX12_fairest 70 = .ok (.iaload, 1) := bdX12_fairest_65.2.2.2.1
theorem dX12_fairest_71 : decode cX12_fairest 71 = .ok (.imul, 1) := bdX12_fairest_65.2.2.2.2.1
theorem dX12_fairest_72 : decode cX12_fairest 72 = .ok (.if_icmp .ge 54, 3) := bdX12_fairest_65.2.2.2.2.2.1
theorem dX12_fairest_75 : decode cX12_fairest 75 = .ok (.iload_n 3, 1) := bdX12_fairest_65.2.2.2.2.2.2.1
theorem dX12_fairest_76 : decode cX12_fairest 76 = .ok (.bipush 9, 2) := bdX12_fairest_65.2.2.2.2.2.2.2.1
theorem dX12_fairest_78 : decode cX12_fairest 78 = .ok (.irem, 1) := bdX12_fairest_65.2.2.2.2.2.2.2.2.1
theorem dX12_fairest_79 : decode cX12_fairest 79 = .ok (.aload_n 0, 1) := bdX12_fairest_65.2.2.2.2.2.2.2.2.2
theorem bdX12_fairest_80 : (decode cX12_fairest 80 = .ok (.getfield 35, 3)) ∧ (decode cX12_fairest 83 = .ok (.iconst 1, 1)) ∧ (decode cX12_fairest 84 = .ok (.iaload, 1)) ∧ (decode cX12_fairest 85 = .ok (.if_icmp .ge 35, 3)) ∧ (decode cX12_fairest 88 = .ok (.aload_n 0, 1)) ∧ (decode cX12_fairest 89 = .ok (.getfield 98, 3)) ∧ (decode cX12_fairest 92 = .ok (.iload_n 3, 1)) ∧ (decode cX12_fairest 93 = .ok (.iaload, 1)) ∧ (decode cX12_fairest 94 = .ok (.iload_n 2, 1)) ∧ (decode cX12_fairest 95 = .ok (.if_icmp .le 25, 3)) := by decide +kernel
theorem dX12_fairest_80 : decode cX12_fairest 80 = .ok (.getfield 35, 3) := bdX12_fairest_80.1
theorem dX12_fairest_83 : decode cX12_fairest 83 = .ok (.iconst 1, 1) := bdX12_fairest_80.2.1
theorem dX12_fairest_84 : decode cX12_fairest 84 = .ok (.iaload, 1) := bdX12_fairest_80.2.2.1
theorem dX12_fairest_85 : decode cX12_fairest 85 = .ok (.if_icmp .ge 35, 3) := bdX12_fairest_80.2.2.2.1
theorem dX12_fairest_88 : decode cX12_fairest 88 = .ok (.aload_n 0, 1) := bdX12_fairest_80.2.2.2.2.1
theorem dX12_fairest_89 : decode cX12_fairest 89 = .ok (.getfield 98, 3) := bdX12_fairest_80.2.2.2.2.2.1
theorem dX12_fairest_92 : decode cX12_fairest 92 = .ok (.iload_n 3, 1) := bdX12_fairest_80.2.2.2.2.2.2.1
theorem dX12_fairest_93 : decode cX12_fairest 93 = .ok (.iaload, 1) := bdX12_fairest_80.2.2.2.2.2.2.2.1
theorem dX12_fairest_94 : decode cX12_fairest 94 = .ok (.iload_n 2, 1) := bdX12_fairest_80.2.2.2.2.2.2.2.2.1
theorem dX12_fairest_95 : decode cX12_fairest 95 = .ok (.if_icmp .le 25, 3) := bdX12_fairest_80.2.2.2.2.2.2.2.2.2
theorem bdX12_fairest_98 : (decode cX12_fairest 98 = .ok (.aload_n 0, 1)) ∧ (decode cX12_fairest 99 = .ok (.iconst 0, 1)) ∧ (decode cX12_fairest 100 = .ok (.iconst 0, 1)) ∧ (decode cX12_fairest 101 = .ok (.aload_n 0, 1)) ∧ (decode cX12_fairest 102 = .ok (.getfield 98, 3)) ∧ (decode cX12_fairest 105 = .ok (.iload_n 3, 1)) ∧ (decode cX12_fairest 106 = .ok (.iaload, 1)) ∧ (decode cX12_fairest 107 = .ok (.invokevirtual 446, 3)) ∧ (decode cX12_fairest 110 = .ok (.ifCond .eq 10, 3)) ∧ (decode cX12_fairest 113 = .ok (.aload_n 0, 1)) := by decide +kernel
theorem dX12_fairest_98 : decode cX12_fairest 98 = .ok (.aload_n 0, 1) := bdX12_fairest_98.1
theorem dX12_fairest_99 : decode cX12_fairest 99 = .ok (.iconst 0, 1) := bdX12_fairest_98.2.1
theorem dX12_fairest_100 : decode cX12_fairest 100 = .ok (.iconst 0, 1) := bdX12_fairest_98.2.2.1
theorem dX12_fairest_101 : decode cX12_fairest 101 = .ok (.aload_n 0, 1) := bdX12_fairest_98.2.2.2.1
theorem dX12_fairest_102 : decode cX12_fairest 102 = .ok (.getfield 98, 3) := bdX12_fairest_98.2.2.2.2.1
theorem dX12_fairest_105 : decode cX12_fairest 105 = .ok (.iload_n 3, 1) := bdX12_fairest_98.2.2.2.2.2.1
theorem dX12_fairest_106 : decode cX12_fairest 106 = .ok (.iaload, 1) := bdX12_fairest_98.2.2.2.2.2.2.1
theorem dX12_fairest_107 : decode cX12_fairest 107 = .ok (.invokevirtual 446, 3) := bdX12_fairest_98.2.2.2.2.2.2.2.1
theorem dX12_fairest_110 : decode cX12_fairest 110 = .ok (.ifCond .eq 10, 3) := bdX12_fairest_98.2.2.2.2.2.2.2.2.1
theorem dX12_fairest_113 : decode cX12_fairest 113 = .ok (.aload_n 0, 1) := bdX12_fairest_98.2.2.2.2.2.2.2.2.2
theorem bdX12_fairest_114 : (decode cX12_fairest 114 = .ok (.getfield 98, 3)) ∧ (decode cX12_fairest 117 = .ok (.iload_n 3, 1)) ∧ (decode cX12_fairest 118 = .ok (.iaload, 1)) ∧ (decode cX12_fairest 119 = .ok (.istore_n 2, 1)) ∧ (decode cX12_fairest 120 = .ok (.iinc 3 1, 3)) ∧ (decode cX12_fairest 123 = .ok (.goto (-61), 3)) ∧ (decode cX12_fairest 126 = .ok (.iload_n 2, 1)) ∧ (decode cX12_fairest 127 = .ok (.ireturn, 1)) := by decide +kernel
theorem dX12_fairest_114 : decode cX12_fairest 114 = .ok (.getfield 98, 3) := bdX12_fairest_114.1
theorem dX12_fairest_117 : decode cX12_fairest 117 = .ok (.iload_n 3, 1) := bdX12_fairest_114.2.1
theorem dX12_fairest_118 : decode cX12_fairest 118 = .ok (.iaload, 1) := bdX12_fairest_114.2.2.1
theorem dX12_fairest_119 : decode cX12_fairest 119 = .ok (.istore_n 2, 1) := bdX12_fairest_114.2.2.2.1
theorem dX12_fairest_120 : decode cX12_fairest 120 = .ok (.iinc 3 1, 3) := bdX12_fairest_114.2.2.2.2.1
theorem dX12_fairest_123 : decode cX12_fairest 123 = .ok (.goto (-61), 3) := bdX12_fairest_114.2.2.2.2.2.1
theorem dX12_fairest_126 : decode cX12_fairest 126 = .ok (.iload_n 2, 1) := bdX12_fairest_114.2.2.2.2.2.2.1
theorem dX12_fairest_127 : decode cX12_fairest 127 = .ok (.ireturn, 1) := bdX12_fairest_114.2.2.2.2.2.2.2
theorem bdX12_spreadFrom_0 : (decode cX12_spreadFrom 0 = .ok (.iload_n 1, 1)) ∧ (decode cX12_spreadFrom 1 = .ok (.aload_n 0, 1)) ∧ (decode cX12_spreadFrom 2 = .ok (.getfield 35, 3)) ∧ (decode cX12_spreadFrom 5 = .ok (.iconst 0, 1)) ∧ (decode cX12_spreadFrom 6 = .ok (.iaload, 1)) ∧ (decode cX12_spreadFrom 7 = .ok (.if_icmp .ne 55, 3)) ∧ (decode cX12_spreadFrom 10 = .ok (.aload_n 0, 1)) ∧ (decode cX12_spreadFrom 11 = .ok (.getfield 101, 3)) ∧ (decode cX12_spreadFrom 14 = .ok (.iconst 0, 1)) ∧ (decode cX12_spreadFrom 15 = .ok (.iaload, 1)) := by decide +kernel
theorem dX12_spreadFrom_0 : decode cX12_spreadFrom 0 = .ok (.iload_n 1, 1) := bdX12_spreadFrom_0.1
theorem dX12_spreadFrom_1 : decode cX12_spreadFrom 1 = .ok (.aload_n 0, 1) := bdX12_spreadFrom_0.2.1
theorem dX12_spreadFrom_2 : decode cX12_spreadFrom 2 = .ok (.getfield 35, 3) := bdX12_spreadFrom_0.2.2.1
theorem dX12_spreadFrom_5 : decode cX12_spreadFrom 5 = .ok (.iconst 0, 1) := bdX12_spreadFrom_0.2.2.2.1
theorem dX12_spreadFrom_6 : decode cX12_spreadFrom 6 = .ok (.iaload, 1) := bdX12_spreadFrom_0.2.2.2.2.1
theorem dX12_spreadFrom_7 : decode cX12_spreadFrom 7 = .ok (.if_icmp .ne 55, 3) := bdX12_spreadFrom_0.2.2.2.2.2.1
theorem dX12_spreadFrom_10 : decode cX12_spreadFrom 10 = .ok (.aload_n 0, 1) := bdX12_spreadFrom_0.2.2.2.2.2.2.1
theorem dX12_spreadFrom_11 : decode cX12_spreadFrom 11 = .ok (.getfield 101, 3) := bdX12_spreadFrom_0.2.2.2.2.2.2.2.1
theorem dX12_spreadFrom_14 : decode cX12_spreadFrom 14 = .ok (.iconst 0, 1) := bdX12_spreadFrom_0.2.2.2.2.2.2.2.2.1
theorem dX12_spreadFrom_15 : decode cX12_spreadFrom 15 = .ok (.iaload, 1) := bdX12_spreadFrom_0.2.2.2.2.2.2.2.2.2
theorem bdX12_spreadFrom_16 : (decode cX12_spreadFrom 16 = .ok (.aload_n 0, 1)) ∧ (decode cX12_spreadFrom 17 = .ok (.getfield 101, 3)) ∧ (decode cX12_spreadFrom 20 = .ok (.iconst 1, 1)) ∧ (decode cX12_spreadFrom 21 = .ok (.iaload, 1)) ∧ (decode cX12_spreadFrom 22 = .ok (.aload_n 0, 1)) ∧ (decode cX12_spreadFrom 23 = .ok (.getfield 101, 3)) ∧ (decode cX12_spreadFrom 26 = .ok (.iconst 2, 1)) ∧ (decode cX12_spreadFrom 27 = .ok (.iaload, 1)) ∧ (decode cX12_spreadFrom 28 = .ok (.invokestatic 356, 3)) ∧ (decode cX12_spreadFrom 31 = .ok (.invokestatic 356, 3)) := by decide +kernel
theorem dX12_spreadFrom_16 : decode cX12_spreadFrom 16 = .ok (.aload_n 0, 1) := bdX12_spreadFrom_16.1
theorem dX12_spreadFrom_17 : decode cX12_spreadFrom 17 = .ok (.getfield 101, 3) := bdX12_spreadFrom_16.2.1
theorem dX12_spreadFrom_20 : decode cX12_spreadFrom 20 = .ok (.iconst 1, 1) := bdX12_spreadFrom_16.2.2.1
theorem dX12_spreadFrom_21 : decode cX12_spreadFrom 21 = .ok (.iaload, 1) := bdX12_spreadFrom_16.2.2.2.1
theorem dX12_spreadFrom_22 : decode cX12_spreadFrom 22 = .ok (.aload_n 0, 1) := bdX12_spreadFrom_16.2.2.2.2.1
theorem dX12_spreadFrom_23 : decode cX12_spreadFrom 23 = .ok (.getfield 101, 3) := bdX12_spreadFrom_16.2.2.2.2.2.1
theorem dX12_spreadFrom_26 : decode cX12_spreadFrom 26 = .ok (.iconst 2, 1) := bdX12_spreadFrom_16.2.2.2.2.2.2.1
theorem dX12_spreadFrom_27 : decode cX12_spreadFrom 27 = .ok (.iaload, 1) := bdX12_spreadFrom_16.2.2.2.2.2.2.2.1
theorem dX12_spreadFrom_28 : decode cX12_spreadFrom 28 = .ok (.invokestatic 356, 3) := bdX12_spreadFrom_16.2.2.2.2.2.2.2.2.1
theorem dX12_spreadFrom_31 : decode cX12_spreadFrom 31 = .ok (.invokestatic 356, 3) := bdX12_spreadFrom_16.2.2.2.2.2.2.2.2.2
theorem bdX12_spreadFrom_34 : (decode cX12_spreadFrom 34 = .ok (.istore_n 2, 1)) ∧ (decode cX12_spreadFrom 35 = .ok (.iload_n 2, 1)) ∧ (decode cX12_spreadFrom 36 = .ok (.aload_n 0, 1)) ∧ (decode cX12_spreadFrom 37 = .ok (.getfield 101, 3)) ∧ (decode cX12_spreadFrom 40 = .ok (.iconst 0, 1)) ∧ (decode cX12_spreadFrom 41 = .ok (.iaload, 1)) ∧ (decode cX12_spreadFrom 42 = .ok (.aload_n 0, 1)) ∧ (decode cX12_spreadFrom 43 = .ok (.getfield 101, 3)) ∧ (decode cX12_spreadFrom 46 = .ok (.iconst 1, 1)) ∧ (decode cX12_spreadFrom 47 = .ok (.iaload, 1)) := by decide +kernel
theorem dX12_spreadFrom_34 : decode cX12_spreadFrom 34 = .ok (.istore_n 2, 1) := bdX12_spreadFrom_34.1
theorem dX12_spreadFrom_35 : decode cX12_spreadFrom 35 = .ok (.iload_n 2, 1) := bdX12_spreadFrom_34.2.1
theorem dX12_spreadFrom_36 : decode cX12_spreadFrom 36 = .ok (.aload_n 0, 1) := bdX12_spreadFrom_34.2.2.1
theorem dX12_spreadFrom_37 : decode cX12_spreadFrom 37 = .ok (.getfield 101, 3) := bdX12_spreadFrom_34.2.2.2.1
theorem dX12_spreadFrom_40 : decode cX12_spreadFrom 40 = .ok (.iconst 0, 1) := bdX12_spreadFrom_34.2.2.2.2.1
theorem dX12_spreadFrom_41 : decode cX12_spreadFrom 41 = .ok (.iaload, 1) := bdX12_spreadFrom_34.2.2.2.2.2.1
theorem dX12_spreadFrom_42 : decode cX12_spreadFrom 42 = .ok (.aload_n 0, 1) := bdX12_spreadFrom_34.2.2.2.2.2.2.1
theorem dX12_spreadFrom_43 : decode cX12_spreadFrom 43 = .ok (.getfield 101, 3) := bdX12_spreadFrom_34.2.2.2.2.2.2.2.1
theorem dX12_spreadFrom_46 : decode cX12_spreadFrom 46 = .ok (.iconst 1, 1) := bdX12_spreadFrom_34.2.2.2.2.2.2.2.2.1
theorem dX12_spreadFrom_47 : decode cX12_spreadFrom 47 = .ok (.iaload, 1) := bdX12_spreadFrom_34.2.2.2.2.2.2.2.2.2
theorem bdX12_spreadFrom_48 : (decode cX12_spreadFrom 48 = .ok (.aload_n 0, 1)) ∧ (decode cX12_spreadFrom 49 = .ok (.getfield 101, 3)) ∧ (decode cX12_spreadFrom 52 = .ok (.iconst 2, 1)) ∧ (decode cX12_spreadFrom 53 = .ok (.iaload, 1)) ∧ (decode cX12_spreadFrom 54 = .ok (.invokestatic 177, 3)) ∧ (decode cX12_spreadFrom 57 = .ok (.invokestatic 177, 3)) ∧ (decode cX12_spreadFrom 60 = .ok (.isub, 1)) ∧ (decode cX12_spreadFrom 61 = .ok (.ireturn, 1)) ∧ (decode cX12_spreadFrom 62 = .ok (.ldc_w 453, 3)) ∧ (decode cX12_spreadFrom 65 = .ok (.istore_n 2, 1)) := by decide +kernel
theorem dX12_spreadFrom_48 : decode cX12_spreadFrom 48 = .ok (.aload_n 0, 1) := bdX12_spreadFrom_48.1
theorem dX12_spreadFrom_49 : decode cX12_spreadFrom 49 = .ok (.getfield 101, 3) := bdX12_spreadFrom_48.2.1
theorem dX12_spreadFrom_52 : decode cX12_spreadFrom 52 = .ok (.iconst 2, 1) := bdX12_spreadFrom_48.2.2.1
theorem dX12_spreadFrom_53 : decode cX12_spreadFrom 53 = .ok (.iaload, 1) := bdX12_spreadFrom_48.2.2.2.1
theorem dX12_spreadFrom_54 : decode cX12_spreadFrom 54 = .ok (.invokestatic 177, 3) := bdX12_spreadFrom_48.2.2.2.2.1
theorem dX12_spreadFrom_57 : decode cX12_spreadFrom 57 = .ok (.invokestatic 177, 3) := bdX12_spreadFrom_48.2.2.2.2.2.1
theorem dX12_spreadFrom_60 : decode cX12_spreadFrom 60 = .ok (.isub, 1) := bdX12_spreadFrom_48.2.2.2.2.2.2.1
theorem dX12_spreadFrom_61 : decode cX12_spreadFrom 61 = .ok (.ireturn, 1) := bdX12_spreadFrom_48.2.2.2.2.2.2.2.1
theorem dX12_spreadFrom_62 : decode cX12_spreadFrom 62 = .ok (.ldc_w 453, 3) := bdX12_spreadFrom_48.2.2.2.2.2.2.2.2.1
theorem dX12_spreadFrom_65 : decode cX12_spreadFrom 65 = .ok (.istore_n 2, 1) := bdX12_spreadFrom_48.2.2.2.2.2.2.2.2.2
theorem bdX12_spreadFrom_66 : (decode cX12_spreadFrom 66 = .ok (.iconst 0, 1)) ∧ (decode cX12_spreadFrom 67 = .ok (.istore_n 3, 1)) ∧ (decode cX12_spreadFrom 68 = .ok (.iload_n 3, 1)) ∧ (decode cX12_spreadFrom 69 = .ok (.iconst 3, 1)) ∧ (decode cX12_spreadFrom 70 = .ok (.if_icmp .ge 49, 3)) ∧ (decode cX12_spreadFrom 73 = .ok (.aload_n 0, 1)) ∧ (decode cX12_spreadFrom 74 = .ok (.getfield 101, 3)) ∧ (decode cX12_spreadFrom 77 = .ok (.iload_n 3, 1)) ∧ (decode cX12_spreadFrom 78 = .ok (.dup2, 1)) ∧ (decode cX12_spreadFrom 79 = .ok (.iaload, 1)) := by decide +kernel
theorem dX12_spreadFrom_66 : decode cX12_spreadFrom 66 = .ok (.iconst 0, 1) := bdX12_spreadFrom_66.1
theorem dX12_spreadFrom_67 : decode cX12_spreadFrom 67 = .ok (.istore_n 3, 1) := bdX12_spreadFrom_66.2.1
theorem dX12_spreadFrom_68 : decode cX12_spreadFrom 68 = .ok (.iload_n 3, 1) := bdX12_spreadFrom_66.2.2.1
theorem dX12_spreadFrom_69 : decode cX12_spreadFrom 69 = .ok (.iconst 3, 1) := bdX12_spreadFrom_66.2.2.2.1
theorem dX12_spreadFrom_70 : decode cX12_spreadFrom 70 = .ok (.if_icmp .ge 49, 3) := bdX12_spreadFrom_66.2.2.2.2.1
theorem dX12_spreadFrom_73 : decode cX12_spreadFrom 73 = .ok (.aload_n 0, 1) := bdX12_spreadFrom_66.2.2.2.2.2.1
theorem dX12_spreadFrom_74 : decode cX12_spreadFrom 74 = .ok (.getfield 101, 3) := bdX12_spreadFrom_66.2.2.2.2.2.2.1
theorem dX12_spreadFrom_77 : decode cX12_spreadFrom 77 = .ok (.iload_n 3, 1) := bdX12_spreadFrom_66.2.2.2.2.2.2.2.1
theorem dX12_spreadFrom_78 : decode cX12_spreadFrom 78 = .ok (.dup2, 1) := bdX12_spreadFrom_66.2.2.2.2.2.2.2.2.1
theorem dX12_spreadFrom_79 : decode cX12_spreadFrom 79 = .ok (.iaload, 1) := bdX12_spreadFrom_66.2.2.2.2.2.2.2.2.2
theorem bdX12_spreadFrom_80 : (decode cX12_spreadFrom 80 = .ok (.aload_n 0, 1)) ∧ (decode cX12_spreadFrom 81 = .ok (.iload_n 1, 1)) ∧ (decode cX12_spreadFrom 82 = .ok (.invokevirtual 339, 3)) ∧ (decode cX12_spreadFrom 85 = .ok (.iadd, 1)) ∧ (decode cX12_spreadFrom 86 = .ok (.iastore, 1)) ∧ (decode cX12_spreadFrom 87 = .ok (.iload_n 2, 1)) ∧ (decode cX12_spreadFrom 88 = .ok (.aload_n 0, 1)) ∧ (decode cX12_spreadFrom 89 = .ok (.iload_n 1, 1)) ∧ (decode cX12_spreadFrom 90 = .ok (.iconst 1, 1)) ∧ (decode cX12_spreadFrom 91 = .ok (.iadd, 1)) := by decide +kernel
theorem dX12_spreadFrom_80 : decode cX12_spreadFrom 80 = .ok (.aload_n 0, 1) := bdX12_spreadFrom_80.1
theorem dX12_spreadFrom_81 : decode cX12_spreadFrom 81 = .ok (.iload_n 1, 1) := bdX12_spreadFrom_80.2.1
theorem dX12_spreadFrom_82 : decode cX12_spreadFrom 82 = .ok (.invokevirtual 339, 3) := bdX12_spreadFrom_80.2.2.1
theorem dX12_spreadFrom_85 : decode cX12_spreadFrom 85 = .ok (.iadd, 1) := bdX12_spreadFrom_80.2.2.2.1
theorem dX12_spreadFrom_86 : decode cX12_spreadFrom 86 = .ok (.iastore, 1) := bdX12_spreadFrom_80.2.2.2.2.1
theorem dX12_spreadFrom_87 : decode cX12_spreadFrom 87 = .ok (.iload_n 2, 1) := bdX12_spreadFrom_80.2.2.2.2.2.1
theorem dX12_spreadFrom_88 : decode cX12_spreadFrom 88 = .ok (.aload_n 0, 1) := bdX12_spreadFrom_80.2.2.2.2.2.2.1
theorem dX12_spreadFrom_89 : decode cX12_spreadFrom 89 = .ok (.iload_n 1, 1) := bdX12_spreadFrom_80.2.2.2.2.2.2.2.1
theorem dX12_spreadFrom_90 : decode cX12_spreadFrom 90 = .ok (.iconst 1, 1) := bdX12_spreadFrom_80.2.2.2.2.2.2.2.2.1
theorem dX12_spreadFrom_91 : decode cX12_spreadFrom 91 = .ok (.iadd, 1) := bdX12_spreadFrom_80.2.2.2.2.2.2.2.2.2
theorem bdX12_spreadFrom_92 : (decode cX12_spreadFrom 92 = .ok (.invokevirtual 454, 3)) ∧ (decode cX12_spreadFrom 95 = .ok (.invokestatic 177, 3)) ∧ (decode cX12_spreadFrom 98 = .ok (.istore_n 2, 1)) ∧ (decode cX12_spreadFrom 99 = .ok (.aload_n 0, 1)) ∧ (decode cX12_spreadFrom 100 = .ok (.getfield 101, 3)) ∧ (decode cX12_spreadFrom 103 = .ok (.iload_n 3, 1)) ∧ (decode cX12_spreadFrom 104 = .ok (.dup2, 1)) ∧ (decode cX12_spreadFrom 105 = .ok (.iaload, 1)) ∧ (decode cX12_spreadFrom 106 = .ok (.aload_n 0, 1)) ∧ (decode cX12_spreadFrom 107 = .ok (.iload_n 1, 1)) := by decide +kernel
theorem dX12_spreadFrom_92 : decode cX12_spreadFrom 92 = .ok (.invokevirtual 454, 3) := bdX12_spreadFrom_92.1
theorem dX12_spreadFrom_95 : decode cX12_spreadFrom 95 = .ok (.invokestatic 177, 3) := bdX12_spreadFrom_92.2.1
theorem dX12_spreadFrom_98 : decode cX12_spreadFrom 98 = .ok (.istore_n 2, 1) := bdX12_spreadFrom_92.2.2.1
theorem dX12_spreadFrom_99 : decode cX12_spreadFrom 99 = .ok (.aload_n 0, 1) := bdX12_spreadFrom_92.2.2.2.1
theorem dX12_spreadFrom_100 : decode cX12_spreadFrom 100 = .ok (.getfield 101, 3) := bdX12_spreadFrom_92.2.2.2.2.1
theorem dX12_spreadFrom_103 : decode cX12_spreadFrom 103 = .ok (.iload_n 3, 1) := bdX12_spreadFrom_92.2.2.2.2.2.1
theorem dX12_spreadFrom_104 : decode cX12_spreadFrom 104 = .ok (.dup2, 1) := bdX12_spreadFrom_92.2.2.2.2.2.2.1
theorem dX12_spreadFrom_105 : decode cX12_spreadFrom 105 = .ok (.iaload, 1) := bdX12_spreadFrom_92.2.2.2.2.2.2.2.1
theorem dX12_spreadFrom_106 : decode cX12_spreadFrom 106 = .ok (.aload_n 0, 1) := bdX12_spreadFrom_92.2.2.2.2.2.2.2.2.1
theorem dX12_spreadFrom_107 : decode cX12_spreadFrom 107 = .ok (.iload_n 1, 1) := bdX12_spreadFrom_92.2.2.2.2.2.2.2.2.2
theorem bdX12_spreadFrom_108 : (decode cX12_spreadFrom 108 = .ok (.invokevirtual 339, 3)) ∧ (decode cX12_spreadFrom 111 = .ok (.isub, 1)) ∧ (decode cX12_spreadFrom 112 = .ok (.iastore, 1)) ∧ (decode cX12_spreadFrom 113 = .ok (.iinc 3 1, 3)) ∧ (decode cX12_spreadFrom 116 = .ok (.goto (-48), 3)) ∧ (decode cX12_spreadFrom 119 = .ok (.iload_n 2, 1)) ∧ (decode cX12_spreadFrom 120 = .ok (.ireturn, 1)) := by decide +kernel
theorem dX12_spreadFrom_108 : decode cX12_spreadFrom 108 = .ok (.invokevirtual 339, 3) := bdX12_spreadFrom_108.1
theorem dX12_spreadFrom_111 : decode cX12_spreadFrom 111 = .ok (.isub, 1) := bdX12_spreadFrom_108.2.1
theorem dX12_spreadFrom_112 : decode cX12_spreadFrom 112 = .ok (.iastore, 1) := bdX12_spreadFrom_108.2.2.1
theorem dX12_spreadFrom_113 : decode cX12_spreadFrom 113 = .ok (.iinc 3 1, 3) := bdX12_spreadFrom_108.2.2.2.1
theorem dX12_spreadFrom_116 : decode cX12_spreadFrom 116 = .ok (.goto (-48), 3) := bdX12_spreadFrom_108.2.2.2.2.1
theorem dX12_spreadFrom_119 : decode cX12_spreadFrom 119 = .ok (.iload_n 2, 1) := bdX12_spreadFrom_108.2.2.2.2.2.1
theorem dX12_spreadFrom_120 : decode cX12_spreadFrom 120 = .ok (.ireturn, 1) := bdX12_spreadFrom_108.2.2.2.2.2.2
theorem bdX12_tribes_0 : (decode cX12_tribes 0 = .ok (.aload_n 0, 1)) ∧ (decode cX12_tribes 1 = .ok (.iconst 0, 1)) ∧ (decode cX12_tribes 2 = .ok (.putfield 140, 3)) ∧ (decode cX12_tribes 5 = .ok (.iconst 0, 1)) ∧ (decode cX12_tribes 6 = .ok (.istore_n 1, 1)) ∧ (decode cX12_tribes 7 = .ok (.iload_n 1, 1)) ∧ (decode cX12_tribes 8 = .ok (.iconst 3, 1)) ∧ (decode cX12_tribes 9 = .ok (.if_icmp .ge 16, 3)) ∧ (decode cX12_tribes 12 = .ok (.aload_n 0, 1)) ∧ (decode cX12_tribes 13 = .ok (.getfield 101, 3)) := by decide +kernel
theorem dX12_tribes_0 : decode cX12_tribes 0 = .ok (.aload_n 0, 1) := bdX12_tribes_0.1
theorem dX12_tribes_1 : decode cX12_tribes 1 = .ok (.iconst 0, 1) := bdX12_tribes_0.2.1
theorem dX12_tribes_2 : decode cX12_tribes 2 = .ok (.putfield 140, 3) := bdX12_tribes_0.2.2.1
theorem dX12_tribes_5 : decode cX12_tribes 5 = .ok (.iconst 0, 1) := bdX12_tribes_0.2.2.2.1
theorem dX12_tribes_6 : decode cX12_tribes 6 = .ok (.istore_n 1, 1) := bdX12_tribes_0.2.2.2.2.1
theorem dX12_tribes_7 : decode cX12_tribes 7 = .ok (.iload_n 1, 1) := bdX12_tribes_0.2.2.2.2.2.1
theorem dX12_tribes_8 : decode cX12_tribes 8 = .ok (.iconst 3, 1) := bdX12_tribes_0.2.2.2.2.2.2.1
theorem dX12_tribes_9 : decode cX12_tribes 9 = .ok (.if_icmp .ge 16, 3) := bdX12_tribes_0.2.2.2.2.2.2.2.1
theorem dX12_tribes_12 : decode cX12_tribes 12 = .ok (.aload_n 0, 1) := bdX12_tribes_0.2.2.2.2.2.2.2.2.1
theorem dX12_tribes_13 : decode cX12_tribes 13 = .ok (.getfield 101, 3) := bdX12_tribes_0.2.2.2.2.2.2.2.2.2
theorem bdX12_tribes_16 : (decode cX12_tribes 16 = .ok (.iload_n 1, 1)) ∧ (decode cX12_tribes 17 = .ok (.iconst 0, 1)) ∧ (decode cX12_tribes 18 = .ok (.iastore, 1)) ∧ (decode cX12_tribes 19 = .ok (.iinc 1 1, 3)) ∧ (decode cX12_tribes 22 = .ok (.goto (-15), 3)) ∧ (decode cX12_tribes 25 = .ok (.aload_n 0, 1)) ∧ (decode cX12_tribes 26 = .ok (.iconst 0, 1)) ∧ (decode cX12_tribes 27 = .ok (.invokevirtual 454, 3)) ∧ (decode cX12_tribes 30 = .ok (.ireturn, 1)) := by decide +kernel
theorem dX12_tribes_16 : decode cX12_tribes 16 = .ok (.iload_n 1, 1) := bdX12_tribes_16.1
theorem dX12_tribes_17 : decode cX12_tribes 17 = .ok (.iconst 0, 1) := bdX12_tribes_16.2.1
theorem dX12_tribes_18 : decode cX12_tribes 18 = .ok (.iastore, 1) := bdX12_tribes_16.2.2.1
theorem dX12_tribes_19 : decode cX12_tribes 19 = .ok (.iinc 1 1, 3) := bdX12_tribes_16.2.2.2.1
theorem dX12_tribes_22 : decode cX12_tribes 22 = .ok (.goto (-15), 3) := bdX12_tribes_16.2.2.2.2.1
theorem dX12_tribes_25 : decode cX12_tribes 25 = .ok (.aload_n 0, 1) := bdX12_tribes_16.2.2.2.2.2.1
theorem dX12_tribes_26 : decode cX12_tribes 26 = .ok (.iconst 0, 1) := bdX12_tribes_16.2.2.2.2.2.2.1
theorem dX12_tribes_27 : decode cX12_tribes 27 = .ok (.invokevirtual 454, 3) := bdX12_tribes_16.2.2.2.2.2.2.2.1
theorem dX12_tribes_30 : decode cX12_tribes 30 = .ok (.ireturn, 1) := bdX12_tribes_16.2.2.2.2.2.2.2.2
theorem bdX12_walksTo_0 : (decode cX12_walksTo 0 = .ok (.iconst 0, 1)) ∧ (decode cX12_walksTo 1 = .ok (.istore_n 3, 1)) ∧ (decode cX12_walksTo 2 = .ok (.iconst 0, 1)) ∧ (decode cX12_walksTo 3 = .ok (.istore 4, 2)) ∧ (decode cX12_walksTo 5 = .ok (.iload 4, 2)) ∧ (decode cX12_walksTo 7 = .ok (.aload_n 0, 1)) ∧ (decode cX12_walksTo 8 = .ok (.getfield 35, 3)) ∧ (decode cX12_walksTo 11 = .ok (.iconst 0, 1)) ∧ (decode cX12_walksTo 12 = .ok (.iaload, 1)) ∧ (decode cX12_walksTo 13 = .ok (.if_icmp .ge 62, 3)) := by decide +kernel
theorem dX12_walksTo_0 : decode cX12_walksTo 0 = .ok (.iconst 0, 1) := bdX12_walksTo_0.1
theorem dX12_walksTo_1 : decode cX12_walksTo 1 = .ok (.istore_n 3, 1) := bdX12_walksTo_0.2.1
theorem dX12_walksTo_2 : decode cX12_walksTo 2 = .ok (.iconst 0, 1) := bdX12_walksTo_0.2.2.1
theorem dX12_walksTo_3 : decode cX12_walksTo 3 = .ok (.istore 4, 2) := bdX12_walksTo_0.2.2.2.1
theorem dX12_walksTo_5 : decode cX12_walksTo 5 = .ok (.iload 4, 2) := bdX12_walksTo_0.2.2.2.2.1
theorem dX12_walksTo_7 : decode cX12_walksTo 7 = .ok (.aload_n 0, 1) := bdX12_walksTo_0.2.2.2.2.2.1
theorem dX12_walksTo_8 : decode cX12_walksTo 8 = .ok (.getfield 35, 3) := bdX12_walksTo_0.2.2.2.2.2.2.1
theorem dX12_walksTo_11 : decode cX12_walksTo 11 = .ok (.iconst 0, 1) := bdX12_walksTo_0.2.2.2.2.2.2.2.1
theorem dX12_walksTo_12 : decode cX12_walksTo 12 = .ok (.iaload, 1) := bdX12_walksTo_0.2.2.2.2.2.2.2.2.1
theorem dX12_walksTo_13 : decode cX12_walksTo 13 = .ok (.if_icmp .ge 62, 3) := bdX12_walksTo_0.2.2.2.2.2.2.2.2.2
theorem bdX12_walksTo_16 : (decode cX12_walksTo 16 = .ok (.iload_n 3, 1)) ∧ (decode cX12_walksTo 17 = .ok (.aload_n 0, 1)) ∧ (decode cX12_walksTo 18 = .ok (.getfield 76, 3)) ∧ (decode cX12_walksTo 21 = .ok (.iload 4, 2)) ∧ (decode cX12_walksTo 23 = .ok (.iaload, 1)) ∧ (decode cX12_walksTo 24 = .ok (.iconst (-1), 1)) ∧ (decode cX12_walksTo 25 = .ok (.if_icmp .ne 7, 3)) ∧ (decode cX12_walksTo 28 = .ok (.iconst 0, 1)) ∧ (decode cX12_walksTo 29 = .ok (.goto 38, 3)) ∧ (decode cX12_walksTo 32 = .ok (.aload_n 0, 1)) := by decide +kernel
theorem dX12_walksTo_16 : decode cX12_walksTo 16 = .ok (.iload_n 3, 1) := bdX12_walksTo_16.1
theorem dX12_walksTo_17 : decode cX12_walksTo 17 = .ok (.aload_n 0, 1) := bdX12_walksTo_16.2.1
theorem dX12_walksTo_18 : decode cX12_walksTo 18 = .ok (.getfield 76, 3) := bdX12_walksTo_16.2.2.1
theorem dX12_walksTo_21 : decode cX12_walksTo 21 = .ok (.iload 4, 2) := bdX12_walksTo_16.2.2.2.1
theorem dX12_walksTo_23 : decode cX12_walksTo 23 = .ok (.iaload, 1) := bdX12_walksTo_16.2.2.2.2.1
theorem dX12_walksTo_24 : decode cX12_walksTo 24 = .ok (.iconst (-1), 1) := bdX12_walksTo_16.2.2.2.2.2.1
theorem dX12_walksTo_25 : decode cX12_walksTo 25 = .ok (.if_icmp .ne 7, 3) := bdX12_walksTo_16.2.2.2.2.2.2.1
theorem dX12_walksTo_28 : decode cX12_walksTo 28 = .ok (.iconst 0, 1) := bdX12_walksTo_16.2.2.2.2.2.2.2.1
theorem dX12_walksTo_29 : decode cX12_walksTo 29 = .ok (.goto 38, 3) := bdX12_walksTo_16.2.2.2.2.2.2.2.2.1
theorem dX12_walksTo_32 : decode cX12_walksTo 32 = .ok (.aload_n 0, 1) := bdX12_walksTo_16.2.2.2.2.2.2.2.2.2
theorem bdX12_walksTo_33 : (decode cX12_walksTo 33 = .ok (.getfield 46, 3)) ∧ (decode cX12_walksTo 36 = .ok (.aload_n 0, 1)) ∧ (decode cX12_walksTo 37 = .ok (.getfield 76, 3)) ∧ (decode cX12_walksTo 40 = .ok (.iload 4, 2)) ∧ (decode cX12_walksTo 42 = .ok (.iaload, 1)) ∧ (decode cX12_walksTo 43 = .ok (.iaload, 1)) ∧ (decode cX12_walksTo 44 = .ok (.iload_n 1, 1)) ∧ (decode cX12_walksTo 45 = .ok (.isub, 1)) ∧ (decode cX12_walksTo 46 = .ok (.invokestatic 336, 3)) ∧ (decode cX12_walksTo 49 = .ok (.aload_n 0, 1)) := by decide +kernel
theorem dX12_walksTo_33 : decode cX12_walksTo 33 = .ok (.getfield 46, 3) := bdX12_walksTo_33.1
theorem dX12_walksTo_36 : decode cX12_walksTo 36 = .ok (.aload_n 0, 1) := bdX12_walksTo_33.2.1
theorem dX12_walksTo_37 : decode cX12_walksTo 37 = .ok (.getfield 76, 3) := bdX12_walksTo_33.2.2.1
theorem dX12_walksTo_40 : decode cX12_walksTo 40 = .ok (.iload 4, 2) := bdX12_walksTo_33.2.2.2.1
theorem dX12_walksTo_42 : decode cX12_walksTo 42 = .ok (.iaload, 1) := bdX12_walksTo_33.2.2.2.2.1
theorem dX12_walksTo_43 : decode cX12_walksTo 43 = .ok (.iaload, 1) := bdX12_walksTo_33.2.2.2.2.2.1
theorem dX12_walksTo_44 : decode cX12_walksTo 44 = .ok (.iload_n 1, 1) := bdX12_walksTo_33.2.2.2.2.2.2.1
theorem dX12_walksTo_45 : decode cX12_walksTo 45 = .ok (.isub, 1) := bdX12_walksTo_33.2.2.2.2.2.2.2.1
theorem dX12_walksTo_46 : decode cX12_walksTo 46 = .ok (.invokestatic 336, 3) := bdX12_walksTo_33.2.2.2.2.2.2.2.2.1
theorem dX12_walksTo_49 : decode cX12_walksTo 49 = .ok (.aload_n 0, 1) := bdX12_walksTo_33.2.2.2.2.2.2.2.2.2
theorem bdX12_walksTo_50 : (decode cX12_walksTo 50 = .ok (.getfield 49, 3)) ∧ (decode cX12_walksTo 53 = .ok (.aload_n 0, 1)) ∧ (decode cX12_walksTo 54 = .ok (.getfield 76, 3)) ∧ (decode cX12_walksTo 57 = .ok (.iload 4, 2)) ∧ (decode cX12_walksTo 59 = .ok (.iaload, 1)) ∧ (decode cX12_walksTo 60 = .ok (.iaload, 1)) ∧ (decode cX12_walksTo 61 = .ok (.iload_n 2, 1)) ∧ (decode cX12_walksTo 62 = .ok (.isub, 1)) ∧ (decode cX12_walksTo 63 = .ok (.invokestatic 336, 3)) ∧ (decode cX12_walksTo 66 = .ok (.iadd, 1)) := by decide +kernel
theorem dX12_walksTo_50 : decode cX12_walksTo 50 = .ok (.getfield 49, 3) := bdX12_walksTo_50.1
theorem dX12_walksTo_53 : decode cX12_walksTo 53 = .ok (.aload_n 0, 1) := bdX12_walksTo_50.2.1
theorem dX12_walksTo_54 : decode cX12_walksTo 54 = .ok (.getfield 76, 3) := bdX12_walksTo_50.2.2.1
theorem dX12_walksTo_57 : decode cX12_walksTo 57 = .ok (.iload 4, 2) := bdX12_walksTo_50.2.2.2.1
theorem dX12_walksTo_59 : decode cX12_walksTo 59 = .ok (.iaload, 1) := bdX12_walksTo_50.2.2.2.2.1
theorem dX12_walksTo_60 : decode cX12_walksTo 60 = .ok (.iaload, 1) := bdX12_walksTo_50.2.2.2.2.2.1
theorem dX12_walksTo_61 : decode cX12_walksTo 61 = .ok (.iload_n 2, 1) := bdX12_walksTo_50.2.2.2.2.2.2.1
theorem dX12_walksTo_62 : decode cX12_walksTo 62 = .ok (.isub, 1) := bdX12_walksTo_50.2.2.2.2.2.2.2.1
theorem dX12_walksTo_63 : decode cX12_walksTo 63 = .ok (.invokestatic 336, 3) := bdX12_walksTo_50.2.2.2.2.2.2.2.2.1
theorem dX12_walksTo_66 : decode cX12_walksTo 66 = .ok (.iadd, 1) := bdX12_walksTo_50.2.2.2.2.2.2.2.2.2
theorem bdX12_walksTo_67 : (decode cX12_walksTo 67 = .ok (.iadd, 1)) ∧ (decode cX12_walksTo 68 = .ok (.istore_n 3, 1)) ∧ (decode cX12_walksTo 69 = .ok (.iinc 4 1, 3)) ∧ (decode cX12_walksTo 72 = .ok (.goto (-67), 3)) ∧ (decode cX12_walksTo 75 = .ok (.iload_n 3, 1)) ∧ (decode cX12_walksTo 76 = .ok (.ireturn, 1)) := by decide +kernel
theorem dX12_walksTo_67 : decode cX12_walksTo 67 = .ok (.iadd, 1) := bdX12_walksTo_67.1
theorem dX12_walksTo_68 : decode cX12_walksTo 68 = .ok (.istore_n 3, 1) := bdX12_walksTo_67.2.1
theorem dX12_walksTo_69 : decode cX12_walksTo 69 = .ok (.iinc 4 1, 3) := bdX12_walksTo_67.2.2.1
theorem dX12_walksTo_72 : decode cX12_walksTo 72 = .ok (.goto (-67), 3) := bdX12_walksTo_67.2.2.2.1
theorem dX12_walksTo_75 : decode cX12_walksTo 75 = .ok (.iload_n 3, 1) := bdX12_walksTo_67.2.2.2.2.1
theorem dX12_walksTo_76 : decode cX12_walksTo 76 = .ok (.ireturn, 1) := bdX12_walksTo_67.2.2.2.2.2
theorem bdX12_middle_0 : (decode cX12_middle 0 = .ok (.aload_n 0, 1)) ∧ (decode cX12_middle 1 = .ok (.iconst 0, 1)) ∧ (decode cX12_middle 2 = .ok (.putfield 140, 3)) ∧ (decode cX12_middle 5 = .ok (.iconst 0, 1)) ∧ (decode cX12_middle 6 = .ok (.istore_n 1, 1)) ∧ (decode cX12_middle 7 = .ok (.iconst 0, 1)) ∧ (decode cX12_middle 8 = .ok (.istore_n 2, 1)) ∧ (decode cX12_middle 9 = .ok (.iload_n 2, 1)) ∧ (decode cX12_middle 10 = .ok (.bipush 20, 2)) ∧ (decode cX12_middle 12 = .ok (.if_icmp .gt 51, 3)) := by decide +kernel
theorem dX12_middle_0 : decode cX12_middle 0 = .ok (.aload_n 0, 1) := bdX12_middle_0.1
theorem dX12_middle_1 : decode cX12_middle 1 = .ok (.iconst 0, 1) := bdX12_middle_0.2.1
theorem dX12_middle_2 : decode cX12_middle 2 = .ok (.putfield 140, 3) := bdX12_middle_0.2.2.1
theorem dX12_middle_5 : decode cX12_middle 5 = .ok (.iconst 0, 1) := bdX12_middle_0.2.2.2.1
theorem dX12_middle_6 : decode cX12_middle 6 = .ok (.istore_n 1, 1) := bdX12_middle_0.2.2.2.2.1
theorem dX12_middle_7 : decode cX12_middle 7 = .ok (.iconst 0, 1) := bdX12_middle_0.2.2.2.2.2.1
theorem dX12_middle_8 : decode cX12_middle 8 = .ok (.istore_n 2, 1) := bdX12_middle_0.2.2.2.2.2.2.1
theorem dX12_middle_9 : decode cX12_middle 9 = .ok (.iload_n 2, 1) := bdX12_middle_0.2.2.2.2.2.2.2.1
theorem dX12_middle_10 : decode cX12_middle 10 = .ok (.bipush 20, 2) := bdX12_middle_0.2.2.2.2.2.2.2.2.1
theorem dX12_middle_12 : decode cX12_middle 12 = .ok (.if_icmp .gt 51, 3) := bdX12_middle_0.2.2.2.2.2.2.2.2.2
theorem bdX12_middle_15 : (decode cX12_middle 15 = .ok (.iconst 0, 1)) ∧ (decode cX12_middle 16 = .ok (.istore_n 3, 1)) ∧ (decode cX12_middle 17 = .ok (.iload_n 3, 1)) ∧ (decode cX12_middle 18 = .ok (.bipush 20, 2)) ∧ (decode cX12_middle 20 = .ok (.if_icmp .gt 37, 3)) ∧ (decode cX12_middle 23 = .ok (.aload_n 0, 1)) ∧ (decode cX12_middle 24 = .ok (.iload_n 3, 1)) ∧ (decode cX12_middle 25 = .ok (.iload_n 2, 1)) ∧ (decode cX12_middle 26 = .ok (.invokevirtual 457, 3)) ∧ (decode cX12_middle 29 = .ok (.aload_n 0, 1)) := by decide +kernel
theorem dX12_middle_15 : decode cX12_middle 15 = .ok (.iconst 0, 1) := bdX12_middle_15.1
theorem dX12_middle_16 : decode cX12_middle 16 = .ok (.istore_n 3, 1) := bdX12_middle_15.2.1
theorem dX12_middle_17 : decode cX12_middle 17 = .ok (.iload_n 3, 1) := bdX12_middle_15.2.2.1
theorem dX12_middle_18 : decode cX12_middle 18 = .ok (.bipush 20, 2) := bdX12_middle_15.2.2.2.1
theorem dX12_middle_20 : decode cX12_middle 20 = .ok (.if_icmp .gt 37, 3) := bdX12_middle_15.2.2.2.2.1
theorem dX12_middle_23 : decode cX12_middle 23 = .ok (.aload_n 0, 1) := bdX12_middle_15.2.2.2.2.2.1
theorem dX12_middle_24 : decode cX12_middle 24 = .ok (.iload_n 3, 1) := bdX12_middle_15.2.2.2.2.2.2.1
theorem dX12_middle_25 : decode cX12_middle 25 = .ok (.iload_n 2, 1) := bdX12_middle_15.2.2.2.2.2.2.2.1
theorem dX12_middle_26 : decode cX12_middle 26 = .ok (.invokevirtual 457, 3) := bdX12_middle_15.2.2.2.2.2.2.2.2.1
theorem dX12_middle_29 : decode cX12_middle 29 = .ok (.aload_n 0, 1) := bdX12_middle_15.2.2.2.2.2.2.2.2.2
theorem bdX12_middle_30 : (decode cX12_middle 30 = .ok (.iload_n 1, 1)) ∧ (decode cX12_middle 31 = .ok (.bipush 100, 2)) ∧ (decode cX12_middle 33 = .ok (.irem, 1)) ∧ (decode cX12_middle 34 = .ok (.iload_n 1, 1)) ∧ (decode cX12_middle 35 = .ok (.bipush 100, 2)) ∧ (decode cX12_middle 37 = .ok (.idiv, 1)) ∧ (decode cX12_middle 38 = .ok (.invokevirtual 457, 3)) ∧ (decode cX12_middle 41 = .ok (.if_icmp .ge 10, 3)) ∧ (decode cX12_middle 44 = .ok (.bipush 100, 2)) ∧ (decode cX12_middle 46 = .ok (.iload_n 2, 1)) := by decide +kernel
theorem dX12_middle_30 : decode cX12_middle 30 = .ok (.iload_n 1, 1) := bdX12_middle_30.1
theorem dX12_middle_31 : decode cX12_middle 31 = .ok (.bipush 100, 2) := bdX12_middle_30.2.1
theorem dX12_middle_33 : decode cX12_middle 33 = .ok (.irem, 1) := bdX12_middle_30.2.2.1
theorem dX12_middle_34 : decode cX12_middle 34 = .ok (.iload_n 1, 1) := bdX12_middle_30.2.2.2.1
theorem dX12_middle_35 : decode cX12_middle 35 = .ok (.bipush 100, 2) := bdX12_middle_30.2.2.2.2.1
theorem dX12_middle_37 : decode cX12_middle 37 = .ok (.idiv, 1) := bdX12_middle_30.2.2.2.2.2.1
theorem dX12_middle_38 : decode cX12_middle 38 = .ok (.invokevirtual 457, 3) := bdX12_middle_30.2.2.2.2.2.2.1
theorem dX12_middle_41 : decode cX12_middle 41 = .ok (.if_icmp .ge 10, 3) := bdX12_middle_30.2.2.2.2.2.2.2.1
theorem dX12_middle_44 : decode cX12_middle 44 = .ok (.bipush 100, 2) := bdX12_middle_30.2.2.2.2.2.2.2.2.1
theorem dX12_middle_46 : decode cX12_middle 46 = .ok (.iload_n 2, 1) := bdX12_middle_30.2.2.2.2.2.2.2.2.2
theorem bdX12_middle_47 : (decode cX12_middle 47 = .ok (.imul, 1)) ∧ (decode cX12_middle 48 = .ok (.iload_n 3, 1)) ∧ (decode cX12_middle 49 = .ok (.iadd, 1)) ∧ (decode cX12_middle 50 = .ok (.istore_n 1, 1)) ∧ (decode cX12_middle 51 = .ok (.iinc 3 1, 3)) ∧ (decode cX12_middle 54 = .ok (.goto (-37), 3)) ∧ (decode cX12_middle 57 = .ok (.iinc 2 1, 3)) ∧ (decode cX12_middle 60 = .ok (.goto (-51), 3)) ∧ (decode cX12_middle 63 = .ok (.iload_n 1, 1)) ∧ (decode cX12_middle 64 = .ok (.ireturn, 1)) := by decide +kernel
theorem dX12_middle_47 : decode cX12_middle 47 = .ok (.imul, 1) := bdX12_middle_47.1
theorem dX12_middle_48 : decode cX12_middle 48 = .ok (.iload_n 3, 1) := bdX12_middle_47.2.1
theorem dX12_middle_49 : decode cX12_middle 49 = .ok (.iadd, 1) := bdX12_middle_47.2.2.1
theorem dX12_middle_50 : decode cX12_middle 50 = .ok (.istore_n 1, 1) := bdX12_middle_47.2.2.2.1
theorem dX12_middle_51 : decode cX12_middle 51 = .ok (.iinc 3 1, 3) := bdX12_middle_47.2.2.2.2.1
theorem dX12_middle_54 : decode cX12_middle 54 = .ok (.goto (-37), 3) := bdX12_middle_47.2.2.2.2.2.1
theorem dX12_middle_57 : decode cX12_middle 57 = .ok (.iinc 2 1, 3) := bdX12_middle_47.2.2.2.2.2.2.1
theorem dX12_middle_60 : decode cX12_middle 60 = .ok (.goto (-51), 3) := bdX12_middle_47.2.2.2.2.2.2.2.1
theorem dX12_middle_63 : decode cX12_middle 63 = .ok (.iload_n 1, 1) := bdX12_middle_47.2.2.2.2.2.2.2.2.1
theorem dX12_middle_64 : decode cX12_middle 64 = .ok (.ireturn, 1) := bdX12_middle_47.2.2.2.2.2.2.2.2.2
theorem bdX12_then_0 : (decode cX12_then 0 = .ok (.aload_n 0, 1)) ∧ (decode cX12_then 1 = .ok (.iconst 0, 1)) ∧ (decode cX12_then 2 = .ok (.putfield 140, 3)) ∧ (decode cX12_then 5 = .ok (.aload_n 0, 1)) ∧ (decode cX12_then 6 = .ok (.iload_n 1, 1)) ∧ (decode cX12_then 7 = .ok (.invokevirtual 371, 3)) ∧ (decode cX12_then 10 = .ok (.ifCond .ne 9, 3)) ∧ (decode cX12_then 13 = .ok (.aload_n 0, 1)) ∧ (decode cX12_then 14 = .ok (.iconst 1, 1)) ∧ (decode cX12_then 15 = .ok (.invokevirtual 290, 3)) := by decide +kernel
theorem dX12_then_0 : decode cX12_then 0 = .ok (.aload_n 0, 1) := bdX12_then_0.1
theorem dX12_then_1 : decode cX12_then 1 = .ok (.iconst 0, 1) := bdX12_then_0.2.1
theorem dX12_then_2 : decode cX12_then 2 = .ok (.putfield 140, 3) := bdX12_then_0.2.2.1
theorem dX12_then_5 : decode cX12_then 5 = .ok (.aload_n 0, 1) := bdX12_then_0.2.2.2.1
theorem dX12_then_6 : decode cX12_then 6 = .ok (.iload_n 1, 1) := bdX12_then_0.2.2.2.2.1
theorem dX12_then_7 : decode cX12_then 7 = .ok (.invokevirtual 371, 3) := bdX12_then_0.2.2.2.2.2.1
theorem dX12_then_10 : decode cX12_then 10 = .ok (.ifCond .ne 9, 3) := bdX12_then_0.2.2.2.2.2.2.1
theorem dX12_then_13 : decode cX12_then 13 = .ok (.aload_n 0, 1) := bdX12_then_0.2.2.2.2.2.2.2.1
theorem dX12_then_14 : decode cX12_then 14 = .ok (.iconst 1, 1) := bdX12_then_0.2.2.2.2.2.2.2.2.1
theorem dX12_then_15 : decode cX12_then 15 = .ok (.invokevirtual 290, 3) := bdX12_then_0.2.2.2.2.2.2.2.2.2
theorem bdX12_then_18 : (decode cX12_then 18 = .ok (.ireturn, 1)) ∧ (decode cX12_then 19 = .ok (.iload_n 2, 1)) ∧ (decode cX12_then 20 = .ok (.i2l, 1)) ∧ (decode cX12_then 21 = .ok (.lconst 0, 1)) ∧ (decode cX12_then 22 = .ok (.ldc2_w 460, 3)) ∧ (decode cX12_then 25 = .ok (.invokestatic 143, 3)) ∧ (decode cX12_then 28 = .ok (.ifCond .ne 9, 3)) ∧ (decode cX12_then 31 = .ok (.aload_n 0, 1)) ∧ (decode cX12_then 32 = .ok (.iconst 2, 1)) ∧ (decode cX12_then 33 = .ok (.invokevirtual 290, 3)) := by decide +kernel
theorem dX12_then_18 : decode cX12_then 18 = .ok (.ireturn, 1) := bdX12_then_18.1
theorem dX12_then_19 : decode cX12_then 19 = .ok (.iload_n 2, 1) := bdX12_then_18.2.1
theorem dX12_then_20 : decode cX12_then 20 = .ok (.i2l, 1) := bdX12_then_18.2.2.1
theorem dX12_then_21 : decode cX12_then 21 = .ok (.lconst 0, 1) := bdX12_then_18.2.2.2.1
theorem dX12_then_22 : decode cX12_then 22 = .ok (.ldc2_w 460, 3) := bdX12_then_18.2.2.2.2.1
theorem dX12_then_25 : decode cX12_then 25 = .ok (.invokestatic 143, 3) := bdX12_then_18.2.2.2.2.2.1
theorem dX12_then_28 : decode cX12_then 28 = .ok (.ifCond .ne 9, 3) := bdX12_then_18.2.2.2.2.2.2.1
theorem dX12_then_31 : decode cX12_then 31 = .ok (.aload_n 0, 1) := bdX12_then_18.2.2.2.2.2.2.2.1
theorem dX12_then_32 : decode cX12_then 32 = .ok (.iconst 2, 1) := bdX12_then_18.2.2.2.2.2.2.2.2.1
theorem dX12_then_33 : decode cX12_then 33 = .ok (.invokevirtual 290, 3) := bdX12_then_18.2.2.2.2.2.2.2.2.2
theorem bdX12_then_36 : (decode cX12_then 36 = .ok (.ireturn, 1)) ∧ (decode cX12_then 37 = .ok (.aload_n 0, 1)) ∧ (decode cX12_then 38 = .ok (.aload_n 0, 1)) ∧ (decode cX12_then 39 = .ok (.getfield 104, 3)) ∧ (decode cX12_then 42 = .ok (.iconst 0, 1)) ∧ (decode cX12_then 43 = .ok (.invokevirtual 387, 3)) ∧ (decode cX12_then 46 = .ok (.aload_n 0, 1)) ∧ (decode cX12_then 47 = .ok (.iload_n 2, 1)) ∧ (decode cX12_then 48 = .ok (.invokevirtual 417, 3)) ∧ (decode cX12_then 51 = .ok (.aload_n 0, 1)) := by decide +kernel
theorem dX12_then_36 : decode cX12_then 36 = .ok (.ireturn, 1) := bdX12_then_36.1
theorem dX12_then_37 : decode cX12_then 37 = .ok (.aload_n 0, 1) := bdX12_then_36.2.1
theorem dX12_then_38 : decode cX12_then 38 = .ok (.aload_n 0, 1) := bdX12_then_36.2.2.1
theorem dX12_then_39 : decode cX12_then 39 = .ok (.getfield 104, 3) := bdX12_then_36.2.2.2.1
theorem dX12_then_42 : decode cX12_then 42 = .ok (.iconst 0, 1) := bdX12_then_36.2.2.2.2.1
theorem dX12_then_43 : decode cX12_then 43 = .ok (.invokevirtual 387, 3) := bdX12_then_36.2.2.2.2.2.1
theorem dX12_then_46 : decode cX12_then 46 = .ok (.aload_n 0, 1) := bdX12_then_36.2.2.2.2.2.2.1
theorem dX12_then_47 : decode cX12_then 47 = .ok (.iload_n 2, 1) := bdX12_then_36.2.2.2.2.2.2.2.1
theorem dX12_then_48 : decode cX12_then 48 = .ok (.invokevirtual 417, 3) := bdX12_then_36.2.2.2.2.2.2.2.2.1
theorem dX12_then_51 : decode cX12_then 51 = .ok (.aload_n 0, 1) := bdX12_then_36.2.2.2.2.2.2.2.2.2
theorem bdX12_then_52 : (decode cX12_then 52 = .ok (.getfield 73, 3)) ∧ (decode cX12_then 55 = .ok (.iload_n 1, 1)) ∧ (decode cX12_then 56 = .ok (.iaload, 1)) ∧ (decode cX12_then 57 = .ok (.istore_n 3, 1)) ∧ (decode cX12_then 58 = .ok (.aload_n 0, 1)) ∧ (decode cX12_then 59 = .ok (.aload_n 0, 1)) ∧ (decode cX12_then 60 = .ok (.getfield 104, 3)) ∧ (decode cX12_then 63 = .ok (.iconst 0, 1)) ∧ (decode cX12_then 64 = .ok (.invokevirtual 420, 3)) ∧ (decode cX12_then 67 = .ok (.iload_n 3, 1)) := by decide +kernel
theorem dX12_then_52 : decode cX12_then 52 = .ok (.getfield 73, 3) := bdX12_then_52.1
theorem dX12_then_55 : decode cX12_then 55 = .ok (.iload_n 1, 1) := bdX12_then_52.2.1
theorem dX12_then_56 : decode cX12_then 56 = .ok (.iaload, 1) := bdX12_then_52.2.2.1
theorem dX12_then_57 : decode cX12_then 57 = .ok (.istore_n 3, 1) := bdX12_then_52.2.2.2.1
theorem dX12_then_58 : decode cX12_then 58 = .ok (.aload_n 0, 1) := bdX12_then_52.2.2.2.2.1
theorem dX12_then_59 : decode cX12_then 59 = .ok (.aload_n 0, 1) := bdX12_then_52.2.2.2.2.2.1
theorem dX12_then_60 : decode cX12_then 60 = .ok (.getfield 104, 3) := bdX12_then_52.2.2.2.2.2.2.1
theorem dX12_then_63 : decode cX12_then 63 = .ok (.iconst 0, 1) := bdX12_then_52.2.2.2.2.2.2.2.1
theorem dX12_then_64 : decode cX12_then 64 = .ok (.invokevirtual 420, 3) := bdX12_then_52.2.2.2.2.2.2.2.2.1
theorem dX12_then_67 : decode cX12_then 67 = .ok (.iload_n 3, 1) := bdX12_then_52.2.2.2.2.2.2.2.2.2
theorem bdX12_then_68 : (decode cX12_then 68 = .ok (.ireturn, 1)) := by decide +kernel
theorem dX12_then_68 : decode cX12_then 68 = .ok (.ireturn, 1) := bdX12_then_68
theorem bdX12_starves_0 : (decode cX12_starves 0 = .ok (.aload_n 0, 1)) ∧ (decode cX12_starves 1 = .ok (.iconst 0, 1)) ∧ (decode cX12_starves 2 = .ok (.putfield 140, 3)) ∧ (decode cX12_starves 5 = .ok (.aload_n 0, 1)) ∧ (decode cX12_starves 6 = .ok (.iload_n 1, 1)) ∧ (decode cX12_starves 7 = .ok (.invokevirtual 371, 3)) ∧ (decode cX12_starves 10 = .ok (.ifCond .ne 9, 3)) ∧ (decode cX12_starves 13 = .ok (.aload_n 0, 1)) ∧ (decode cX12_starves 14 = .ok (.iconst 1, 1)) ∧ (decode cX12_starves 15 = .ok (.invokevirtual 290, 3)) := by decide +kernel
theorem dX12_starves_0 : decode cX12_starves 0 = .ok (.aload_n 0, 1) := bdX12_starves_0.1
theorem dX12_starves_1 : decode cX12_starves 1 = .ok (.iconst 0, 1) := bdX12_starves_0.2.1
theorem dX12_starves_2 : decode cX12_starves 2 = .ok (.putfield 140, 3) := bdX12_starves_0.2.2.1
theorem dX12_starves_5 : decode cX12_starves 5 = .ok (.aload_n 0, 1) := bdX12_starves_0.2.2.2.1
theorem dX12_starves_6 : decode cX12_starves 6 = .ok (.iload_n 1, 1) := bdX12_starves_0.2.2.2.2.1
theorem dX12_starves_7 : decode cX12_starves 7 = .ok (.invokevirtual 371, 3) := bdX12_starves_0.2.2.2.2.2.1
theorem dX12_starves_10 : decode cX12_starves 10 = .ok (.ifCond .ne 9, 3) := bdX12_starves_0.2.2.2.2.2.2.1
theorem dX12_starves_13 : decode cX12_starves 13 = .ok (.aload_n 0, 1) := bdX12_starves_0.2.2.2.2.2.2.2.1
theorem dX12_starves_14 : decode cX12_starves 14 = .ok (.iconst 1, 1) := bdX12_starves_0.2.2.2.2.2.2.2.2.1
theorem dX12_starves_15 : decode cX12_starves 15 = .ok (.invokevirtual 290, 3) := bdX12_starves_0.2.2.2.2.2.2.2.2.2
theorem bdX12_starves_18 : (decode cX12_starves 18 = .ok (.ireturn, 1)) ∧ (decode cX12_starves 19 = .ok (.aload_n 0, 1)) ∧ (decode cX12_starves 20 = .ok (.aload_n 0, 1)) ∧ (decode cX12_starves 21 = .ok (.getfield 104, 3)) ∧ (decode cX12_starves 24 = .ok (.iconst 0, 1)) ∧ (decode cX12_starves 25 = .ok (.invokevirtual 387, 3)) ∧ (decode cX12_starves 28 = .ok (.iconst (-1), 1)) ∧ (decode cX12_starves 29 = .ok (.istore_n 2, 1)) ∧ (decode cX12_starves 30 = .ok (.iconst 0, 1)) ∧ (decode cX12_starves 31 = .ok (.istore_n 3, 1)) := by decide +kernel
theorem dX12_starves_18 : decode cX12_starves 18 = .ok (.ireturn, 1) := bdX12_starves_18.1
theorem dX12_starves_19 : decode cX12_starves 19 = .ok (.aload_n 0, 1) := bdX12_starves_18.2.1
theorem dX12_starves_20 : decode cX12_starves 20 = .ok (.aload_n 0, 1) := bdX12_starves_18.2.2.1
theorem dX12_starves_21 : decode cX12_starves 21 = .ok (.getfield 104, 3) := bdX12_starves_18.2.2.2.1
theorem dX12_starves_24 : decode cX12_starves 24 = .ok (.iconst 0, 1) := bdX12_starves_18.2.2.2.2.1
theorem dX12_starves_25 : decode cX12_starves 25 = .ok (.invokevirtual 387, 3) := bdX12_starves_18.2.2.2.2.2.1
theorem dX12_starves_28 : decode cX12_starves 28 = .ok (.iconst (-1), 1) := bdX12_starves_18.2.2.2.2.2.2.1
theorem dX12_starves_29 : decode cX12_starves 29 = .ok (.istore_n 2, 1) := bdX12_starves_18.2.2.2.2.2.2.2.1
theorem dX12_starves_30 : decode cX12_starves 30 = .ok (.iconst 0, 1) := bdX12_starves_18.2.2.2.2.2.2.2.2.1
theorem dX12_starves_31 : decode cX12_starves 31 = .ok (.istore_n 3, 1) := bdX12_starves_18.2.2.2.2.2.2.2.2.2
theorem bdX12_starves_32 : (decode cX12_starves 32 = .ok (.iload_n 3, 1)) ∧ (decode cX12_starves 33 = .ok (.bipush 50, 2)) ∧ (decode cX12_starves 35 = .ok (.if_icmp .gt 31, 3)) ∧ (decode cX12_starves 38 = .ok (.iload_n 2, 1)) ∧ (decode cX12_starves 39 = .ok (.iconst (-1), 1)) ∧ (decode cX12_starves 40 = .ok (.if_icmp .ne 26, 3)) ∧ (decode cX12_starves 43 = .ok (.aload_n 0, 1)) ∧ (decode cX12_starves 44 = .ok (.getfield 305, 3)) ∧ (decode cX12_starves 47 = .ok (.iload_n 1, 1)) ∧ (decode cX12_starves 48 = .ok (.invokestatic 333, 3)) := by decide +kernel
theorem dX12_starves_32 : decode cX12_starves 32 = .ok (.iload_n 3, 1) := bdX12_starves_32.1
theorem dX12_starves_33 : decode cX12_starves 33 = .ok (.bipush 50, 2) := bdX12_starves_32.2.1
theorem dX12_starves_35 : decode cX12_starves 35 = .ok (.if_icmp .gt 31, 3) := bdX12_starves_32.2.2.1
theorem dX12_starves_38 : decode cX12_starves 38 = .ok (.iload_n 2, 1) := bdX12_starves_32.2.2.2.1
theorem dX12_starves_39 : decode cX12_starves 39 = .ok (.iconst (-1), 1) := bdX12_starves_32.2.2.2.2.1
theorem dX12_starves_40 : decode cX12_starves 40 = .ok (.if_icmp .ne 26, 3) := bdX12_starves_32.2.2.2.2.2.1
theorem dX12_starves_43 : decode cX12_starves 43 = .ok (.aload_n 0, 1) := bdX12_starves_32.2.2.2.2.2.2.1
theorem dX12_starves_44 : decode cX12_starves 44 = .ok (.getfield 305, 3) := bdX12_starves_32.2.2.2.2.2.2.2.1
theorem dX12_starves_47 : decode cX12_starves 47 = .ok (.iload_n 1, 1) := bdX12_starves_32.2.2.2.2.2.2.2.2.1
theorem dX12_starves_48 : decode cX12_starves 48 = .ok (.invokestatic 333, 3) := bdX12_starves_32.2.2.2.2.2.2.2.2.2
theorem bdX12_starves_51 : (decode cX12_starves 51 = .ok (.ifCond .eq 5, 3)) ∧ (decode cX12_starves 54 = .ok (.iload_n 3, 1)) ∧ (decode cX12_starves 55 = .ok (.istore_n 2, 1)) ∧ (decode cX12_starves 56 = .ok (.aload_n 0, 1)) ∧ (decode cX12_starves 57 = .ok (.invokevirtual 368, 3)) ∧ (decode cX12_starves 60 = .ok (.iinc 3 1, 3)) ∧ (decode cX12_starves 63 = .ok (.goto (-31), 3)) ∧ (decode cX12_starves 66 = .ok (.aload_n 0, 1)) ∧ (decode cX12_starves 67 = .ok (.aload_n 0, 1)) ∧ (decode cX12_starves 68 = .ok (.getfield 104, 3)) := by decide +kernel
theorem dX12_starves_51 : decode cX12_starves 51 = .ok (.ifCond .eq 5, 3) := bdX12_starves_51.1
theorem dX12_starves_54 : decode cX12_starves 54 = .ok (.iload_n 3, 1) := bdX12_starves_51.2.1
theorem dX12_starves_55 : decode cX12_starves 55 = .ok (.istore_n 2, 1) := bdX12_starves_51.2.2.1
theorem dX12_starves_56 : decode cX12_starves 56 = .ok (.aload_n 0, 1) := bdX12_starves_51.2.2.2.1
theorem dX12_starves_57 : decode cX12_starves 57 = .ok (.invokevirtual 368, 3) := bdX12_starves_51.2.2.2.2.1
theorem dX12_starves_60 : decode cX12_starves 60 = .ok (.iinc 3 1, 3) := bdX12_starves_51.2.2.2.2.2.1
theorem dX12_starves_63 : decode cX12_starves 63 = .ok (.goto (-31), 3) := bdX12_starves_51.2.2.2.2.2.2.1
theorem dX12_starves_66 : decode cX12_starves 66 = .ok (.aload_n 0, 1) := bdX12_starves_51.2.2.2.2.2.2.2.1
theorem dX12_starves_67 : decode cX12_starves 67 = .ok (.aload_n 0, 1) := bdX12_starves_51.2.2.2.2.2.2.2.2.1
theorem dX12_starves_68 : decode cX12_starves 68 = .ok (.getfield 104, 3) := bdX12_starves_51.2.2.2.2.2.2.2.2.2
theorem bdX12_starves_71 : (decode cX12_starves 71 = .ok (.iconst 0, 1)) ∧ (decode cX12_starves 72 = .ok (.invokevirtual 420, 3)) ∧ (decode cX12_starves 75 = .ok (.iload_n 2, 1)) ∧ (decode cX12_starves 76 = .ok (.ireturn, 1)) := by decide +kernel
theorem dX12_starves_71 : decode cX12_starves 71 = .ok (.iconst 0, 1) := bdX12_starves_71.1
theorem dX12_starves_72 : decode cX12_starves 72 = .ok (.invokevirtual 420, 3) := bdX12_starves_71.2.1
theorem dX12_starves_75 : decode cX12_starves 75 = .ok (.iload_n 2, 1) := bdX12_starves_71.2.2.1
theorem dX12_starves_76 : decode cX12_starves 76 = .ok (.ireturn, 1) := bdX12_starves_71.2.2.2
theorem bdX12_tithes_0 : (decode cX12_tithes 0 = .ok (.aload_n 0, 1)) ∧ (decode cX12_tithes 1 = .ok (.iconst 0, 1)) ∧ (decode cX12_tithes 2 = .ok (.putfield 140, 3)) ∧ (decode cX12_tithes 5 = .ok (.iload_n 1, 1)) ∧ (decode cX12_tithes 6 = .ok (.i2l, 1)) ∧ (decode cX12_tithes 7 = .ok (.lconst 0, 1)) ∧ (decode cX12_tithes 8 = .ok (.ldc2_w 460, 3)) ∧ (decode cX12_tithes 11 = .ok (.invokestatic 143, 3)) ∧ (decode cX12_tithes 14 = .ok (.ifCond .ne 9, 3)) ∧ (decode cX12_tithes 17 = .ok (.aload_n 0, 1)) := by decide +kernel
theorem dX12_tithes_0 : decode cX12_tithes 0 = .ok (.aload_n 0, 1) := bdX12_tithes_0.1
theorem dX12_tithes_1 : decode cX12_tithes 1 = .ok (.iconst 0, 1) := bdX12_tithes_0.2.1
theorem dX12_tithes_2 : decode cX12_tithes 2 = .ok (.putfield 140, 3) := bdX12_tithes_0.2.2.1
theorem dX12_tithes_5 : decode cX12_tithes 5 = .ok (.iload_n 1, 1) := bdX12_tithes_0.2.2.2.1
theorem dX12_tithes_6 : decode cX12_tithes 6 = .ok (.i2l, 1) := bdX12_tithes_0.2.2.2.2.1
theorem dX12_tithes_7 : decode cX12_tithes 7 = .ok (.lconst 0, 1) := bdX12_tithes_0.2.2.2.2.2.1
theorem dX12_tithes_8 : decode cX12_tithes 8 = .ok (.ldc2_w 460, 3) := bdX12_tithes_0.2.2.2.2.2.2.1
theorem dX12_tithes_11 : decode cX12_tithes 11 = .ok (.invokestatic 143, 3) := bdX12_tithes_0.2.2.2.2.2.2.2.1
theorem dX12_tithes_14 : decode cX12_tithes 14 = .ok (.ifCond .ne 9, 3) := bdX12_tithes_0.2.2.2.2.2.2.2.2.1
theorem dX12_tithes_17 : decode cX12_tithes 17 = .ok (.aload_n 0, 1) := bdX12_tithes_0.2.2.2.2.2.2.2.2.2
theorem bdX12_tithes_18 : (decode cX12_tithes 18 = .ok (.iconst 1, 1)) ∧ (decode cX12_tithes 19 = .ok (.invokevirtual 290, 3)) ∧ (decode cX12_tithes 22 = .ok (.ireturn, 1)) ∧ (decode cX12_tithes 23 = .ok (.aload_n 0, 1)) ∧ (decode cX12_tithes 24 = .ok (.aload_n 0, 1)) ∧ (decode cX12_tithes 25 = .ok (.getfield 104, 3)) ∧ (decode cX12_tithes 28 = .ok (.iconst 0, 1)) ∧ (decode cX12_tithes 29 = .ok (.invokevirtual 387, 3)) ∧ (decode cX12_tithes 32 = .ok (.aload_n 0, 1)) ∧ (decode cX12_tithes 33 = .ok (.getfield 308, 3)) := by decide +kernel
theorem dX12_tithes_18 : decode cX12_tithes 18 = .ok (.iconst 1, 1) := bdX12_tithes_18.1
theorem dX12_tithes_19 : decode cX12_tithes 19 = .ok (.invokevirtual 290, 3) := bdX12_tithes_18.2.1
theorem dX12_tithes_22 : decode cX12_tithes 22 = .ok (.ireturn, 1) := bdX12_tithes_18.2.2.1
theorem dX12_tithes_23 : decode cX12_tithes 23 = .ok (.aload_n 0, 1) := bdX12_tithes_18.2.2.2.1
theorem dX12_tithes_24 : decode cX12_tithes 24 = .ok (.aload_n 0, 1) := bdX12_tithes_18.2.2.2.2.1
theorem dX12_tithes_25 : decode cX12_tithes 25 = .ok (.getfield 104, 3) := bdX12_tithes_18.2.2.2.2.2.1
theorem dX12_tithes_28 : decode cX12_tithes 28 = .ok (.iconst 0, 1) := bdX12_tithes_18.2.2.2.2.2.2.1
theorem dX12_tithes_29 : decode cX12_tithes 29 = .ok (.invokevirtual 387, 3) := bdX12_tithes_18.2.2.2.2.2.2.2.1
theorem dX12_tithes_32 : decode cX12_tithes 32 = .ok (.aload_n 0, 1) := bdX12_tithes_18.2.2.2.2.2.2.2.2.1
theorem dX12_tithes_33 : decode cX12_tithes 33 = .ok (.getfield 308, 3) := bdX12_tithes_18.2.2.2.2.2.2.2.2.2
theorem bdX12_tithes_36 : (decode cX12_tithes 36 = .ok (.istore_n 2, 1)) ∧ (decode cX12_tithes 37 = .ok (.aload_n 0, 1)) ∧ (decode cX12_tithes 38 = .ok (.iload_n 1, 1)) ∧ (decode cX12_tithes 39 = .ok (.invokevirtual 417, 3)) ∧ (decode cX12_tithes 42 = .ok (.aload_n 0, 1)) ∧ (decode cX12_tithes 43 = .ok (.getfield 308, 3)) ∧ (decode cX12_tithes 46 = .ok (.iload_n 2, 1)) ∧ (decode cX12_tithes 47 = .ok (.isub, 1)) ∧ (decode cX12_tithes 48 = .ok (.istore_n 3, 1)) ∧ (decode cX12_tithes 49 = .ok (.aload_n 0, 1)) := by decide +kernel
theorem dX12_tithes_36 : decode cX12_tithes 36 = .ok (.istore_n 2, 1) := bdX12_tithes_36.1
theorem dX12_tithes_37 : decode cX12_tithes 37 = .ok (.aload_n 0, 1) := bdX12_tithes_36.2.1
theorem dX12_tithes_38 : decode cX12_tithes 38 = .ok (.iload_n 1, 1) := bdX12_tithes_36.2.2.1
theorem dX12_tithes_39 : decode cX12_tithes 39 = .ok (.invokevirtual 417, 3) := bdX12_tithes_36.2.2.2.1
theorem dX12_tithes_42 : decode cX12_tithes 42 = .ok (.aload_n 0, 1) := bdX12_tithes_36.2.2.2.2.1
theorem dX12_tithes_43 : decode cX12_tithes 43 = .ok (.getfield 308, 3) := bdX12_tithes_36.2.2.2.2.2.1
theorem dX12_tithes_46 : decode cX12_tithes 46 = .ok (.iload_n 2, 1) := bdX12_tithes_36.2.2.2.2.2.2.1
theorem dX12_tithes_47 : decode cX12_tithes 47 = .ok (.isub, 1) := bdX12_tithes_36.2.2.2.2.2.2.2.1
theorem dX12_tithes_48 : decode cX12_tithes 48 = .ok (.istore_n 3, 1) := bdX12_tithes_36.2.2.2.2.2.2.2.2.1
theorem dX12_tithes_49 : decode cX12_tithes 49 = .ok (.aload_n 0, 1) := bdX12_tithes_36.2.2.2.2.2.2.2.2.2
theorem bdX12_tithes_50 : (decode cX12_tithes 50 = .ok (.aload_n 0, 1)) ∧ (decode cX12_tithes 51 = .ok (.getfield 104, 3)) ∧ (decode cX12_tithes 54 = .ok (.iconst 0, 1)) ∧ (decode cX12_tithes 55 = .ok (.invokevirtual 420, 3)) ∧ (decode cX12_tithes 58 = .ok (.iload_n 3, 1)) ∧ (decode cX12_tithes 59 = .ok (.ireturn, 1)) := by decide +kernel
theorem dX12_tithes_50 : decode cX12_tithes 50 = .ok (.aload_n 0, 1) := bdX12_tithes_50.1
theorem dX12_tithes_51 : decode cX12_tithes 51 = .ok (.getfield 104, 3) := bdX12_tithes_50.2.1
theorem dX12_tithes_54 : decode cX12_tithes 54 = .ok (.iconst 0, 1) := bdX12_tithes_50.2.2.1
theorem dX12_tithes_55 : decode cX12_tithes 55 = .ok (.invokevirtual 420, 3) := bdX12_tithes_50.2.2.2.1
theorem dX12_tithes_58 : decode cX12_tithes 58 = .ok (.iload_n 3, 1) := bdX12_tithes_50.2.2.2.2.1
theorem dX12_tithes_59 : decode cX12_tithes 59 = .ok (.ireturn, 1) := bdX12_tithes_50.2.2.2.2.2
theorem bdX12_holdsOut_0 : (decode cX12_holdsOut 0 = .ok (.aload_n 0, 1)) ∧ (decode cX12_holdsOut 1 = .ok (.iconst 0, 1)) ∧ (decode cX12_holdsOut 2 = .ok (.putfield 140, 3)) ∧ (decode cX12_holdsOut 5 = .ok (.aload_n 0, 1)) ∧ (decode cX12_holdsOut 6 = .ok (.aload_n 0, 1)) ∧ (decode cX12_holdsOut 7 = .ok (.getfield 104, 3)) ∧ (decode cX12_holdsOut 10 = .ok (.iconst 0, 1)) ∧ (decode cX12_holdsOut 11 = .ok (.invokevirtual 387, 3)) ∧ (decode cX12_holdsOut 14 = .ok (.aload_n 0, 1)) ∧ (decode cX12_holdsOut 15 = .ok (.getfield 305, 3)) := by decide +kernel
theorem dX12_holdsOut_0 : decode cX12_holdsOut 0 = .ok (.aload_n 0, 1) := bdX12_holdsOut_0.1
theorem dX12_holdsOut_1 : decode cX12_holdsOut 1 = .ok (.iconst 0, 1) := bdX12_holdsOut_0.2.1
theorem dX12_holdsOut_2 : decode cX12_holdsOut 2 = .ok (.putfield 140, 3) := bdX12_holdsOut_0.2.2.1
theorem dX12_holdsOut_5 : decode cX12_holdsOut 5 = .ok (.aload_n 0, 1) := bdX12_holdsOut_0.2.2.2.1
theorem dX12_holdsOut_6 : decode cX12_holdsOut 6 = .ok (.aload_n 0, 1) := bdX12_holdsOut_0.2.2.2.2.1
theorem dX12_holdsOut_7 : decode cX12_holdsOut 7 = .ok (.getfield 104, 3) := bdX12_holdsOut_0.2.2.2.2.2.1
theorem dX12_holdsOut_10 : decode cX12_holdsOut 10 = .ok (.iconst 0, 1) := bdX12_holdsOut_0.2.2.2.2.2.2.1
theorem dX12_holdsOut_11 : decode cX12_holdsOut 11 = .ok (.invokevirtual 387, 3) := bdX12_holdsOut_0.2.2.2.2.2.2.2.1
theorem dX12_holdsOut_14 : decode cX12_holdsOut 14 = .ok (.aload_n 0, 1) := bdX12_holdsOut_0.2.2.2.2.2.2.2.2.1
theorem dX12_holdsOut_15 : decode cX12_holdsOut 15 = .ok (.getfield 305, 3) := bdX12_holdsOut_0.2.2.2.2.2.2.2.2.2
theorem bdX12_holdsOut_18 : (decode cX12_holdsOut 18 = .ok (.istore_n 1, 1)) ∧ (decode cX12_holdsOut 19 = .ok (.iconst (-1), 1)) ∧ (decode cX12_holdsOut 20 = .ok (.istore_n 2, 1)) ∧ (decode cX12_holdsOut 21 = .ok (.iconst 1, 1)) ∧ (decode cX12_holdsOut 22 = .ok (.istore_n 3, 1)) ∧ (decode cX12_holdsOut 23 = .ok (.iload_n 3, 1)) ∧ (decode cX12_holdsOut 24 = .ok (.bipush 50, 2)) ∧ (decode cX12_holdsOut 26 = .ok (.if_icmp .gt 28, 3)) ∧ (decode cX12_holdsOut 29 = .ok (.iload_n 2, 1)) ∧ (decode cX12_holdsOut 30 = .ok (.iconst (-1), 1)) := by decide +kernel
theorem dX12_holdsOut_18 : decode cX12_holdsOut 18 = .ok (.istore_n 1, 1) := bdX12_holdsOut_18.1
theorem dX12_holdsOut_19 : decode cX12_holdsOut 19 = .ok (.iconst (-1), 1) := bdX12_holdsOut_18.2.1
theorem dX12_holdsOut_20 : decode cX12_holdsOut 20 = .ok (.istore_n 2, 1) := bdX12_holdsOut_18.2.2.1
theorem dX12_holdsOut_21 : decode cX12_holdsOut 21 = .ok (.iconst 1, 1) := bdX12_holdsOut_18.2.2.2.1
theorem dX12_holdsOut_22 : decode cX12_holdsOut 22 = .ok (.istore_n 3, 1) := bdX12_holdsOut_18.2.2.2.2.1
theorem dX12_holdsOut_23 : decode cX12_holdsOut 23 = .ok (.iload_n 3, 1) := bdX12_holdsOut_18.2.2.2.2.2.1
theorem dX12_holdsOut_24 : decode cX12_holdsOut 24 = .ok (.bipush 50, 2) := bdX12_holdsOut_18.2.2.2.2.2.2.1
theorem dX12_holdsOut_26 : decode cX12_holdsOut 26 = .ok (.if_icmp .gt 28, 3) := bdX12_holdsOut_18.2.2.2.2.2.2.2.1
theorem dX12_holdsOut_29 : decode cX12_holdsOut 29 = .ok (.iload_n 2, 1) := bdX12_holdsOut_18.2.2.2.2.2.2.2.2.1
theorem dX12_holdsOut_30 : decode cX12_holdsOut 30 = .ok (.iconst (-1), 1) := bdX12_holdsOut_18.2.2.2.2.2.2.2.2.2
theorem bdX12_holdsOut_31 : (decode cX12_holdsOut 31 = .ok (.if_icmp .ne 23, 3)) ∧ (decode cX12_holdsOut 34 = .ok (.aload_n 0, 1)) ∧ (decode cX12_holdsOut 35 = .ok (.invokevirtual 368, 3)) ∧ (decode cX12_holdsOut 38 = .ok (.aload_n 0, 1)) ∧ (decode cX12_holdsOut 39 = .ok (.getfield 305, 3)) ∧ (decode cX12_holdsOut 42 = .ok (.iload_n 1, 1)) ∧ (decode cX12_holdsOut 43 = .ok (.if_icmp .eq 5, 3)) ∧ (decode cX12_holdsOut 46 = .ok (.iload_n 3, 1)) ∧ (decode cX12_holdsOut 47 = .ok (.istore_n 2, 1)) ∧ (decode cX12_holdsOut 48 = .ok (.iinc 3 1, 3)) := by decide +kernel
theorem dX12_holdsOut_31 : decode cX12_holdsOut 31 = .ok (.if_icmp .ne 23, 3) := bdX12_holdsOut_31.1
theorem dX12_holdsOut_34 : decode cX12_holdsOut 34 = .ok (.aload_n 0, 1) := bdX12_holdsOut_31.2.1
theorem dX12_holdsOut_35 : decode cX12_holdsOut 35 = .ok (.invokevirtual 368, 3) := bdX12_holdsOut_31.2.2.1
theorem dX12_holdsOut_38 : decode cX12_holdsOut 38 = .ok (.aload_n 0, 1) := bdX12_holdsOut_31.2.2.2.1
theorem dX12_holdsOut_39 : decode cX12_holdsOut 39 = .ok (.getfield 305, 3) := bdX12_holdsOut_31.2.2.2.2.1
theorem dX12_holdsOut_42 : decode cX12_holdsOut 42 = .ok (.iload_n 1, 1) := bdX12_holdsOut_31.2.2.2.2.2.1
theorem dX12_holdsOut_43 : decode cX12_holdsOut 43 = .ok (.if_icmp .eq 5, 3) := bdX12_holdsOut_31.2.2.2.2.2.2.1
theorem dX12_holdsOut_46 : decode cX12_holdsOut 46 = .ok (.iload_n 3, 1) := bdX12_holdsOut_31.2.2.2.2.2.2.2.1
theorem dX12_holdsOut_47 : decode cX12_holdsOut 47 = .ok (.istore_n 2, 1) := bdX12_holdsOut_31.2.2.2.2.2.2.2.2.1
theorem dX12_holdsOut_48 : decode cX12_holdsOut 48 = .ok (.iinc 3 1, 3) := bdX12_holdsOut_31.2.2.2.2.2.2.2.2.2
theorem bdX12_holdsOut_51 : (decode cX12_holdsOut 51 = .ok (.goto (-28), 3)) ∧ (decode cX12_holdsOut 54 = .ok (.aload_n 0, 1)) ∧ (decode cX12_holdsOut 55 = .ok (.aload_n 0, 1)) ∧ (decode cX12_holdsOut 56 = .ok (.getfield 104, 3)) ∧ (decode cX12_holdsOut 59 = .ok (.iconst 0, 1)) ∧ (decode cX12_holdsOut 60 = .ok (.invokevirtual 420, 3)) ∧ (decode cX12_holdsOut 63 = .ok (.iload_n 2, 1)) ∧ (decode cX12_holdsOut 64 = .ok (.ireturn, 1)) := by decide +kernel
theorem dX12_holdsOut_51 : decode cX12_holdsOut 51 = .ok (.goto (-28), 3) := bdX12_holdsOut_51.1
theorem dX12_holdsOut_54 : decode cX12_holdsOut 54 = .ok (.aload_n 0, 1) := bdX12_holdsOut_51.2.1
theorem dX12_holdsOut_55 : decode cX12_holdsOut 55 = .ok (.aload_n 0, 1) := bdX12_holdsOut_51.2.2.1
theorem dX12_holdsOut_56 : decode cX12_holdsOut 56 = .ok (.getfield 104, 3) := bdX12_holdsOut_51.2.2.2.1
theorem dX12_holdsOut_59 : decode cX12_holdsOut 59 = .ok (.iconst 0, 1) := bdX12_holdsOut_51.2.2.2.2.1
theorem dX12_holdsOut_60 : decode cX12_holdsOut 60 = .ok (.invokevirtual 420, 3) := bdX12_holdsOut_51.2.2.2.2.2.1
theorem dX12_holdsOut_63 : decode cX12_holdsOut 63 = .ok (.iload_n 2, 1) := bdX12_holdsOut_51.2.2.2.2.2.2.1
theorem dX12_holdsOut_64 : decode cX12_holdsOut 64 = .ok (.ireturn, 1) := bdX12_holdsOut_51.2.2.2.2.2.2.2
theorem bdX12_strengthBy_0 : (decode cX12_strengthBy 0 = .ok (.iconst 0, 1)) ∧ (decode cX12_strengthBy 1 = .ok (.istore_n 2, 1)) ∧ (decode cX12_strengthBy 2 = .ok (.iconst 0, 1)) ∧ (decode cX12_strengthBy 3 = .ok (.istore_n 3, 1)) ∧ (decode cX12_strengthBy 4 = .ok (.iload_n 3, 1)) ∧ (decode cX12_strengthBy 5 = .ok (.aload_n 0, 1)) ∧ (decode cX12_strengthBy 6 = .ok (.getfield 35, 3)) ∧ (decode cX12_strengthBy 9 = .ok (.iconst 0, 1)) ∧ (decode cX12_strengthBy 10 = .ok (.iaload, 1)) ∧ (decode cX12_strengthBy 11 = .ok (.if_icmp .ge 35, 3)) := by decide +kernel
theorem dX12_strengthBy_0 : decode cX12_strengthBy 0 = .ok (.iconst 0, 1) := bdX12_strengthBy_0.1
theorem dX12_strengthBy_1 : decode cX12_strengthBy 1 = .ok (.istore_n 2, 1) := bdX12_strengthBy_0.2.1
theorem dX12_strengthBy_2 : decode cX12_strengthBy 2 = .ok (.iconst 0, 1) := bdX12_strengthBy_0.2.2.1
theorem dX12_strengthBy_3 : decode cX12_strengthBy 3 = .ok (.istore_n 3, 1) := bdX12_strengthBy_0.2.2.2.1
theorem dX12_strengthBy_4 : decode cX12_strengthBy 4 = .ok (.iload_n 3, 1) := bdX12_strengthBy_0.2.2.2.2.1
theorem dX12_strengthBy_5 : decode cX12_strengthBy 5 = .ok (.aload_n 0, 1) := bdX12_strengthBy_0.2.2.2.2.2.1
theorem dX12_strengthBy_6 : decode cX12_strengthBy 6 = .ok (.getfield 35, 3) := bdX12_strengthBy_0.2.2.2.2.2.2.1
theorem dX12_strengthBy_9 : decode cX12_strengthBy 9 = .ok (.iconst 0, 1) := bdX12_strengthBy_0.2.2.2.2.2.2.2.1
theorem dX12_strengthBy_10 : decode cX12_strengthBy 10 = .ok (.iaload, 1) := bdX12_strengthBy_0.2.2.2.2.2.2.2.2.1
theorem dX12_strengthBy_11 : decode cX12_strengthBy 11 = .ok (.if_icmp .ge 35, 3) := bdX12_strengthBy_0.2.2.2.2.2.2.2.2.2
theorem bdX12_strengthBy_14 : (decode cX12_strengthBy 14 = .ok (.iload_n 2, 1)) ∧ (decode cX12_strengthBy 15 = .ok (.iload_n 1, 1)) ∧ (decode cX12_strengthBy 16 = .ok (.iload_n 3, 1)) ∧ (decode cX12_strengthBy 17 = .ok (.invokestatic 333, 3)) ∧ (decode cX12_strengthBy 20 = .ok (.ifCond .eq 12, 3)) ∧ (decode cX12_strengthBy 23 = .ok (.aload_n 0, 1)) ∧ (decode cX12_strengthBy 24 = .ok (.getfield 42, 3)) ∧ (decode cX12_strengthBy 27 = .ok (.iload_n 3, 1)) ∧ (decode cX12_strengthBy 28 = .ok (.iaload, 1)) ∧ (decode cX12_strengthBy 29 = .ok (.goto 9, 3)) := by decide +kernel
theorem dX12_strengthBy_14 : decode cX12_strengthBy 14 = .ok (.iload_n 2, 1) := bdX12_strengthBy_14.1
theorem dX12_strengthBy_15 : decode cX12_strengthBy 15 = .ok (.iload_n 1, 1) := bdX12_strengthBy_14.2.1
theorem dX12_strengthBy_16 : decode cX12_strengthBy 16 = .ok (.iload_n 3, 1) := bdX12_strengthBy_14.2.2.1
theorem dX12_strengthBy_17 : decode cX12_strengthBy 17 = .ok (.invokestatic 333, 3) := bdX12_strengthBy_14.2.2.2.1
theorem dX12_strengthBy_20 : decode cX12_strengthBy 20 = .ok (.ifCond .eq 12, 3) := bdX12_strengthBy_14.2.2.2.2.1
theorem dX12_strengthBy_23 : decode cX12_strengthBy 23 = .ok (.aload_n 0, 1) := bdX12_strengthBy_14.2.2.2.2.2.1
theorem dX12_strengthBy_24 : decode cX12_strengthBy 24 = .ok (.getfield 42, 3) := bdX12_strengthBy_14.2.2.2.2.2.2.1
theorem dX12_strengthBy_27 : decode cX12_strengthBy 27 = .ok (.iload_n 3, 1) := bdX12_strengthBy_14.2.2.2.2.2.2.2.1
theorem dX12_strengthBy_28 : decode cX12_strengthBy 28 = .ok (.iaload, 1) := bdX12_strengthBy_14.2.2.2.2.2.2.2.2.1
theorem dX12_strengthBy_29 : decode cX12_strengthBy 29 = .ok (.goto 9, 3) := bdX12_strengthBy_14.2.2.2.2.2.2.2.2.2
theorem bdX12_strengthBy_32 : (decode cX12_strengthBy 32 = .ok (.aload_n 0, 1)) ∧ (decode cX12_strengthBy 33 = .ok (.getfield 39, 3)) ∧ (decode cX12_strengthBy 36 = .ok (.iload_n 3, 1)) ∧ (decode cX12_strengthBy 37 = .ok (.iaload, 1)) ∧ (decode cX12_strengthBy 38 = .ok (.iadd, 1)) ∧ (decode cX12_strengthBy 39 = .ok (.istore_n 2, 1)) ∧ (decode cX12_strengthBy 40 = .ok (.iinc 3 1, 3)) ∧ (decode cX12_strengthBy 43 = .ok (.goto (-39), 3)) ∧ (decode cX12_strengthBy 46 = .ok (.iload_n 2, 1)) ∧ (decode cX12_strengthBy 47 = .ok (.ireturn, 1)) := by decide +kernel
theorem dX12_strengthBy_32 : decode cX12_strengthBy 32 = .ok (.aload_n 0, 1) := bdX12_strengthBy_32.1
theorem dX12_strengthBy_33 : decode cX12_strengthBy 33 = .ok (.getfield 39, 3) := bdX12_strengthBy_32.2.1
theorem dX12_strengthBy_36 : decode cX12_strengthBy 36 = .ok (.iload_n 3, 1) := bdX12_strengthBy_32.2.2.1
theorem dX12_strengthBy_37 : decode cX12_strengthBy 37 = .ok (.iaload, 1) := bdX12_strengthBy_32.2.2.2.1
theorem dX12_strengthBy_38 : decode cX12_strengthBy 38 = .ok (.iadd, 1) := bdX12_strengthBy_32.2.2.2.2.1
theorem dX12_strengthBy_39 : decode cX12_strengthBy 39 = .ok (.istore_n 2, 1) := bdX12_strengthBy_32.2.2.2.2.2.1
theorem dX12_strengthBy_40 : decode cX12_strengthBy 40 = .ok (.iinc 3 1, 3) := bdX12_strengthBy_32.2.2.2.2.2.2.1
theorem dX12_strengthBy_43 : decode cX12_strengthBy 43 = .ok (.goto (-39), 3) := bdX12_strengthBy_32.2.2.2.2.2.2.2.1
theorem dX12_strengthBy_46 : decode cX12_strengthBy 46 = .ok (.iload_n 2, 1) := bdX12_strengthBy_32.2.2.2.2.2.2.2.2.1
theorem dX12_strengthBy_47 : decode cX12_strengthBy 47 = .ok (.ireturn, 1) := bdX12_strengthBy_32.2.2.2.2.2.2.2.2.2
theorem bdX12_lotsFor_0 : (decode cX12_lotsFor 0 = .ok (.aload_n 0, 1)) ∧ (decode cX12_lotsFor 1 = .ok (.iconst 0, 1)) ∧ (decode cX12_lotsFor 2 = .ok (.putfield 140, 3)) ∧ (decode cX12_lotsFor 5 = .ok (.iload_n 2, 1)) ∧ (decode cX12_lotsFor 6 = .ok (.i2l, 1)) ∧ (decode cX12_lotsFor 7 = .ok (.ldc2_w 441, 3)) ∧ (decode cX12_lotsFor 10 = .ok (.aload_n 0, 1)) ∧ (decode cX12_lotsFor 11 = .ok (.getfield 35, 3)) ∧ (decode cX12_lotsFor 14 = .ok (.iconst 0, 1)) ∧ (decode cX12_lotsFor 15 = .ok (.iaload, 1)) := by decide +kernel
theorem dX12_lotsFor_0 : decode cX12_lotsFor 0 = .ok (.aload_n 0, 1) := bdX12_lotsFor_0.1
theorem dX12_lotsFor_1 : decode cX12_lotsFor 1 = .ok (.iconst 0, 1) := bdX12_lotsFor_0.2.1
theorem dX12_lotsFor_2 : decode cX12_lotsFor 2 = .ok (.putfield 140, 3) := bdX12_lotsFor_0.2.2.1
theorem dX12_lotsFor_5 : decode cX12_lotsFor 5 = .ok (.iload_n 2, 1) := bdX12_lotsFor_0.2.2.2.1
theorem dX12_lotsFor_6 : decode cX12_lotsFor 6 = .ok (.i2l, 1) := bdX12_lotsFor_0.2.2.2.2.1
theorem dX12_lotsFor_7 : decode cX12_lotsFor 7 = .ok (.ldc2_w 441, 3) := bdX12_lotsFor_0.2.2.2.2.2.1
theorem dX12_lotsFor_10 : decode cX12_lotsFor 10 = .ok (.aload_n 0, 1) := bdX12_lotsFor_0.2.2.2.2.2.2.1
theorem dX12_lotsFor_11 : decode cX12_lotsFor 11 = .ok (.getfield 35, 3) := bdX12_lotsFor_0.2.2.2.2.2.2.2.1
theorem dX12_lotsFor_14 : decode cX12_lotsFor 14 = .ok (.iconst 0, 1) := bdX12_lotsFor_0.2.2.2.2.2.2.2.2.1
theorem dX12_lotsFor_15 : decode cX12_lotsFor 15 = .ok (.iaload, 1) := bdX12_lotsFor_0.2.2.2.2.2.2.2.2.2
theorem bdX12_lotsFor_16 : (decode cX12_lotsFor 16 = .ok (.iconst 1, 1)) ∧ (decode cX12_lotsFor 17 = .ok (.isub, 1)) ∧ (decode cX12_lotsFor 18 = .ok (.i2l, 1)) ∧ (decode cX12_lotsFor 19 = .ok (.invokestatic 143, 3)) ∧ (decode cX12_lotsFor 22 = .ok (.ifCond .ne 9, 3)) ∧ (decode cX12_lotsFor 25 = .ok (.aload_n 0, 1)) ∧ (decode cX12_lotsFor 26 = .ok (.iconst 1, 1)) ∧ (decode cX12_lotsFor 27 = .ok (.invokevirtual 290, 3)) ∧ (decode cX12_lotsFor 30 = .ok (.ireturn, 1)) ∧ (decode cX12_lotsFor 31 = .ok (.iload_n 1, 1)) := by decide +kernel
theorem dX12_lotsFor_16 : decode cX12_lotsFor 16 = .ok (.iconst 1, 1) := bdX12_lotsFor_16.1
theorem dX12_lotsFor_17 : decode cX12_lotsFor 17 = .ok (.isub, 1) := bdX12_lotsFor_16.2.1
theorem dX12_lotsFor_18 : decode cX12_lotsFor 18 = .ok (.i2l, 1) := bdX12_lotsFor_16.2.2.1
theorem dX12_lotsFor_19 : decode cX12_lotsFor 19 = .ok (.invokestatic 143, 3) := bdX12_lotsFor_16.2.2.2.1
theorem dX12_lotsFor_22 : decode cX12_lotsFor 22 = .ok (.ifCond .ne 9, 3) := bdX12_lotsFor_16.2.2.2.2.1
theorem dX12_lotsFor_25 : decode cX12_lotsFor 25 = .ok (.aload_n 0, 1) := bdX12_lotsFor_16.2.2.2.2.2.1
theorem dX12_lotsFor_26 : decode cX12_lotsFor 26 = .ok (.iconst 1, 1) := bdX12_lotsFor_16.2.2.2.2.2.2.1
theorem dX12_lotsFor_27 : decode cX12_lotsFor 27 = .ok (.invokevirtual 290, 3) := bdX12_lotsFor_16.2.2.2.2.2.2.2.1
theorem dX12_lotsFor_30 : decode cX12_lotsFor 30 = .ok (.ireturn, 1) := bdX12_lotsFor_16.2.2.2.2.2.2.2.2.1
theorem dX12_lotsFor_31 : decode cX12_lotsFor 31 = .ok (.iload_n 1, 1) := bdX12_lotsFor_16.2.2.2.2.2.2.2.2.2
theorem bdX12_lotsFor_32 : (decode cX12_lotsFor 32 = .ok (.i2l, 1)) ∧ (decode cX12_lotsFor 33 = .ok (.lconst 0, 1)) ∧ (decode cX12_lotsFor 34 = .ok (.ldc2_w 462, 3)) ∧ (decode cX12_lotsFor 37 = .ok (.invokestatic 143, 3)) ∧ (decode cX12_lotsFor 40 = .ok (.ifCond .ne 9, 3)) ∧ (decode cX12_lotsFor 43 = .ok (.aload_n 0, 1)) ∧ (decode cX12_lotsFor 44 = .ok (.iconst 2, 1)) ∧ (decode cX12_lotsFor 45 = .ok (.invokevirtual 290, 3)) ∧ (decode cX12_lotsFor 48 = .ok (.ireturn, 1)) ∧ (decode cX12_lotsFor 49 = .ok (.iconst 0, 1)) := by decide +kernel
theorem dX12_lotsFor_32 : decode cX12_lotsFor 32 = .ok (.i2l, 1) := bdX12_lotsFor_32.1
theorem dX12_lotsFor_33 : decode cX12_lotsFor 33 = .ok (.lconst 0, 1) := bdX12_lotsFor_32.2.1
theorem dX12_lotsFor_34 : decode cX12_lotsFor 34 = .ok (.ldc2_w 462, 3) := bdX12_lotsFor_32.2.2.1
theorem dX12_lotsFor_37 : decode cX12_lotsFor 37 = .ok (.invokestatic 143, 3) := bdX12_lotsFor_32.2.2.2.1
theorem dX12_lotsFor_40 : decode cX12_lotsFor 40 = .ok (.ifCond .ne 9, 3) := bdX12_lotsFor_32.2.2.2.2.1
theorem dX12_lotsFor_43 : decode cX12_lotsFor 43 = .ok (.aload_n 0, 1) := bdX12_lotsFor_32.2.2.2.2.2.1
theorem dX12_lotsFor_44 : decode cX12_lotsFor 44 = .ok (.iconst 2, 1) := bdX12_lotsFor_32.2.2.2.2.2.2.1
theorem dX12_lotsFor_45 : decode cX12_lotsFor 45 = .ok (.invokevirtual 290, 3) := bdX12_lotsFor_32.2.2.2.2.2.2.2.1
theorem dX12_lotsFor_48 : decode cX12_lotsFor 48 = .ok (.ireturn, 1) := bdX12_lotsFor_32.2.2.2.2.2.2.2.2.1
theorem dX12_lotsFor_49 : decode cX12_lotsFor 49 = .ok (.iconst 0, 1) := bdX12_lotsFor_32.2.2.2.2.2.2.2.2.2
theorem bdX12_lotsFor_50 : (decode cX12_lotsFor 50 = .ok (.istore_n 3, 1)) ∧ (decode cX12_lotsFor 51 = .ok (.iconst 0, 1)) ∧ (decode cX12_lotsFor 52 = .ok (.istore 4, 2)) ∧ (decode cX12_lotsFor 54 = .ok (.iload 4, 2)) ∧ (decode cX12_lotsFor 56 = .ok (.iconst 1, 1)) ∧ (decode cX12_lotsFor 57 = .ok (.aload_n 0, 1)) ∧ (decode cX12_lotsFor 58 = .ok (.getfield 35, 3)) ∧ (decode cX12_lotsFor 61 = .ok (.iconst 0, 1)) ∧ (decode cX12_lotsFor 62 = .ok (.iaload, 1)) ∧ (decode cX12_lotsFor 63 = .ok (.ishl, 1)) := by decide +kernel
theorem dX12_lotsFor_50 : decode cX12_lotsFor 50 = .ok (.istore_n 3, 1) := bdX12_lotsFor_50.1
theorem dX12_lotsFor_51 : decode cX12_lotsFor 51 = .ok (.iconst 0, 1) := bdX12_lotsFor_50.2.1
theorem dX12_lotsFor_52 : decode cX12_lotsFor 52 = .ok (.istore 4, 2) := bdX12_lotsFor_50.2.2.1
theorem dX12_lotsFor_54 : decode cX12_lotsFor 54 = .ok (.iload 4, 2) := bdX12_lotsFor_50.2.2.2.1
theorem dX12_lotsFor_56 : decode cX12_lotsFor 56 = .ok (.iconst 1, 1) := bdX12_lotsFor_50.2.2.2.2.1
theorem dX12_lotsFor_57 : decode cX12_lotsFor 57 = .ok (.aload_n 0, 1) := bdX12_lotsFor_50.2.2.2.2.2.1
theorem dX12_lotsFor_58 : decode cX12_lotsFor 58 = .ok (.getfield 35, 3) := bdX12_lotsFor_50.2.2.2.2.2.2.1
theorem dX12_lotsFor_61 : decode cX12_lotsFor 61 = .ok (.iconst 0, 1) := bdX12_lotsFor_50.2.2.2.2.2.2.2.1
theorem dX12_lotsFor_62 : decode cX12_lotsFor 62 = .ok (.iaload, 1) := bdX12_lotsFor_50.2.2.2.2.2.2.2.2.1
theorem dX12_lotsFor_63 : decode cX12_lotsFor 63 = .ok (.ishl, 1) := bdX12_lotsFor_50.2.2.2.2.2.2.2.2.2
theorem bdX12_lotsFor_64 : (decode cX12_lotsFor 64 = .ok (.if_icmp .ge 41, 3)) ∧ (decode cX12_lotsFor 67 = .ok (.iload_n 3, 1)) ∧ (decode cX12_lotsFor 68 = .ok (.aload_n 0, 1)) ∧ (decode cX12_lotsFor 69 = .ok (.iload 4, 2)) ∧ (decode cX12_lotsFor 71 = .ok (.invokevirtual 464, 3)) ∧ (decode cX12_lotsFor 74 = .ok (.iload_n 1, 1)) ∧ (decode cX12_lotsFor 75 = .ok (.if_icmp .lt 21, 3)) ∧ (decode cX12_lotsFor 78 = .ok (.iload_n 2, 1)) ∧ (decode cX12_lotsFor 79 = .ok (.iconst (-1), 1)) ∧ (decode cX12_lotsFor 80 = .ok (.if_icmp .eq 12, 3)) := by decide +kernel
theorem dX12_lotsFor_64 : decode cX12_lotsFor 64 = .ok (.if_icmp .ge 41, 3) := bdX12_lotsFor_64.1
theorem dX12_lotsFor_67 : decode cX12_lotsFor 67 = .ok (.iload_n 3, 1) := bdX12_lotsFor_64.2.1
theorem dX12_lotsFor_68 : decode cX12_lotsFor 68 = .ok (.aload_n 0, 1) := bdX12_lotsFor_64.2.2.1
theorem dX12_lotsFor_69 : decode cX12_lotsFor 69 = .ok (.iload 4, 2) := bdX12_lotsFor_64.2.2.2.1
theorem dX12_lotsFor_71 : decode cX12_lotsFor 71 = .ok (.invokevirtual 464, 3) := bdX12_lotsFor_64.2.2.2.2.1
theorem dX12_lotsFor_74 : decode cX12_lotsFor 74 = .ok (.iload_n 1, 1) := bdX12_lotsFor_64.2.2.2.2.2.1
theorem dX12_lotsFor_75 : decode cX12_lotsFor 75 = .ok (.if_icmp .lt 21, 3) := bdX12_lotsFor_64.2.2.2.2.2.2.1
theorem dX12_lotsFor_78 : decode cX12_lotsFor 78 = .ok (.iload_n 2, 1) := bdX12_lotsFor_64.2.2.2.2.2.2.2.1
theorem dX12_lotsFor_79 : decode cX12_lotsFor 79 = .ok (.iconst (-1), 1) := bdX12_lotsFor_64.2.2.2.2.2.2.2.2.1
theorem dX12_lotsFor_80 : decode cX12_lotsFor 80 = .ok (.if_icmp .eq 12, 3) := bdX12_lotsFor_64.2.2.2.2.2.2.2.2.2
theorem bdX12_lotsFor_83 : (decode cX12_lotsFor 83 = .ok (.iload 4, 2)) ∧ (decode cX12_lotsFor 85 = .ok (.iload_n 2, 1)) ∧ (decode cX12_lotsFor 86 = .ok (.invokestatic 333, 3)) ∧ (decode cX12_lotsFor 89 = .ok (.ifCond .eq 7, 3)) ∧ (decode cX12_lotsFor 92 = .ok (.iconst 1, 1)) ∧ (decode cX12_lotsFor 93 = .ok (.goto 4, 3)) ∧ (decode cX12_lotsFor 96 = .ok (.iconst 0, 1)) ∧ (decode cX12_lotsFor 97 = .ok (.iadd, 1)) ∧ (decode cX12_lotsFor 98 = .ok (.istore_n 3, 1)) ∧ (decode cX12_lotsFor 99 = .ok (.iinc 4 1, 3)) := by decide +kernel
theorem dX12_lotsFor_83 : decode cX12_lotsFor 83 = .ok (.iload 4, 2) := bdX12_lotsFor_83.1
theorem dX12_lotsFor_85 : decode cX12_lotsFor 85 = .ok (.iload_n 2, 1) := bdX12_lotsFor_83.2.1
theorem dX12_lotsFor_86 : decode cX12_lotsFor 86 = .ok (.invokestatic 333, 3) := bdX12_lotsFor_83.2.2.1
theorem dX12_lotsFor_89 : decode cX12_lotsFor 89 = .ok (.ifCond .eq 7, 3) := bdX12_lotsFor_83.2.2.2.1
theorem dX12_lotsFor_92 : decode cX12_lotsFor 92 = .ok (.iconst 1, 1) := bdX12_lotsFor_83.2.2.2.2.1
theorem dX12_lotsFor_93 : decode cX12_lotsFor 93 = .ok (.goto 4, 3) := bdX12_lotsFor_83.2.2.2.2.2.1
theorem dX12_lotsFor_96 : decode cX12_lotsFor 96 = .ok (.iconst 0, 1) := bdX12_lotsFor_83.2.2.2.2.2.2.1
theorem dX12_lotsFor_97 : decode cX12_lotsFor 97 = .ok (.iadd, 1) := bdX12_lotsFor_83.2.2.2.2.2.2.2.1
theorem dX12_lotsFor_98 : decode cX12_lotsFor 98 = .ok (.istore_n 3, 1) := bdX12_lotsFor_83.2.2.2.2.2.2.2.2.1
theorem dX12_lotsFor_99 : decode cX12_lotsFor 99 = .ok (.iinc 4 1, 3) := bdX12_lotsFor_83.2.2.2.2.2.2.2.2.2
theorem bdX12_lotsFor_102 : (decode cX12_lotsFor 102 = .ok (.goto (-48), 3)) ∧ (decode cX12_lotsFor 105 = .ok (.iload_n 3, 1)) ∧ (decode cX12_lotsFor 106 = .ok (.ireturn, 1)) := by decide +kernel
theorem dX12_lotsFor_102 : decode cX12_lotsFor 102 = .ok (.goto (-48), 3) := bdX12_lotsFor_102.1
theorem dX12_lotsFor_105 : decode cX12_lotsFor 105 = .ok (.iload_n 3, 1) := bdX12_lotsFor_102.2.1
theorem dX12_lotsFor_106 : decode cX12_lotsFor 106 = .ok (.ireturn, 1) := bdX12_lotsFor_102.2.2
theorem bdX12_allStored_0 : (decode cX12_allStored 0 = .ok (.iconst 0, 1)) ∧ (decode cX12_allStored 1 = .ok (.istore_n 1, 1)) ∧ (decode cX12_allStored 2 = .ok (.iconst 0, 1)) ∧ (decode cX12_allStored 3 = .ok (.istore_n 2, 1)) ∧ (decode cX12_allStored 4 = .ok (.iload_n 2, 1)) ∧ (decode cX12_allStored 5 = .ok (.aload_n 0, 1)) ∧ (decode cX12_allStored 6 = .ok (.getfield 35, 3)) ∧ (decode cX12_allStored 9 = .ok (.iconst 0, 1)) ∧ (decode cX12_allStored 10 = .ok (.iaload, 1)) ∧ (decode cX12_allStored 11 = .ok (.if_icmp .ge 18, 3)) := by decide +kernel
theorem dX12_allStored_0 : decode cX12_allStored 0 = .ok (.iconst 0, 1) := bdX12_allStored_0.1
theorem dX12_allStored_1 : decode cX12_allStored 1 = .ok (.istore_n 1, 1) := bdX12_allStored_0.2.1
theorem dX12_allStored_2 : decode cX12_allStored 2 = .ok (.iconst 0, 1) := bdX12_allStored_0.2.2.1
theorem dX12_allStored_3 : decode cX12_allStored 3 = .ok (.istore_n 2, 1) := bdX12_allStored_0.2.2.2.1
theorem dX12_allStored_4 : decode cX12_allStored 4 = .ok (.iload_n 2, 1) := bdX12_allStored_0.2.2.2.2.1
theorem dX12_allStored_5 : decode cX12_allStored 5 = .ok (.aload_n 0, 1) := bdX12_allStored_0.2.2.2.2.2.1
theorem dX12_allStored_6 : decode cX12_allStored 6 = .ok (.getfield 35, 3) := bdX12_allStored_0.2.2.2.2.2.2.1
theorem dX12_allStored_9 : decode cX12_allStored 9 = .ok (.iconst 0, 1) := bdX12_allStored_0.2.2.2.2.2.2.2.1
theorem dX12_allStored_10 : decode cX12_allStored 10 = .ok (.iaload, 1) := bdX12_allStored_0.2.2.2.2.2.2.2.2.1
theorem dX12_allStored_11 : decode cX12_allStored 11 = .ok (.if_icmp .ge 18, 3) := bdX12_allStored_0.2.2.2.2.2.2.2.2.2
theorem bdX12_allStored_14 : (decode cX12_allStored 14 = .ok (.iload_n 1, 1)) ∧ (decode cX12_allStored 15 = .ok (.aload_n 0, 1)) ∧ (decode cX12_allStored 16 = .ok (.getfield 73, 3)) ∧ (decode cX12_allStored 19 = .ok (.iload_n 2, 1)) ∧ (decode cX12_allStored 20 = .ok (.iaload, 1)) ∧ (decode cX12_allStored 21 = .ok (.iadd, 1)) ∧ (decode cX12_allStored 22 = .ok (.istore_n 1, 1)) ∧ (decode cX12_allStored 23 = .ok (.iinc 2 1, 3)) ∧ (decode cX12_allStored 26 = .ok (.goto (-22), 3)) ∧ (decode cX12_allStored 29 = .ok (.iload_n 1, 1)) := by decide +kernel
theorem dX12_allStored_14 : decode cX12_allStored 14 = .ok (.iload_n 1, 1) := bdX12_allStored_14.1
theorem dX12_allStored_15 : decode cX12_allStored 15 = .ok (.aload_n 0, 1) := bdX12_allStored_14.2.1
theorem dX12_allStored_16 : decode cX12_allStored 16 = .ok (.getfield 73, 3) := bdX12_allStored_14.2.2.1
theorem dX12_allStored_19 : decode cX12_allStored 19 = .ok (.iload_n 2, 1) := bdX12_allStored_14.2.2.2.1
theorem dX12_allStored_20 : decode cX12_allStored 20 = .ok (.iaload, 1) := bdX12_allStored_14.2.2.2.2.1
theorem dX12_allStored_21 : decode cX12_allStored 21 = .ok (.iadd, 1) := bdX12_allStored_14.2.2.2.2.2.1
theorem dX12_allStored_22 : decode cX12_allStored 22 = .ok (.istore_n 1, 1) := bdX12_allStored_14.2.2.2.2.2.2.1
theorem dX12_allStored_23 : decode cX12_allStored 23 = .ok (.iinc 2 1, 3) := bdX12_allStored_14.2.2.2.2.2.2.2.1
theorem dX12_allStored_26 : decode cX12_allStored 26 = .ok (.goto (-22), 3) := bdX12_allStored_14.2.2.2.2.2.2.2.2.1
theorem dX12_allStored_29 : decode cX12_allStored 29 = .ok (.iload_n 1, 1) := bdX12_allStored_14.2.2.2.2.2.2.2.2.2
theorem bdX12_allStored_30 : (decode cX12_allStored 30 = .ok (.ireturn, 1)) := by decide +kernel
theorem dX12_allStored_30 : decode cX12_allStored 30 = .ok (.ireturn, 1) := bdX12_allStored_30
theorem bdX12_change_0 : (decode cX12_change 0 = .ok (.aload_n 0, 1)) ∧ (decode cX12_change 1 = .ok (.iconst 0, 1)) ∧ (decode cX12_change 2 = .ok (.putfield 140, 3)) ∧ (decode cX12_change 5 = .ok (.iload_n 1, 1)) ∧ (decode cX12_change 6 = .ok (.i2l, 1)) ∧ (decode cX12_change 7 = .ok (.lconst 1, 1)) ∧ (decode cX12_change 8 = .ok (.ldc2_w 413, 3)) ∧ (decode cX12_change 11 = .ok (.invokestatic 143, 3)) ∧ (decode cX12_change 14 = .ok (.ifCond .ne 9, 3)) ∧ (decode cX12_change 17 = .ok (.aload_n 0, 1)) := by decide +kernel
theorem dX12_change_0 : decode cX12_change 0 = .ok (.aload_n 0, 1) := bdX12_change_0.1
theorem dX12_change_1 : decode cX12_change 1 = .ok (.iconst 0, 1) := bdX12_change_0.2.1
theorem dX12_change_2 : decode cX12_change 2 = .ok (.putfield 140, 3) := bdX12_change_0.2.2.1
theorem dX12_change_5 : decode cX12_change 5 = .ok (.iload_n 1, 1) := bdX12_change_0.2.2.2.1
theorem dX12_change_6 : decode cX12_change 6 = .ok (.i2l, 1) := bdX12_change_0.2.2.2.2.1
theorem dX12_change_7 : decode cX12_change 7 = .ok (.lconst 1, 1) := bdX12_change_0.2.2.2.2.2.1
theorem dX12_change_8 : decode cX12_change 8 = .ok (.ldc2_w 413, 3) := bdX12_change_0.2.2.2.2.2.2.1
theorem dX12_change_11 : decode cX12_change 11 = .ok (.invokestatic 143, 3) := bdX12_change_0.2.2.2.2.2.2.2.1
theorem dX12_change_14 : decode cX12_change 14 = .ok (.ifCond .ne 9, 3) := bdX12_change_0.2.2.2.2.2.2.2.2.1
theorem dX12_change_17 : decode cX12_change 17 = .ok (.aload_n 0, 1) := bdX12_change_0.2.2.2.2.2.2.2.2.2
theorem bdX12_change_18 : (decode cX12_change 18 = .ok (.iconst 1, 1)) ∧ (decode cX12_change 19 = .ok (.invokevirtual 290, 3)) ∧ (decode cX12_change 22 = .ok (.ireturn, 1)) ∧ (decode cX12_change 23 = .ok (.aload_n 0, 1)) ∧ (decode cX12_change 24 = .ok (.aload_n 0, 1)) ∧ (decode cX12_change 25 = .ok (.getfield 104, 3)) ∧ (decode cX12_change 28 = .ok (.iconst 0, 1)) ∧ (decode cX12_change 29 = .ok (.invokevirtual 387, 3)) ∧ (decode cX12_change 32 = .ok (.aload_n 0, 1)) ∧ (decode cX12_change 33 = .ok (.iload_n 1, 1)) := by decide +kernel
theorem dX12_change_18 : decode cX12_change 18 = .ok (.iconst 1, 1) := bdX12_change_18.1
theorem dX12_change_19 : decode cX12_change 19 = .ok (.invokevirtual 290, 3) := bdX12_change_18.2.1
theorem dX12_change_22 : decode cX12_change 22 = .ok (.ireturn, 1) := bdX12_change_18.2.2.1
theorem dX12_change_23 : decode cX12_change 23 = .ok (.aload_n 0, 1) := bdX12_change_18.2.2.2.1
theorem dX12_change_24 : decode cX12_change 24 = .ok (.aload_n 0, 1) := bdX12_change_18.2.2.2.2.1
theorem dX12_change_25 : decode cX12_change 25 = .ok (.getfield 104, 3) := bdX12_change_18.2.2.2.2.2.1
theorem dX12_change_28 : decode cX12_change 28 = .ok (.iconst 0, 1) := bdX12_change_18.2.2.2.2.2.2.1
theorem dX12_change_29 : decode cX12_change 29 = .ok (.invokevirtual 387, 3) := bdX12_change_18.2.2.2.2.2.2.2.1
theorem dX12_change_32 : decode cX12_change 32 = .ok (.aload_n 0, 1) := bdX12_change_18.2.2.2.2.2.2.2.2.1
theorem dX12_change_33 : decode cX12_change 33 = .ok (.iload_n 1, 1) := bdX12_change_18.2.2.2.2.2.2.2.2.2
theorem bdX12_change_34 : (decode cX12_change 34 = .ok (.invokevirtual 417, 3)) ∧ (decode cX12_change 37 = .ok (.aload_n 0, 1)) ∧ (decode cX12_change 38 = .ok (.invokevirtual 467, 3)) ∧ (decode cX12_change 41 = .ok (.istore_n 2, 1)) ∧ (decode cX12_change 42 = .ok (.aload_n 0, 1)) ∧ (decode cX12_change 43 = .ok (.aload_n 0, 1)) ∧ (decode cX12_change 44 = .ok (.getfield 104, 3)) ∧ (decode cX12_change 47 = .ok (.iconst 0, 1)) ∧ (decode cX12_change 48 = .ok (.invokevirtual 420, 3)) ∧ (decode cX12_change 51 = .ok (.iconst (-1), 1)) := by decide +kernel
theorem dX12_change_34 : decode cX12_change 34 = .ok (.invokevirtual 417, 3) := bdX12_change_34.1
theorem dX12_change_37 : decode cX12_change 37 = .ok (.aload_n 0, 1) := bdX12_change_34.2.1
theorem dX12_change_38 : decode cX12_change 38 = .ok (.invokevirtual 467, 3) := bdX12_change_34.2.2.1
theorem dX12_change_41 : decode cX12_change 41 = .ok (.istore_n 2, 1) := bdX12_change_34.2.2.2.1
theorem dX12_change_42 : decode cX12_change 42 = .ok (.aload_n 0, 1) := bdX12_change_34.2.2.2.2.1
theorem dX12_change_43 : decode cX12_change 43 = .ok (.aload_n 0, 1) := bdX12_change_34.2.2.2.2.2.1
theorem dX12_change_44 : decode cX12_change 44 = .ok (.getfield 104, 3) := bdX12_change_34.2.2.2.2.2.2.1
theorem dX12_change_47 : decode cX12_change 47 = .ok (.iconst 0, 1) := bdX12_change_34.2.2.2.2.2.2.2.1
theorem dX12_change_48 : decode cX12_change 48 = .ok (.invokevirtual 420, 3) := bdX12_change_34.2.2.2.2.2.2.2.2.1
theorem dX12_change_51 : decode cX12_change 51 = .ok (.iconst (-1), 1) := bdX12_change_34.2.2.2.2.2.2.2.2.2
theorem bdX12_change_52 : (decode cX12_change 52 = .ok (.istore_n 3, 1)) ∧ (decode cX12_change 53 = .ok (.iconst 0, 1)) ∧ (decode cX12_change 54 = .ok (.istore 4, 2)) ∧ (decode cX12_change 56 = .ok (.iload 4, 2)) ∧ (decode cX12_change 58 = .ok (.aload_n 0, 1)) ∧ (decode cX12_change 59 = .ok (.getfield 35, 3)) ∧ (decode cX12_change 62 = .ok (.iconst 0, 1)) ∧ (decode cX12_change 63 = .ok (.iaload, 1)) ∧ (decode cX12_change 64 = .ok (.if_icmp .ge 61, 3)) ∧ (decode cX12_change 67 = .ok (.aload_n 0, 1)) := by decide +kernel
theorem dX12_change_52 : decode cX12_change 52 = .ok (.istore_n 3, 1) := bdX12_change_52.1
theorem dX12_change_53 : decode cX12_change 53 = .ok (.iconst 0, 1) := bdX12_change_52.2.1
theorem dX12_change_54 : decode cX12_change 54 = .ok (.istore 4, 2) := bdX12_change_52.2.2.1
theorem dX12_change_56 : decode cX12_change 56 = .ok (.iload 4, 2) := bdX12_change_52.2.2.2.1
theorem dX12_change_58 : decode cX12_change 58 = .ok (.aload_n 0, 1) := bdX12_change_52.2.2.2.2.1
theorem dX12_change_59 : decode cX12_change 59 = .ok (.getfield 35, 3) := bdX12_change_52.2.2.2.2.2.1
theorem dX12_change_62 : decode cX12_change 62 = .ok (.iconst 0, 1) := bdX12_change_52.2.2.2.2.2.2.1
theorem dX12_change_63 : decode cX12_change 63 = .ok (.iaload, 1) := bdX12_change_52.2.2.2.2.2.2.2.1
theorem dX12_change_64 : decode cX12_change 64 = .ok (.if_icmp .ge 61, 3) := bdX12_change_52.2.2.2.2.2.2.2.2.1
theorem dX12_change_67 : decode cX12_change 67 = .ok (.aload_n 0, 1) := bdX12_change_52.2.2.2.2.2.2.2.2.2
theorem bdX12_change_68 : (decode cX12_change 68 = .ok (.dup, 1)) ∧ (decode cX12_change 69 = .ok (.getfield 314, 3)) ∧ (decode cX12_change 72 = .ok (.iconst 1, 1)) ∧ (decode cX12_change 73 = .ok (.iload 4, 2)) ∧ (decode cX12_change 75 = .ok (.ishl, 1)) ∧ (decode cX12_change 76 = .ok (.ixor, 1)) ∧ (decode cX12_change 77 = .ok (.putfield 314, 3)) ∧ (decode cX12_change 80 = .ok (.aload_n 0, 1)) ∧ (decode cX12_change 81 = .ok (.invokevirtual 317, 3)) ∧ (decode cX12_change 84 = .ok (.aload_n 0, 1)) := by decide +kernel
theorem dX12_change_68 : decode cX12_change 68 = .ok (.dup, 1) := bdX12_change_68.1
theorem dX12_change_69 : decode cX12_change 69 = .ok (.getfield 314, 3) := bdX12_change_68.2.1
theorem dX12_change_72 : decode cX12_change 72 = .ok (.iconst 1, 1) := bdX12_change_68.2.2.1
theorem dX12_change_73 : decode cX12_change 73 = .ok (.iload 4, 2) := bdX12_change_68.2.2.2.1
theorem dX12_change_75 : decode cX12_change 75 = .ok (.ishl, 1) := bdX12_change_68.2.2.2.2.1
theorem dX12_change_76 : decode cX12_change 76 = .ok (.ixor, 1) := bdX12_change_68.2.2.2.2.2.1
theorem dX12_change_77 : decode cX12_change 77 = .ok (.putfield 314, 3) := bdX12_change_68.2.2.2.2.2.2.1
theorem dX12_change_80 : decode cX12_change 80 = .ok (.aload_n 0, 1) := bdX12_change_68.2.2.2.2.2.2.2.1
theorem dX12_change_81 : decode cX12_change 81 = .ok (.invokevirtual 317, 3) := bdX12_change_68.2.2.2.2.2.2.2.2.1
theorem dX12_change_84 : decode cX12_change 84 = .ok (.aload_n 0, 1) := bdX12_change_68.2.2.2.2.2.2.2.2.2
theorem bdX12_change_85 : (decode cX12_change 85 = .ok (.iload_n 1, 1)) ∧ (decode cX12_change 86 = .ok (.invokevirtual 417, 3)) ∧ (decode cX12_change 89 = .ok (.aload_n 0, 1)) ∧ (decode cX12_change 90 = .ok (.invokevirtual 467, 3)) ∧ (decode cX12_change 93 = .ok (.istore 5, 2)) ∧ (decode cX12_change 95 = .ok (.aload_n 0, 1)) ∧ (decode cX12_change 96 = .ok (.aload_n 0, 1)) ∧ (decode cX12_change 97 = .ok (.getfield 104, 3)) ∧ (decode cX12_change 100 = .ok (.iconst 0, 1)) ∧ (decode cX12_change 101 = .ok (.invokevirtual 420, 3)) := by decide +kernel
theorem dX12_change_85 : decode cX12_change 85 = .ok (.iload_n 1, 1) := bdX12_change_85.1
theorem dX12_change_86 : decode cX12_change 86 = .ok (.invokevirtual 417, 3) := bdX12_change_85.2.1
theorem dX12_change_89 : decode cX12_change 89 = .ok (.aload_n 0, 1) := bdX12_change_85.2.2.1
theorem dX12_change_90 : decode cX12_change 90 = .ok (.invokevirtual 467, 3) := bdX12_change_85.2.2.2.1
theorem dX12_change_93 : decode cX12_change 93 = .ok (.istore 5, 2) := bdX12_change_85.2.2.2.2.1
theorem dX12_change_95 : decode cX12_change 95 = .ok (.aload_n 0, 1) := bdX12_change_85.2.2.2.2.2.1
theorem dX12_change_96 : decode cX12_change 96 = .ok (.aload_n 0, 1) := bdX12_change_85.2.2.2.2.2.2.1
theorem dX12_change_97 : decode cX12_change 97 = .ok (.getfield 104, 3) := bdX12_change_85.2.2.2.2.2.2.2.1
theorem dX12_change_100 : decode cX12_change 100 = .ok (.iconst 0, 1) := bdX12_change_85.2.2.2.2.2.2.2.2.1
theorem dX12_change_101 : decode cX12_change 101 = .ok (.invokevirtual 420, 3) := bdX12_change_85.2.2.2.2.2.2.2.2.2
theorem bdX12_change_104 : (decode cX12_change 104 = .ok (.iload 5, 2)) ∧ (decode cX12_change 106 = .ok (.iload_n 2, 1)) ∧ (decode cX12_change 107 = .ok (.if_icmp .gt 6, 3)) ∧ (decode cX12_change 110 = .ok (.goto 9, 3)) ∧ (decode cX12_change 113 = .ok (.iload 4, 2)) ∧ (decode cX12_change 115 = .ok (.istore_n 3, 1)) ∧ (decode cX12_change 116 = .ok (.iload 5, 2)) ∧ (decode cX12_change 118 = .ok (.istore_n 2, 1)) ∧ (decode cX12_change 119 = .ok (.iinc 4 1, 3)) ∧ (decode cX12_change 122 = .ok (.goto (-66), 3)) := by decide +kernel
theorem dX12_change_104 : decode cX12_change 104 = .ok (.iload 5, 2) := bdX12_change_104.1
theorem dX12_change_106 : decode cX12_change 106 = .ok (.iload_n 2, 1) := bdX12_change_104.2.1
theorem dX12_change_107 : decode cX12_change 107 = .ok (.if_icmp .gt 6, 3) := bdX12_change_104.2.2.1
theorem dX12_change_110 : decode cX12_change 110 = .ok (.goto 9, 3) := bdX12_change_104.2.2.2.1
theorem dX12_change_113 : decode cX12_change 113 = .ok (.iload 4, 2) := bdX12_change_104.2.2.2.2.1
theorem dX12_change_115 : decode cX12_change 115 = .ok (.istore_n 3, 1) := bdX12_change_104.2.2.2.2.2.1
theorem dX12_change_116 : decode cX12_change 116 = .ok (.iload 5, 2) := bdX12_change_104.2.2.2.2.2.2.1
theorem dX12_change_118 : decode cX12_change 118 = .ok (.istore_n 2, 1) := bdX12_change_104.2.2.2.2.2.2.2.1
theorem dX12_change_119 : decode cX12_change 119 = .ok (.iinc 4 1, 3) := bdX12_change_104.2.2.2.2.2.2.2.2.1
theorem dX12_change_122 : decode cX12_change 122 = .ok (.goto (-66), 3) := bdX12_change_104.2.2.2.2.2.2.2.2.2
theorem bdX12_change_125 : (decode cX12_change 125 = .ok (.iload_n 3, 1)) ∧ (decode cX12_change 126 = .ok (.ireturn, 1)) := by decide +kernel
theorem dX12_change_125 : decode cX12_change 125 = .ok (.iload_n 3, 1) := bdX12_change_125.1
theorem dX12_change_126 : decode cX12_change 126 = .ok (.ireturn, 1) := bdX12_change_125.2
theorem bdX12_envied_0 : (decode cX12_envied 0 = .ok (.aload_n 0, 1)) ∧ (decode cX12_envied 1 = .ok (.iconst 0, 1)) ∧ (decode cX12_envied 2 = .ok (.putfield 140, 3)) ∧ (decode cX12_envied 5 = .ok (.iload_n 1, 1)) ∧ (decode cX12_envied 6 = .ok (.ifCond .lt 8, 3)) ∧ (decode cX12_envied 9 = .ok (.iload_n 1, 1)) ∧ (decode cX12_envied 10 = .ok (.iconst 1, 1)) ∧ (decode cX12_envied 11 = .ok (.if_icmp .le 9, 3)) ∧ (decode cX12_envied 14 = .ok (.aload_n 0, 1)) ∧ (decode cX12_envied 15 = .ok (.iconst 1, 1)) := by decide +kernel
theorem dX12_envied_0 : decode cX12_envied 0 = .ok (.aload_n 0, 1) := bdX12_envied_0.1
theorem dX12_envied_1 : decode cX12_envied 1 = .ok (.iconst 0, 1) := bdX12_envied_0.2.1
theorem dX12_envied_2 : decode cX12_envied 2 = .ok (.putfield 140, 3) := bdX12_envied_0.2.2.1
theorem dX12_envied_5 : decode cX12_envied 5 = .ok (.iload_n 1, 1) := bdX12_envied_0.2.2.2.1
theorem dX12_envied_6 : decode cX12_envied 6 = .ok (.ifCond .lt 8, 3) := bdX12_envied_0.2.2.2.2.1
theorem dX12_envied_9 : decode cX12_envied 9 = .ok (.iload_n 1, 1) := bdX12_envied_0.2.2.2.2.2.1
theorem dX12_envied_10 : decode cX12_envied 10 = .ok (.iconst 1, 1) := bdX12_envied_0.2.2.2.2.2.2.1
theorem dX12_envied_11 : decode cX12_envied 11 = .ok (.if_icmp .le 9, 3) := bdX12_envied_0.2.2.2.2.2.2.2.1
theorem dX12_envied_14 : decode cX12_envied 14 = .ok (.aload_n 0, 1) := bdX12_envied_0.2.2.2.2.2.2.2.2.1
theorem dX12_envied_15 : decode cX12_envied 15 = .ok (.iconst 1, 1) := bdX12_envied_0.2.2.2.2.2.2.2.2.2
theorem bdX12_envied_16 : (decode cX12_envied 16 = .ok (.invokevirtual 290, 3)) ∧ (decode cX12_envied 19 = .ok (.ireturn, 1)) ∧ (decode cX12_envied 20 = .ok (.iconst (-1), 1)) ∧ (decode cX12_envied 21 = .ok (.istore_n 2, 1)) ∧ (decode cX12_envied 22 = .ok (.iconst 0, 1)) ∧ (decode cX12_envied 23 = .ok (.istore_n 3, 1)) ∧ (decode cX12_envied 24 = .ok (.iconst 0, 1)) ∧ (decode cX12_envied 25 = .ok (.istore 4, 2)) ∧ (decode cX12_envied 27 = .ok (.iload 4, 2)) ∧ (decode cX12_envied 29 = .ok (.aload_n 0, 1)) := by decide +kernel
theorem dX12_envied_16 : decode cX12_envied 16 = .ok (.invokevirtual 290, 3) := bdX12_envied_16.1
theorem dX12_envied_19 : decode cX12_envied 19 = .ok (.ireturn, 1) := bdX12_envied_16.2.1
theorem dX12_envied_20 : decode cX12_envied 20 = .ok (.iconst (-1), 1) := bdX12_envied_16.2.2.1
theorem dX12_envied_21 : decode cX12_envied 21 = .ok (.istore_n 2, 1) := bdX12_envied_16.2.2.2.1
theorem dX12_envied_22 : decode cX12_envied 22 = .ok (.iconst 0, 1) := bdX12_envied_16.2.2.2.2.1
theorem dX12_envied_23 : decode cX12_envied 23 = .ok (.istore_n 3, 1) := bdX12_envied_16.2.2.2.2.2.1
theorem dX12_envied_24 : decode cX12_envied 24 = .ok (.iconst 0, 1) := bdX12_envied_16.2.2.2.2.2.2.1
theorem dX12_envied_25 : decode cX12_envied 25 = .ok (.istore 4, 2) := bdX12_envied_16.2.2.2.2.2.2.2.1
theorem dX12_envied_27 : decode cX12_envied 27 = .ok (.iload 4, 2) := bdX12_envied_16.2.2.2.2.2.2.2.2.1
theorem dX12_envied_29 : decode cX12_envied 29 = .ok (.aload_n 0, 1) := bdX12_envied_16.2.2.2.2.2.2.2.2.2
theorem bdX12_envied_30 : (decode cX12_envied 30 = .ok (.getfield 35, 3)) ∧ (decode cX12_envied 33 = .ok (.iconst 0, 1)) ∧ (decode cX12_envied 34 = .ok (.iaload, 1)) ∧ (decode cX12_envied 35 = .ok (.if_icmp .ge 63, 3)) ∧ (decode cX12_envied 38 = .ok (.iconst 0, 1)) ∧ (decode cX12_envied 39 = .ok (.istore 5, 2)) ∧ (decode cX12_envied 41 = .ok (.iconst 0, 1)) ∧ (decode cX12_envied 42 = .ok (.istore 6, 2)) ∧ (decode cX12_envied 44 = .ok (.iload 6, 2)) ∧ (decode cX12_envied 46 = .ok (.aload_n 0, 1)) := by decide +kernel
theorem dX12_envied_30 : decode cX12_envied 30 = .ok (.getfield 35, 3) := bdX12_envied_30.1
theorem dX12_envied_33 : decode cX12_envied 33 = .ok (.iconst 0, 1) := bdX12_envied_30.2.1
theorem dX12_envied_34 : decode cX12_envied 34 = .ok (.iaload, 1) := bdX12_envied_30.2.2.1
theorem dX12_envied_35 : decode cX12_envied 35 = .ok (.if_icmp .ge 63, 3) := bdX12_envied_30.2.2.2.1
theorem dX12_envied_38 : decode cX12_envied 38 = .ok (.iconst 0, 1) := bdX12_envied_30.2.2.2.2.1
theorem dX12_envied_39 : decode cX12_envied 39 = .ok (.istore 5, 2) := bdX12_envied_30.2.2.2.2.2.1
theorem dX12_envied_41 : decode cX12_envied 41 = .ok (.iconst 0, 1) := bdX12_envied_30.2.2.2.2.2.2.1
theorem dX12_envied_42 : decode cX12_envied 42 = .ok (.istore 6, 2) := bdX12_envied_30.2.2.2.2.2.2.2.1
theorem dX12_envied_44 : decode cX12_envied 44 = .ok (.iload 6, 2) := bdX12_envied_30.2.2.2.2.2.2.2.2.1
theorem dX12_envied_46 : decode cX12_envied 46 = .ok (.aload_n 0, 1) := bdX12_envied_30.2.2.2.2.2.2.2.2.2
theorem bdX12_envied_47 : (decode cX12_envied 47 = .ok (.getfield 35, 3)) ∧ (decode cX12_envied 50 = .ok (.iconst 0, 1)) ∧ (decode cX12_envied 51 = .ok (.iaload, 1)) ∧ (decode cX12_envied 52 = .ok (.if_icmp .ge 25, 3)) ∧ (decode cX12_envied 55 = .ok (.iload 5, 2)) ∧ (decode cX12_envied 57 = .ok (.aload_n 0, 1)) ∧ (decode cX12_envied 58 = .ok (.iload 6, 2)) ∧ (decode cX12_envied 60 = .ok (.invokevirtual 377, 3)) ∧ (decode cX12_envied 63 = .ok (.iload 4, 2)) ∧ (decode cX12_envied 65 = .ok (.ishr, 1)) := by decide +kernel
theorem dX12_envied_47 : decode cX12_envied 47 = .ok (.getfield 35, 3) := bdX12_envied_47.1
theorem dX12_envied_50 : decode cX12_envied 50 = .ok (.iconst 0, 1) := bdX12_envied_47.2.1
theorem dX12_envied_51 : decode cX12_envied 51 = .ok (.iaload, 1) := bdX12_envied_47.2.2.1
theorem dX12_envied_52 : decode cX12_envied 52 = .ok (.if_icmp .ge 25, 3) := bdX12_envied_47.2.2.2.1
theorem dX12_envied_55 : decode cX12_envied 55 = .ok (.iload 5, 2) := bdX12_envied_47.2.2.2.2.1
theorem dX12_envied_57 : decode cX12_envied 57 = .ok (.aload_n 0, 1) := bdX12_envied_47.2.2.2.2.2.1
theorem dX12_envied_58 : decode cX12_envied 58 = .ok (.iload 6, 2) := bdX12_envied_47.2.2.2.2.2.2.1
theorem dX12_envied_60 : decode cX12_envied 60 = .ok (.invokevirtual 377, 3) := bdX12_envied_47.2.2.2.2.2.2.2.1
theorem dX12_envied_63 : decode cX12_envied 63 = .ok (.iload 4, 2) := bdX12_envied_47.2.2.2.2.2.2.2.2.1
theorem dX12_envied_65 : decode cX12_envied 65 = .ok (.ishr, 1) := bdX12_envied_47.2.2.2.2.2.2.2.2.2
theorem bdX12_envied_66 : (decode cX12_envied 66 = .ok (.iconst 1, 1)) ∧ (decode cX12_envied 67 = .ok (.iand, 1)) ∧ (decode cX12_envied 68 = .ok (.iadd, 1)) ∧ (decode cX12_envied 69 = .ok (.istore 5, 2)) ∧ (decode cX12_envied 71 = .ok (.iinc 6 1, 3)) ∧ (decode cX12_envied 74 = .ok (.goto (-30), 3)) ∧ (decode cX12_envied 77 = .ok (.iload 5, 2)) ∧ (decode cX12_envied 79 = .ok (.iload_n 3, 1)) ∧ (decode cX12_envied 80 = .ok (.if_icmp .gt 6, 3)) ∧ (decode cX12_envied 83 = .ok (.goto 9, 3)) := by decide +kernel
theorem dX12_envied_66 : decode cX12_envied 66 = .ok (.iconst 1, 1) := bdX12_envied_66.1
theorem dX12_envied_67 : decode cX12_envied 67 = .ok (.iand, 1) := bdX12_envied_66.2.1
theorem dX12_envied_68 : decode cX12_envied 68 = .ok (.iadd, 1) := bdX12_envied_66.2.2.1
theorem dX12_envied_69 : decode cX12_envied 69 = .ok (.istore 5, 2) := bdX12_envied_66.2.2.2.1
theorem dX12_envied_71 : decode cX12_envied 71 = .ok (.iinc 6 1, 3) := bdX12_envied_66.2.2.2.2.1
theorem dX12_envied_74 : decode cX12_envied 74 = .ok (.goto (-30), 3) := bdX12_envied_66.2.2.2.2.2.1
theorem dX12_envied_77 : decode cX12_envied 77 = .ok (.iload 5, 2) := bdX12_envied_66.2.2.2.2.2.2.1
theorem dX12_envied_79 : decode cX12_envied 79 = .ok (.iload_n 3, 1) := bdX12_envied_66.2.2.2.2.2.2.2.1
theorem dX12_envied_80 : decode cX12_envied 80 = .ok (.if_icmp .gt 6, 3) := bdX12_envied_66.2.2.2.2.2.2.2.2.1
theorem dX12_envied_83 : decode cX12_envied 83 = .ok (.goto 9, 3) := bdX12_envied_66.2.2.2.2.2.2.2.2.2
theorem bdX12_envied_86 : (decode cX12_envied 86 = .ok (.iload 4, 2)) ∧ (decode cX12_envied 88 = .ok (.istore_n 2, 1)) ∧ (decode cX12_envied 89 = .ok (.iload 5, 2)) ∧ (decode cX12_envied 91 = .ok (.istore_n 3, 1)) ∧ (decode cX12_envied 92 = .ok (.iinc 4 1, 3)) ∧ (decode cX12_envied 95 = .ok (.goto (-68), 3)) ∧ (decode cX12_envied 98 = .ok (.iload_n 1, 1)) ∧ (decode cX12_envied 99 = .ok (.ifCond .ne 7, 3)) ∧ (decode cX12_envied 102 = .ok (.iload_n 2, 1)) ∧ (decode cX12_envied 103 = .ok (.goto 4, 3)) := by decide +kernel
theorem dX12_envied_86 : decode cX12_envied 86 = .ok (.iload 4, 2) := bdX12_envied_86.1
theorem dX12_envied_88 : decode cX12_envied 88 = .ok (.istore_n 2, 1) := bdX12_envied_86.2.1
theorem dX12_envied_89 : decode cX12_envied 89 = .ok (.iload 5, 2) := bdX12_envied_86.2.2.1
theorem dX12_envied_91 : decode cX12_envied 91 = .ok (.istore_n 3, 1) := bdX12_envied_86.2.2.2.1
theorem dX12_envied_92 : decode cX12_envied 92 = .ok (.iinc 4 1, 3) := bdX12_envied_86.2.2.2.2.1
theorem dX12_envied_95 : decode cX12_envied 95 = .ok (.goto (-68), 3) := bdX12_envied_86.2.2.2.2.2.1
theorem dX12_envied_98 : decode cX12_envied 98 = .ok (.iload_n 1, 1) := bdX12_envied_86.2.2.2.2.2.2.1
theorem dX12_envied_99 : decode cX12_envied 99 = .ok (.ifCond .ne 7, 3) := bdX12_envied_86.2.2.2.2.2.2.2.1
theorem dX12_envied_102 : decode cX12_envied 102 = .ok (.iload_n 2, 1) := bdX12_envied_86.2.2.2.2.2.2.2.2.1
theorem dX12_envied_103 : decode cX12_envied 103 = .ok (.goto 4, 3) := bdX12_envied_86.2.2.2.2.2.2.2.2.2
theorem bdX12_envied_106 : (decode cX12_envied 106 = .ok (.iload_n 3, 1)) ∧ (decode cX12_envied 107 = .ok (.ireturn, 1)) := by decide +kernel
theorem dX12_envied_106 : decode cX12_envied 106 = .ok (.iload_n 3, 1) := bdX12_envied_106.1
theorem dX12_envied_107 : decode cX12_envied 107 = .ok (.ireturn, 1) := bdX12_envied_106.2
theorem bdX12_without_0 : (decode cX12_without 0 = .ok (.aload_n 0, 1)) ∧ (decode cX12_without 1 = .ok (.iconst 0, 1)) ∧ (decode cX12_without 2 = .ok (.putfield 140, 3)) ∧ (decode cX12_without 5 = .ok (.aload_n 0, 1)) ∧ (decode cX12_without 6 = .ok (.iload_n 1, 1)) ∧ (decode cX12_without 7 = .ok (.invokevirtual 371, 3)) ∧ (decode cX12_without 10 = .ok (.ifCond .eq 11, 3)) ∧ (decode cX12_without 13 = .ok (.aload_n 0, 1)) ∧ (decode cX12_without 14 = .ok (.iload_n 2, 1)) ∧ (decode cX12_without 15 = .ok (.invokevirtual 371, 3)) := by decide +kernel
theorem dX12_without_0 : decode cX12_without 0 = .ok (.aload_n 0, 1) := bdX12_without_0.1
theorem dX12_without_1 : decode cX12_without 1 = .ok (.iconst 0, 1) := bdX12_without_0.2.1
theorem dX12_without_2 : decode cX12_without 2 = .ok (.putfield 140, 3) := bdX12_without_0.2.2.1
theorem dX12_without_5 : decode cX12_without 5 = .ok (.aload_n 0, 1) := bdX12_without_0.2.2.2.1
theorem dX12_without_6 : decode cX12_without 6 = .ok (.iload_n 1, 1) := bdX12_without_0.2.2.2.2.1
theorem dX12_without_7 : decode cX12_without 7 = .ok (.invokevirtual 371, 3) := bdX12_without_0.2.2.2.2.2.1
theorem dX12_without_10 : decode cX12_without 10 = .ok (.ifCond .eq 11, 3) := bdX12_without_0.2.2.2.2.2.2.1
theorem dX12_without_13 : decode cX12_without 13 = .ok (.aload_n 0, 1) := bdX12_without_0.2.2.2.2.2.2.2.1
theorem dX12_without_14 : decode cX12_without 14 = .ok (.iload_n 2, 1) := bdX12_without_0.2.2.2.2.2.2.2.2.1
theorem dX12_without_15 : decode cX12_without 15 = .ok (.invokevirtual 371, 3) := bdX12_without_0.2.2.2.2.2.2.2.2.2
theorem bdX12_without_18 : (decode cX12_without 18 = .ok (.ifCond .ne 9, 3)) ∧ (decode cX12_without 21 = .ok (.aload_n 0, 1)) ∧ (decode cX12_without 22 = .ok (.iconst 1, 1)) ∧ (decode cX12_without 23 = .ok (.invokevirtual 290, 3)) ∧ (decode cX12_without 26 = .ok (.ireturn, 1)) ∧ (decode cX12_without 27 = .ok (.iload_n 1, 1)) ∧ (decode cX12_without 28 = .ok (.iload_n 2, 1)) ∧ (decode cX12_without 29 = .ok (.if_icmp .ne 9, 3)) ∧ (decode cX12_without 32 = .ok (.aload_n 0, 1)) ∧ (decode cX12_without 33 = .ok (.iconst 2, 1)) := by decide +kernel
theorem dX12_without_18 : decode cX12_without 18 = .ok (.ifCond .ne 9, 3) := bdX12_without_18.1
theorem dX12_without_21 : decode cX12_without 21 = .ok (.aload_n 0, 1) := bdX12_without_18.2.1
theorem dX12_without_22 : decode cX12_without 22 = .ok (.iconst 1, 1) := bdX12_without_18.2.2.1
theorem dX12_without_23 : decode cX12_without 23 = .ok (.invokevirtual 290, 3) := bdX12_without_18.2.2.2.1
theorem dX12_without_26 : decode cX12_without 26 = .ok (.ireturn, 1) := bdX12_without_18.2.2.2.2.1
theorem dX12_without_27 : decode cX12_without 27 = .ok (.iload_n 1, 1) := bdX12_without_18.2.2.2.2.2.1
theorem dX12_without_28 : decode cX12_without 28 = .ok (.iload_n 2, 1) := bdX12_without_18.2.2.2.2.2.2.1
theorem dX12_without_29 : decode cX12_without 29 = .ok (.if_icmp .ne 9, 3) := bdX12_without_18.2.2.2.2.2.2.2.1
theorem dX12_without_32 : decode cX12_without 32 = .ok (.aload_n 0, 1) := bdX12_without_18.2.2.2.2.2.2.2.2.1
theorem dX12_without_33 : decode cX12_without 33 = .ok (.iconst 2, 1) := bdX12_without_18.2.2.2.2.2.2.2.2.2
theorem bdX12_without_34 : (decode cX12_without 34 = .ok (.invokevirtual 290, 3)) ∧ (decode cX12_without 37 = .ok (.ireturn, 1)) ∧ (decode cX12_without 38 = .ok (.aload_n 0, 1)) ∧ (decode cX12_without 39 = .ok (.aload_n 0, 1)) ∧ (decode cX12_without 40 = .ok (.getfield 104, 3)) ∧ (decode cX12_without 43 = .ok (.iconst 0, 1)) ∧ (decode cX12_without 44 = .ok (.invokevirtual 387, 3)) ∧ (decode cX12_without 47 = .ok (.aload_n 0, 1)) ∧ (decode cX12_without 48 = .ok (.iload_n 1, 1)) ∧ (decode cX12_without 49 = .ok (.putfield 91, 3)) := by decide +kernel
theorem dX12_without_34 : decode cX12_without 34 = .ok (.invokevirtual 290, 3) := bdX12_without_34.1
theorem dX12_without_37 : decode cX12_without 37 = .ok (.ireturn, 1) := bdX12_without_34.2.1
theorem dX12_without_38 : decode cX12_without 38 = .ok (.aload_n 0, 1) := bdX12_without_34.2.2.1
theorem dX12_without_39 : decode cX12_without 39 = .ok (.aload_n 0, 1) := bdX12_without_34.2.2.2.1
theorem dX12_without_40 : decode cX12_without 40 = .ok (.getfield 104, 3) := bdX12_without_34.2.2.2.2.1
theorem dX12_without_43 : decode cX12_without 43 = .ok (.iconst 0, 1) := bdX12_without_34.2.2.2.2.2.1
theorem dX12_without_44 : decode cX12_without 44 = .ok (.invokevirtual 387, 3) := bdX12_without_34.2.2.2.2.2.2.1
theorem dX12_without_47 : decode cX12_without 47 = .ok (.aload_n 0, 1) := bdX12_without_34.2.2.2.2.2.2.2.1
theorem dX12_without_48 : decode cX12_without 48 = .ok (.iload_n 1, 1) := bdX12_without_34.2.2.2.2.2.2.2.2.1
theorem dX12_without_49 : decode cX12_without 49 = .ok (.putfield 91, 3) := bdX12_without_34.2.2.2.2.2.2.2.2.2
theorem bdX12_without_52 : (decode cX12_without 52 = .ok (.aload_n 0, 1)) ∧ (decode cX12_without 53 = .ok (.invokevirtual 317, 3)) ∧ (decode cX12_without 56 = .ok (.aload_n 0, 1)) ∧ (decode cX12_without 57 = .ok (.iconst (-1), 1)) ∧ (decode cX12_without 58 = .ok (.putfield 91, 3)) ∧ (decode cX12_without 61 = .ok (.aload_n 0, 1)) ∧ (decode cX12_without 62 = .ok (.getfield 76, 3)) ∧ (decode cX12_without 65 = .ok (.iload_n 2, 1)) ∧ (decode cX12_without 66 = .ok (.iaload, 1)) ∧ (decode cX12_without 67 = .ok (.istore_n 3, 1)) := by decide +kernel
theorem dX12_without_52 : decode cX12_without 52 = .ok (.aload_n 0, 1) := bdX12_without_52.1
theorem dX12_without_53 : decode cX12_without 53 = .ok (.invokevirtual 317, 3) := bdX12_without_52.2.1
theorem dX12_without_56 : decode cX12_without 56 = .ok (.aload_n 0, 1) := bdX12_without_52.2.2.1
theorem dX12_without_57 : decode cX12_without 57 = .ok (.iconst (-1), 1) := bdX12_without_52.2.2.2.1
theorem dX12_without_58 : decode cX12_without 58 = .ok (.putfield 91, 3) := bdX12_without_52.2.2.2.2.1
theorem dX12_without_61 : decode cX12_without 61 = .ok (.aload_n 0, 1) := bdX12_without_52.2.2.2.2.2.1
theorem dX12_without_62 : decode cX12_without 62 = .ok (.getfield 76, 3) := bdX12_without_52.2.2.2.2.2.2.1
theorem dX12_without_65 : decode cX12_without 65 = .ok (.iload_n 2, 1) := bdX12_without_52.2.2.2.2.2.2.2.1
theorem dX12_without_66 : decode cX12_without 66 = .ok (.iaload, 1) := bdX12_without_52.2.2.2.2.2.2.2.2.1
theorem dX12_without_67 : decode cX12_without 67 = .ok (.istore_n 3, 1) := bdX12_without_52.2.2.2.2.2.2.2.2.2
theorem bdX12_without_68 : (decode cX12_without 68 = .ok (.aload_n 0, 1)) ∧ (decode cX12_without 69 = .ok (.aload_n 0, 1)) ∧ (decode cX12_without 70 = .ok (.getfield 104, 3)) ∧ (decode cX12_without 73 = .ok (.iconst 0, 1)) ∧ (decode cX12_without 74 = .ok (.invokevirtual 420, 3)) ∧ (decode cX12_without 77 = .ok (.iload_n 3, 1)) ∧ (decode cX12_without 78 = .ok (.ireturn, 1)) := by decide +kernel
theorem dX12_without_68 : decode cX12_without 68 = .ok (.aload_n 0, 1) := bdX12_without_68.1
theorem dX12_without_69 : decode cX12_without 69 = .ok (.aload_n 0, 1) := bdX12_without_68.2.1
theorem dX12_without_70 : decode cX12_without 70 = .ok (.getfield 104, 3) := bdX12_without_68.2.2.1
theorem dX12_without_73 : decode cX12_without 73 = .ok (.iconst 0, 1) := bdX12_without_68.2.2.2.1
theorem dX12_without_74 : decode cX12_without 74 = .ok (.invokevirtual 420, 3) := bdX12_without_68.2.2.2.2.1
theorem dX12_without_77 : decode cX12_without 77 = .ok (.iload_n 3, 1) := bdX12_without_68.2.2.2.2.2.1
theorem dX12_without_78 : decode cX12_without 78 = .ok (.ireturn, 1) := bdX12_without_68.2.2.2.2.2.2
theorem bdX12_lastPlace_0 : (decode cX12_lastPlace 0 = .ok (.aload_n 0, 1)) ∧ (decode cX12_lastPlace 1 = .ok (.iconst 0, 1)) ∧ (decode cX12_lastPlace 2 = .ok (.putfield 140, 3)) ∧ (decode cX12_lastPlace 5 = .ok (.aload_n 0, 1)) ∧ (decode cX12_lastPlace 6 = .ok (.iload_n 1, 1)) ∧ (decode cX12_lastPlace 7 = .ok (.invokevirtual 371, 3)) ∧ (decode cX12_lastPlace 10 = .ok (.ifCond .ne 9, 3)) ∧ (decode cX12_lastPlace 13 = .ok (.aload_n 0, 1)) ∧ (decode cX12_lastPlace 14 = .ok (.iconst 1, 1)) ∧ (decode cX12_lastPlace 15 = .ok (.invokevirtual 290, 3)) := by decide +kernel
theorem dX12_lastPlace_0 : decode cX12_lastPlace 0 = .ok (.aload_n 0, 1) := bdX12_lastPlace_0.1
theorem dX12_lastPlace_1 : decode cX12_lastPlace 1 = .ok (.iconst 0, 1) := bdX12_lastPlace_0.2.1
theorem dX12_lastPlace_2 : decode cX12_lastPlace 2 = .ok (.putfield 140, 3) := bdX12_lastPlace_0.2.2.1
theorem dX12_lastPlace_5 : decode cX12_lastPlace 5 = .ok (.aload_n 0, 1) := bdX12_lastPlace_0.2.2.2.1
theorem dX12_lastPlace_6 : decode cX12_lastPlace 6 = .ok (.iload_n 1, 1) := bdX12_lastPlace_0.2.2.2.2.1
theorem dX12_lastPlace_7 : decode cX12_lastPlace 7 = .ok (.invokevirtual 371, 3) := bdX12_lastPlace_0.2.2.2.2.2.1
theorem dX12_lastPlace_10 : decode cX12_lastPlace 10 = .ok (.ifCond .ne 9, 3) := bdX12_lastPlace_0.2.2.2.2.2.2.1
theorem dX12_lastPlace_13 : decode cX12_lastPlace 13 = .ok (.aload_n 0, 1) := bdX12_lastPlace_0.2.2.2.2.2.2.2.1
theorem dX12_lastPlace_14 : decode cX12_lastPlace 14 = .ok (.iconst 1, 1) := bdX12_lastPlace_0.2.2.2.2.2.2.2.2.1
theorem dX12_lastPlace_15 : decode cX12_lastPlace 15 = .ok (.invokevirtual 290, 3) := bdX12_lastPlace_0.2.2.2.2.2.2.2.2.2
theorem bdX12_lastPlace_18 : (decode cX12_lastPlace 18 = .ok (.ireturn, 1)) ∧ (decode cX12_lastPlace 19 = .ok (.aload_n 0, 1)) ∧ (decode cX12_lastPlace 20 = .ok (.aload_n 0, 1)) ∧ (decode cX12_lastPlace 21 = .ok (.getfield 104, 3)) ∧ (decode cX12_lastPlace 24 = .ok (.iconst 0, 1)) ∧ (decode cX12_lastPlace 25 = .ok (.invokevirtual 387, 3)) ∧ (decode cX12_lastPlace 28 = .ok (.aload_n 0, 1)) ∧ (decode cX12_lastPlace 29 = .ok (.getfield 76, 3)) ∧ (decode cX12_lastPlace 32 = .ok (.iload_n 1, 1)) ∧ (decode cX12_lastPlace 33 = .ok (.iaload, 1)) := by decide +kernel
theorem dX12_lastPlace_18 : decode cX12_lastPlace 18 = .ok (.ireturn, 1) := bdX12_lastPlace_18.1
theorem dX12_lastPlace_19 : decode cX12_lastPlace 19 = .ok (.aload_n 0, 1) := bdX12_lastPlace_18.2.1
theorem dX12_lastPlace_20 : decode cX12_lastPlace 20 = .ok (.aload_n 0, 1) := bdX12_lastPlace_18.2.2.1
theorem dX12_lastPlace_21 : decode cX12_lastPlace 21 = .ok (.getfield 104, 3) := bdX12_lastPlace_18.2.2.2.1
theorem dX12_lastPlace_24 : decode cX12_lastPlace 24 = .ok (.iconst 0, 1) := bdX12_lastPlace_18.2.2.2.2.1
theorem dX12_lastPlace_25 : decode cX12_lastPlace 25 = .ok (.invokevirtual 387, 3) := bdX12_lastPlace_18.2.2.2.2.2.1
theorem dX12_lastPlace_28 : decode cX12_lastPlace 28 = .ok (.aload_n 0, 1) := bdX12_lastPlace_18.2.2.2.2.2.2.1
theorem dX12_lastPlace_29 : decode cX12_lastPlace 29 = .ok (.getfield 76, 3) := bdX12_lastPlace_18.2.2.2.2.2.2.2.1
theorem dX12_lastPlace_32 : decode cX12_lastPlace 32 = .ok (.iload_n 1, 1) := bdX12_lastPlace_18.2.2.2.2.2.2.2.2.1
theorem dX12_lastPlace_33 : decode cX12_lastPlace 33 = .ok (.iaload, 1) := bdX12_lastPlace_18.2.2.2.2.2.2.2.2.2
theorem bdX12_lastPlace_34 : (decode cX12_lastPlace 34 = .ok (.istore_n 2, 1)) ∧ (decode cX12_lastPlace 35 = .ok (.iconst (-1), 1)) ∧ (decode cX12_lastPlace 36 = .ok (.istore_n 3, 1)) ∧ (decode cX12_lastPlace 37 = .ok (.iconst 0, 1)) ∧ (decode cX12_lastPlace 38 = .ok (.istore 4, 2)) ∧ (decode cX12_lastPlace 40 = .ok (.iload 4, 2)) ∧ (decode cX12_lastPlace 42 = .ok (.aload_n 0, 1)) ∧ (decode cX12_lastPlace 43 = .ok (.getfield 35, 3)) ∧ (decode cX12_lastPlace 46 = .ok (.iconst 0, 1)) ∧ (decode cX12_lastPlace 47 = .ok (.iaload, 1)) := by decide +kernel
theorem dX12_lastPlace_34 : decode cX12_lastPlace 34 = .ok (.istore_n 2, 1) := bdX12_lastPlace_34.1
theorem dX12_lastPlace_35 : decode cX12_lastPlace 35 = .ok (.iconst (-1), 1) := bdX12_lastPlace_34.2.1
theorem dX12_lastPlace_36 : decode cX12_lastPlace 36 = .ok (.istore_n 3, 1) := bdX12_lastPlace_34.2.2.1
theorem dX12_lastPlace_37 : decode cX12_lastPlace 37 = .ok (.iconst 0, 1) := bdX12_lastPlace_34.2.2.2.1
theorem dX12_lastPlace_38 : decode cX12_lastPlace 38 = .ok (.istore 4, 2) := bdX12_lastPlace_34.2.2.2.2.1
theorem dX12_lastPlace_40 : decode cX12_lastPlace 40 = .ok (.iload 4, 2) := bdX12_lastPlace_34.2.2.2.2.2.1
theorem dX12_lastPlace_42 : decode cX12_lastPlace 42 = .ok (.aload_n 0, 1) := bdX12_lastPlace_34.2.2.2.2.2.2.1
theorem dX12_lastPlace_43 : decode cX12_lastPlace 43 = .ok (.getfield 35, 3) := bdX12_lastPlace_34.2.2.2.2.2.2.2.1
theorem dX12_lastPlace_46 : decode cX12_lastPlace 46 = .ok (.iconst 0, 1) := bdX12_lastPlace_34.2.2.2.2.2.2.2.2.1
theorem dX12_lastPlace_47 : decode cX12_lastPlace 47 = .ok (.iaload, 1) := bdX12_lastPlace_34.2.2.2.2.2.2.2.2.2
theorem bdX12_lastPlace_48 : (decode cX12_lastPlace 48 = .ok (.if_icmp .ge 64, 3)) ∧ (decode cX12_lastPlace 51 = .ok (.aload_n 0, 1)) ∧ (decode cX12_lastPlace 52 = .ok (.iload_n 1, 1)) ∧ (decode cX12_lastPlace 53 = .ok (.iload 4, 2)) ∧ (decode cX12_lastPlace 55 = .ok (.invokevirtual 407, 3)) ∧ (decode cX12_lastPlace 58 = .ok (.pop, 1)) ∧ (decode cX12_lastPlace 59 = .ok (.iload_n 2, 1)) ∧ (decode cX12_lastPlace 60 = .ok (.iconst (-1), 1)) ∧ (decode cX12_lastPlace 61 = .ok (.if_icmp .eq 33, 3)) ∧ (decode cX12_lastPlace 64 = .ok (.aload_n 0, 1)) := by decide +kernel
theorem dX12_lastPlace_48 : decode cX12_lastPlace 48 = .ok (.if_icmp .ge 64, 3) := bdX12_lastPlace_48.1
theorem dX12_lastPlace_51 : decode cX12_lastPlace 51 = .ok (.aload_n 0, 1) := bdX12_lastPlace_48.2.1
theorem dX12_lastPlace_52 : decode cX12_lastPlace 52 = .ok (.iload_n 1, 1) := bdX12_lastPlace_48.2.2.1
theorem dX12_lastPlace_53 : decode cX12_lastPlace 53 = .ok (.iload 4, 2) := bdX12_lastPlace_48.2.2.2.1
theorem dX12_lastPlace_55 : decode cX12_lastPlace 55 = .ok (.invokevirtual 407, 3) := bdX12_lastPlace_48.2.2.2.2.1
theorem dX12_lastPlace_58 : decode cX12_lastPlace 58 = .ok (.pop, 1) := bdX12_lastPlace_48.2.2.2.2.2.1
theorem dX12_lastPlace_59 : decode cX12_lastPlace 59 = .ok (.iload_n 2, 1) := bdX12_lastPlace_48.2.2.2.2.2.2.1
theorem dX12_lastPlace_60 : decode cX12_lastPlace 60 = .ok (.iconst (-1), 1) := bdX12_lastPlace_48.2.2.2.2.2.2.2.1
theorem dX12_lastPlace_61 : decode cX12_lastPlace 61 = .ok (.if_icmp .eq 33, 3) := bdX12_lastPlace_48.2.2.2.2.2.2.2.2.1
theorem dX12_lastPlace_64 : decode cX12_lastPlace 64 = .ok (.aload_n 0, 1) := bdX12_lastPlace_48.2.2.2.2.2.2.2.2.2
theorem bdX12_lastPlace_65 : (decode cX12_lastPlace 65 = .ok (.getfield 76, 3)) ∧ (decode cX12_lastPlace 68 = .ok (.iload_n 1, 1)) ∧ (decode cX12_lastPlace 69 = .ok (.iaload, 1)) ∧ (decode cX12_lastPlace 70 = .ok (.iconst (-1), 1)) ∧ (decode cX12_lastPlace 71 = .ok (.if_icmp .eq 26, 3)) ∧ (decode cX12_lastPlace 74 = .ok (.aload_n 0, 1)) ∧ (decode cX12_lastPlace 75 = .ok (.iload_n 1, 1)) ∧ (decode cX12_lastPlace 76 = .ok (.aload_n 0, 1)) ∧ (decode cX12_lastPlace 77 = .ok (.getfield 76, 3)) ∧ (decode cX12_lastPlace 80 = .ok (.iload_n 1, 1)) := by decide +kernel
theorem dX12_lastPlace_65 : decode cX12_lastPlace 65 = .ok (.getfield 76, 3) := bdX12_lastPlace_65.1
theorem dX12_lastPlace_68 : decode cX12_lastPlace 68 = .ok (.iload_n 1, 1) := bdX12_lastPlace_65.2.1
theorem dX12_lastPlace_69 : decode cX12_lastPlace 69 = .ok (.iaload, 1) := bdX12_lastPlace_65.2.2.1
theorem dX12_lastPlace_70 : decode cX12_lastPlace 70 = .ok (.iconst (-1), 1) := bdX12_lastPlace_65.2.2.2.1
theorem dX12_lastPlace_71 : decode cX12_lastPlace 71 = .ok (.if_icmp .eq 26, 3) := bdX12_lastPlace_65.2.2.2.2.1
theorem dX12_lastPlace_74 : decode cX12_lastPlace 74 = .ok (.aload_n 0, 1) := bdX12_lastPlace_65.2.2.2.2.2.1
theorem dX12_lastPlace_75 : decode cX12_lastPlace 75 = .ok (.iload_n 1, 1) := bdX12_lastPlace_65.2.2.2.2.2.2.1
theorem dX12_lastPlace_76 : decode cX12_lastPlace 76 = .ok (.aload_n 0, 1) := bdX12_lastPlace_65.2.2.2.2.2.2.2.1
theorem dX12_lastPlace_77 : decode cX12_lastPlace 77 = .ok (.getfield 76, 3) := bdX12_lastPlace_65.2.2.2.2.2.2.2.2.1
theorem dX12_lastPlace_80 : decode cX12_lastPlace 80 = .ok (.iload_n 1, 1) := bdX12_lastPlace_65.2.2.2.2.2.2.2.2.2
theorem bdX12_lastPlace_81 : (decode cX12_lastPlace 81 = .ok (.iaload, 1)) ∧ (decode cX12_lastPlace 82 = .ok (.invokevirtual 362, 3)) ∧ (decode cX12_lastPlace 85 = .ok (.aload_n 0, 1)) ∧ (decode cX12_lastPlace 86 = .ok (.iload_n 1, 1)) ∧ (decode cX12_lastPlace 87 = .ok (.iload_n 2, 1)) ∧ (decode cX12_lastPlace 88 = .ok (.invokevirtual 362, 3)) ∧ (decode cX12_lastPlace 91 = .ok (.if_icmp .lt 6, 3)) ∧ (decode cX12_lastPlace 94 = .ok (.iload 4, 2)) ∧ (decode cX12_lastPlace 96 = .ok (.istore_n 3, 1)) ∧ (decode cX12_lastPlace 97 = .ok (.aload_n 0, 1)) := by decide +kernel
theorem dX12_lastPlace_81 : decode cX12_lastPlace 81 = .ok (.iaload, 1) := bdX12_lastPlace_81.1
theorem dX12_lastPlace_82 : decode cX12_lastPlace 82 = .ok (.invokevirtual 362, 3) := bdX12_lastPlace_81.2.1
theorem dX12_lastPlace_85 : decode cX12_lastPlace 85 = .ok (.aload_n 0, 1) := bdX12_lastPlace_81.2.2.1
theorem dX12_lastPlace_86 : decode cX12_lastPlace 86 = .ok (.iload_n 1, 1) := bdX12_lastPlace_81.2.2.2.1
theorem dX12_lastPlace_87 : decode cX12_lastPlace 87 = .ok (.iload_n 2, 1) := bdX12_lastPlace_81.2.2.2.2.1
theorem dX12_lastPlace_88 : decode cX12_lastPlace 88 = .ok (.invokevirtual 362, 3) := bdX12_lastPlace_81.2.2.2.2.2.1
theorem dX12_lastPlace_91 : decode cX12_lastPlace 91 = .ok (.if_icmp .lt 6, 3) := bdX12_lastPlace_81.2.2.2.2.2.2.1
theorem dX12_lastPlace_94 : decode cX12_lastPlace 94 = .ok (.iload 4, 2) := bdX12_lastPlace_81.2.2.2.2.2.2.2.1
theorem dX12_lastPlace_96 : decode cX12_lastPlace 96 = .ok (.istore_n 3, 1) := bdX12_lastPlace_81.2.2.2.2.2.2.2.2.1
theorem dX12_lastPlace_97 : decode cX12_lastPlace 97 = .ok (.aload_n 0, 1) := bdX12_lastPlace_81.2.2.2.2.2.2.2.2.2
theorem bdX12_lastPlace_98 : (decode cX12_lastPlace 98 = .ok (.aload_n 0, 1)) ∧ (decode cX12_lastPlace 99 = .ok (.getfield 104, 3)) ∧ (decode cX12_lastPlace 102 = .ok (.iconst 0, 1)) ∧ (decode cX12_lastPlace 103 = .ok (.invokevirtual 420, 3)) ∧ (decode cX12_lastPlace 106 = .ok (.iinc 4 1, 3)) ∧ (decode cX12_lastPlace 109 = .ok (.goto (-69), 3)) ∧ (decode cX12_lastPlace 112 = .ok (.iload_n 3, 1)) ∧ (decode cX12_lastPlace 113 = .ok (.ireturn, 1)) := by decide +kernel
theorem dX12_lastPlace_98 : decode cX12_lastPlace 98 = .ok (.aload_n 0, 1) := bdX12_lastPlace_98.1
theorem dX12_lastPlace_99 : decode cX12_lastPlace 99 = .ok (.getfield 104, 3) := bdX12_lastPlace_98.2.1
theorem dX12_lastPlace_102 : decode cX12_lastPlace 102 = .ok (.iconst 0, 1) := bdX12_lastPlace_98.2.2.1
theorem dX12_lastPlace_103 : decode cX12_lastPlace 103 = .ok (.invokevirtual 420, 3) := bdX12_lastPlace_98.2.2.2.1
theorem dX12_lastPlace_106 : decode cX12_lastPlace 106 = .ok (.iinc 4 1, 3) := bdX12_lastPlace_98.2.2.2.2.1
theorem dX12_lastPlace_109 : decode cX12_lastPlace 109 = .ok (.goto (-69), 3) := bdX12_lastPlace_98.2.2.2.2.2.1
theorem dX12_lastPlace_112 : decode cX12_lastPlace 112 = .ok (.iload_n 3, 1) := bdX12_lastPlace_98.2.2.2.2.2.2.1
theorem dX12_lastPlace_113 : decode cX12_lastPlace 113 = .ok (.ireturn, 1) := bdX12_lastPlace_98.2.2.2.2.2.2.2
theorem bdX12_famine_0 : (decode cX12_famine 0 = .ok (.aload_n 0, 1)) ∧ (decode cX12_famine 1 = .ok (.iconst 0, 1)) ∧ (decode cX12_famine 2 = .ok (.putfield 140, 3)) ∧ (decode cX12_famine 5 = .ok (.iload_n 1, 1)) ∧ (decode cX12_famine 6 = .ok (.i2l, 1)) ∧ (decode cX12_famine 7 = .ok (.lconst 0, 1)) ∧ (decode cX12_famine 8 = .ok (.ldc2_w 460, 3)) ∧ (decode cX12_famine 11 = .ok (.invokestatic 143, 3)) ∧ (decode cX12_famine 14 = .ok (.ifCond .ne 9, 3)) ∧ (decode cX12_famine 17 = .ok (.aload_n 0, 1)) := by decide +kernel
theorem dX12_famine_0 : decode cX12_famine 0 = .ok (.aload_n 0, 1) := bdX12_famine_0.1
theorem dX12_famine_1 : decode cX12_famine 1 = .ok (.iconst 0, 1) := bdX12_famine_0.2.1
theorem dX12_famine_2 : decode cX12_famine 2 = .ok (.putfield 140, 3) := bdX12_famine_0.2.2.1
theorem dX12_famine_5 : decode cX12_famine 5 = .ok (.iload_n 1, 1) := bdX12_famine_0.2.2.2.1
theorem dX12_famine_6 : decode cX12_famine 6 = .ok (.i2l, 1) := bdX12_famine_0.2.2.2.2.1
theorem dX12_famine_7 : decode cX12_famine 7 = .ok (.lconst 0, 1) := bdX12_famine_0.2.2.2.2.2.1
theorem dX12_famine_8 : decode cX12_famine 8 = .ok (.ldc2_w 460, 3) := bdX12_famine_0.2.2.2.2.2.2.1
theorem dX12_famine_11 : decode cX12_famine 11 = .ok (.invokestatic 143, 3) := bdX12_famine_0.2.2.2.2.2.2.2.1
theorem dX12_famine_14 : decode cX12_famine 14 = .ok (.ifCond .ne 9, 3) := bdX12_famine_0.2.2.2.2.2.2.2.2.1
theorem dX12_famine_17 : decode cX12_famine 17 = .ok (.aload_n 0, 1) := bdX12_famine_0.2.2.2.2.2.2.2.2.2
theorem bdX12_famine_18 : (decode cX12_famine 18 = .ok (.iconst 1, 1)) ∧ (decode cX12_famine 19 = .ok (.invokevirtual 290, 3)) ∧ (decode cX12_famine 22 = .ok (.ireturn, 1)) ∧ (decode cX12_famine 23 = .ok (.aload_n 0, 1)) ∧ (decode cX12_famine 24 = .ok (.aload_n 0, 1)) ∧ (decode cX12_famine 25 = .ok (.getfield 104, 3)) ∧ (decode cX12_famine 28 = .ok (.iconst 0, 1)) ∧ (decode cX12_famine 29 = .ok (.invokevirtual 387, 3)) ∧ (decode cX12_famine 32 = .ok (.aload_n 0, 1)) ∧ (decode cX12_famine 33 = .ok (.iload_n 1, 1)) := by decide +kernel
theorem dX12_famine_18 : decode cX12_famine 18 = .ok (.iconst 1, 1) := bdX12_famine_18.1
theorem dX12_famine_19 : decode cX12_famine 19 = .ok (.invokevirtual 290, 3) := bdX12_famine_18.2.1
theorem dX12_famine_22 : decode cX12_famine 22 = .ok (.ireturn, 1) := bdX12_famine_18.2.2.1
theorem dX12_famine_23 : decode cX12_famine 23 = .ok (.aload_n 0, 1) := bdX12_famine_18.2.2.2.1
theorem dX12_famine_24 : decode cX12_famine 24 = .ok (.aload_n 0, 1) := bdX12_famine_18.2.2.2.2.1
theorem dX12_famine_25 : decode cX12_famine 25 = .ok (.getfield 104, 3) := bdX12_famine_18.2.2.2.2.2.1
theorem dX12_famine_28 : decode cX12_famine 28 = .ok (.iconst 0, 1) := bdX12_famine_18.2.2.2.2.2.2.1
theorem dX12_famine_29 : decode cX12_famine 29 = .ok (.invokevirtual 387, 3) := bdX12_famine_18.2.2.2.2.2.2.2.1
theorem dX12_famine_32 : decode cX12_famine 32 = .ok (.aload_n 0, 1) := bdX12_famine_18.2.2.2.2.2.2.2.2.1
theorem dX12_famine_33 : decode cX12_famine 33 = .ok (.iload_n 1, 1) := bdX12_famine_18.2.2.2.2.2.2.2.2.2
theorem bdX12_famine_34 : (decode cX12_famine 34 = .ok (.invokevirtual 417, 3)) ∧ (decode cX12_famine 37 = .ok (.aload_n 0, 1)) ∧ (decode cX12_famine 38 = .ok (.getfield 305, 3)) ∧ (decode cX12_famine 41 = .ok (.invokestatic 431, 3)) ∧ (decode cX12_famine 44 = .ok (.istore_n 2, 1)) ∧ (decode cX12_famine 45 = .ok (.aload_n 0, 1)) ∧ (decode cX12_famine 46 = .ok (.aload_n 0, 1)) ∧ (decode cX12_famine 47 = .ok (.getfield 104, 3)) ∧ (decode cX12_famine 50 = .ok (.iconst 0, 1)) ∧ (decode cX12_famine 51 = .ok (.invokevirtual 420, 3)) := by decide +kernel
theorem dX12_famine_34 : decode cX12_famine 34 = .ok (.invokevirtual 417, 3) := bdX12_famine_34.1
theorem dX12_famine_37 : decode cX12_famine 37 = .ok (.aload_n 0, 1) := bdX12_famine_34.2.1
theorem dX12_famine_38 : decode cX12_famine 38 = .ok (.getfield 305, 3) := bdX12_famine_34.2.2.1
theorem dX12_famine_41 : decode cX12_famine 41 = .ok (.invokestatic 431, 3) := bdX12_famine_34.2.2.2.1
theorem dX12_famine_44 : decode cX12_famine 44 = .ok (.istore_n 2, 1) := bdX12_famine_34.2.2.2.2.1
theorem dX12_famine_45 : decode cX12_famine 45 = .ok (.aload_n 0, 1) := bdX12_famine_34.2.2.2.2.2.1
theorem dX12_famine_46 : decode cX12_famine 46 = .ok (.aload_n 0, 1) := bdX12_famine_34.2.2.2.2.2.2.1
theorem dX12_famine_47 : decode cX12_famine 47 = .ok (.getfield 104, 3) := bdX12_famine_34.2.2.2.2.2.2.2.1
theorem dX12_famine_50 : decode cX12_famine 50 = .ok (.iconst 0, 1) := bdX12_famine_34.2.2.2.2.2.2.2.2.1
theorem dX12_famine_51 : decode cX12_famine 51 = .ok (.invokevirtual 420, 3) := bdX12_famine_34.2.2.2.2.2.2.2.2.2
theorem bdX12_famine_54 : (decode cX12_famine 54 = .ok (.iload_n 2, 1)) ∧ (decode cX12_famine 55 = .ok (.ireturn, 1)) := by decide +kernel
theorem dX12_famine_54 : decode cX12_famine 54 = .ok (.iload_n 2, 1) := bdX12_famine_54.1
theorem dX12_famine_55 : decode cX12_famine 55 = .ok (.ireturn, 1) := bdX12_famine_54.2
theorem bdX12_bushels_0 : (decode cX12_bushels 0 = .ok (.aload_n 0, 1)) ∧ (decode cX12_bushels 1 = .ok (.iconst 0, 1)) ∧ (decode cX12_bushels 2 = .ok (.putfield 140, 3)) ∧ (decode cX12_bushels 5 = .ok (.aload_n 0, 1)) ∧ (decode cX12_bushels 6 = .ok (.iload_n 1, 1)) ∧ (decode cX12_bushels 7 = .ok (.invokevirtual 371, 3)) ∧ (decode cX12_bushels 10 = .ok (.ifCond .ne 9, 3)) ∧ (decode cX12_bushels 13 = .ok (.aload_n 0, 1)) ∧ (decode cX12_bushels 14 = .ok (.iconst 1, 1)) ∧ (decode cX12_bushels 15 = .ok (.invokevirtual 290, 3)) := by decide +kernel
theorem dX12_bushels_0 : decode cX12_bushels 0 = .ok (.aload_n 0, 1) := bdX12_bushels_0.1
theorem dX12_bushels_1 : decode cX12_bushels 1 = .ok (.iconst 0, 1) := bdX12_bushels_0.2.1
theorem dX12_bushels_2 : decode cX12_bushels 2 = .ok (.putfield 140, 3) := bdX12_bushels_0.2.2.1
theorem dX12_bushels_5 : decode cX12_bushels 5 = .ok (.aload_n 0, 1) := bdX12_bushels_0.2.2.2.1
theorem dX12_bushels_6 : decode cX12_bushels 6 = .ok (.iload_n 1, 1) := bdX12_bushels_0.2.2.2.2.1
theorem dX12_bushels_7 : decode cX12_bushels 7 = .ok (.invokevirtual 371, 3) := bdX12_bushels_0.2.2.2.2.2.1
theorem dX12_bushels_10 : decode cX12_bushels 10 = .ok (.ifCond .ne 9, 3) := bdX12_bushels_0.2.2.2.2.2.2.1
theorem dX12_bushels_13 : decode cX12_bushels 13 = .ok (.aload_n 0, 1) := bdX12_bushels_0.2.2.2.2.2.2.2.1
theorem dX12_bushels_14 : decode cX12_bushels 14 = .ok (.iconst 1, 1) := bdX12_bushels_0.2.2.2.2.2.2.2.2.1
theorem dX12_bushels_15 : decode cX12_bushels 15 = .ok (.invokevirtual 290, 3) := bdX12_bushels_0.2.2.2.2.2.2.2.2.2
theorem bdX12_bushels_18 : (decode cX12_bushels 18 = .ok (.ireturn, 1)) ∧ (decode cX12_bushels 19 = .ok (.iload_n 2, 1)) ∧ (decode cX12_bushels 20 = .ok (.i2l, 1)) ∧ (decode cX12_bushels 21 = .ok (.lconst 0, 1)) ∧ (decode cX12_bushels 22 = .ok (.ldc2_w 460, 3)) ∧ (decode cX12_bushels 25 = .ok (.invokestatic 143, 3)) ∧ (decode cX12_bushels 28 = .ok (.ifCond .ne 9, 3)) ∧ (decode cX12_bushels 31 = .ok (.aload_n 0, 1)) ∧ (decode cX12_bushels 32 = .ok (.iconst 2, 1)) ∧ (decode cX12_bushels 33 = .ok (.invokevirtual 290, 3)) := by decide +kernel
theorem dX12_bushels_18 : decode cX12_bushels 18 = .ok (.ireturn, 1) := bdX12_bushels_18.1
theorem dX12_bushels_19 : decode cX12_bushels 19 = .ok (.iload_n 2, 1) := bdX12_bushels_18.2.1
theorem dX12_bushels_20 : decode cX12_bushels 20 = .ok (.i2l, 1) := bdX12_bushels_18.2.2.1
theorem dX12_bushels_21 : decode cX12_bushels 21 = .ok (.lconst 0, 1) := bdX12_bushels_18.2.2.2.1
theorem dX12_bushels_22 : decode cX12_bushels 22 = .ok (.ldc2_w 460, 3) := bdX12_bushels_18.2.2.2.2.1
theorem dX12_bushels_25 : decode cX12_bushels 25 = .ok (.invokestatic 143, 3) := bdX12_bushels_18.2.2.2.2.2.1
theorem dX12_bushels_28 : decode cX12_bushels 28 = .ok (.ifCond .ne 9, 3) := bdX12_bushels_18.2.2.2.2.2.2.1
theorem dX12_bushels_31 : decode cX12_bushels 31 = .ok (.aload_n 0, 1) := bdX12_bushels_18.2.2.2.2.2.2.2.1
theorem dX12_bushels_32 : decode cX12_bushels 32 = .ok (.iconst 2, 1) := bdX12_bushels_18.2.2.2.2.2.2.2.2.1
theorem dX12_bushels_33 : decode cX12_bushels 33 = .ok (.invokevirtual 290, 3) := bdX12_bushels_18.2.2.2.2.2.2.2.2.2
theorem bdX12_bushels_36 : (decode cX12_bushels 36 = .ok (.ireturn, 1)) ∧ (decode cX12_bushels 37 = .ok (.aload_n 0, 1)) ∧ (decode cX12_bushels 38 = .ok (.aload_n 0, 1)) ∧ (decode cX12_bushels 39 = .ok (.getfield 104, 3)) ∧ (decode cX12_bushels 42 = .ok (.iconst 0, 1)) ∧ (decode cX12_bushels 43 = .ok (.invokevirtual 387, 3)) ∧ (decode cX12_bushels 46 = .ok (.iconst 0, 1)) ∧ (decode cX12_bushels 47 = .ok (.istore_n 3, 1)) ∧ (decode cX12_bushels 48 = .ok (.iconst 0, 1)) ∧ (decode cX12_bushels 49 = .ok (.istore 4, 2)) := by decide +kernel
theorem dX12_bushels_36 : decode cX12_bushels 36 = .ok (.ireturn, 1) := bdX12_bushels_36.1
theorem dX12_bushels_37 : decode cX12_bushels 37 = .ok (.aload_n 0, 1) := bdX12_bushels_36.2.1
theorem dX12_bushels_38 : decode cX12_bushels 38 = .ok (.aload_n 0, 1) := bdX12_bushels_36.2.2.1
theorem dX12_bushels_39 : decode cX12_bushels 39 = .ok (.getfield 104, 3) := bdX12_bushels_36.2.2.2.1
theorem dX12_bushels_42 : decode cX12_bushels 42 = .ok (.iconst 0, 1) := bdX12_bushels_36.2.2.2.2.1
theorem dX12_bushels_43 : decode cX12_bushels 43 = .ok (.invokevirtual 387, 3) := bdX12_bushels_36.2.2.2.2.2.1
theorem dX12_bushels_46 : decode cX12_bushels 46 = .ok (.iconst 0, 1) := bdX12_bushels_36.2.2.2.2.2.2.1
theorem dX12_bushels_47 : decode cX12_bushels 47 = .ok (.istore_n 3, 1) := bdX12_bushels_36.2.2.2.2.2.2.2.1
theorem dX12_bushels_48 : decode cX12_bushels 48 = .ok (.iconst 0, 1) := bdX12_bushels_36.2.2.2.2.2.2.2.2.1
theorem dX12_bushels_49 : decode cX12_bushels 49 = .ok (.istore 4, 2) := bdX12_bushels_36.2.2.2.2.2.2.2.2.2
theorem bdX12_bushels_51 : (decode cX12_bushels 51 = .ok (.iload 4, 2)) ∧ (decode cX12_bushels 53 = .ok (.iload_n 2, 1)) ∧ (decode cX12_bushels 54 = .ok (.if_icmp .ge 40, 3)) ∧ (decode cX12_bushels 57 = .ok (.iload_n 3, 1)) ∧ (decode cX12_bushels 58 = .ok (.aload_n 0, 1)) ∧ (decode cX12_bushels 59 = .ok (.getfield 305, 3)) ∧ (decode cX12_bushels 62 = .ok (.iload_n 1, 1)) ∧ (decode cX12_bushels 63 = .ok (.invokestatic 333, 3)) ∧ (decode cX12_bushels 66 = .ok (.ifCond .eq 7, 3)) ∧ (decode cX12_bushels 69 = .ok (.iconst 0, 1)) := by decide +kernel
theorem dX12_bushels_51 : decode cX12_bushels 51 = .ok (.iload 4, 2) := bdX12_bushels_51.1
theorem dX12_bushels_53 : decode cX12_bushels 53 = .ok (.iload_n 2, 1) := bdX12_bushels_51.2.1
theorem dX12_bushels_54 : decode cX12_bushels 54 = .ok (.if_icmp .ge 40, 3) := bdX12_bushels_51.2.2.1
theorem dX12_bushels_57 : decode cX12_bushels 57 = .ok (.iload_n 3, 1) := bdX12_bushels_51.2.2.2.1
theorem dX12_bushels_58 : decode cX12_bushels 58 = .ok (.aload_n 0, 1) := bdX12_bushels_51.2.2.2.2.1
theorem dX12_bushels_59 : decode cX12_bushels 59 = .ok (.getfield 305, 3) := bdX12_bushels_51.2.2.2.2.2.1
theorem dX12_bushels_62 : decode cX12_bushels 62 = .ok (.iload_n 1, 1) := bdX12_bushels_51.2.2.2.2.2.2.1
theorem dX12_bushels_63 : decode cX12_bushels 63 = .ok (.invokestatic 333, 3) := bdX12_bushels_51.2.2.2.2.2.2.2.1
theorem dX12_bushels_66 : decode cX12_bushels 66 = .ok (.ifCond .eq 7, 3) := bdX12_bushels_51.2.2.2.2.2.2.2.2.1
theorem dX12_bushels_69 : decode cX12_bushels 69 = .ok (.iconst 0, 1) := bdX12_bushels_51.2.2.2.2.2.2.2.2.2
theorem bdX12_bushels_70 : (decode cX12_bushels 70 = .ok (.goto 12, 3)) ∧ (decode cX12_bushels 73 = .ok (.aload_n 0, 1)) ∧ (decode cX12_bushels 74 = .ok (.iload_n 1, 1)) ∧ (decode cX12_bushels 75 = .ok (.aload_n 0, 1)) ∧ (decode cX12_bushels 76 = .ok (.getfield 303, 3)) ∧ (decode cX12_bushels 79 = .ok (.invokevirtual 470, 3)) ∧ (decode cX12_bushels 82 = .ok (.iadd, 1)) ∧ (decode cX12_bushels 83 = .ok (.istore_n 3, 1)) ∧ (decode cX12_bushels 84 = .ok (.aload_n 0, 1)) ∧ (decode cX12_bushels 85 = .ok (.invokevirtual 368, 3)) := by decide +kernel
theorem dX12_bushels_70 : decode cX12_bushels 70 = .ok (.goto 12, 3) := bdX12_bushels_70.1
theorem dX12_bushels_73 : decode cX12_bushels 73 = .ok (.aload_n 0, 1) := bdX12_bushels_70.2.1
theorem dX12_bushels_74 : decode cX12_bushels 74 = .ok (.iload_n 1, 1) := bdX12_bushels_70.2.2.1
theorem dX12_bushels_75 : decode cX12_bushels 75 = .ok (.aload_n 0, 1) := bdX12_bushels_70.2.2.2.1
theorem dX12_bushels_76 : decode cX12_bushels 76 = .ok (.getfield 303, 3) := bdX12_bushels_70.2.2.2.2.1
theorem dX12_bushels_79 : decode cX12_bushels 79 = .ok (.invokevirtual 470, 3) := bdX12_bushels_70.2.2.2.2.2.1
theorem dX12_bushels_82 : decode cX12_bushels 82 = .ok (.iadd, 1) := bdX12_bushels_70.2.2.2.2.2.2.1
theorem dX12_bushels_83 : decode cX12_bushels 83 = .ok (.istore_n 3, 1) := bdX12_bushels_70.2.2.2.2.2.2.2.1
theorem dX12_bushels_84 : decode cX12_bushels 84 = .ok (.aload_n 0, 1) := bdX12_bushels_70.2.2.2.2.2.2.2.2.1
theorem dX12_bushels_85 : decode cX12_bushels 85 = .ok (.invokevirtual 368, 3) := bdX12_bushels_70.2.2.2.2.2.2.2.2.2
theorem bdX12_bushels_88 : (decode cX12_bushels 88 = .ok (.iinc 4 1, 3)) ∧ (decode cX12_bushels 91 = .ok (.goto (-40), 3)) ∧ (decode cX12_bushels 94 = .ok (.aload_n 0, 1)) ∧ (decode cX12_bushels 95 = .ok (.aload_n 0, 1)) ∧ (decode cX12_bushels 96 = .ok (.getfield 104, 3)) ∧ (decode cX12_bushels 99 = .ok (.iconst 0, 1)) ∧ (decode cX12_bushels 100 = .ok (.invokevirtual 420, 3)) ∧ (decode cX12_bushels 103 = .ok (.iload_n 3, 1)) ∧ (decode cX12_bushels 104 = .ok (.ireturn, 1)) := by decide +kernel
theorem dX12_bushels_88 : decode cX12_bushels 88 = .ok (.iinc 4 1, 3) := bdX12_bushels_88.1
theorem dX12_bushels_91 : decode cX12_bushels 91 = .ok (.goto (-40), 3) := bdX12_bushels_88.2.1
theorem dX12_bushels_94 : decode cX12_bushels 94 = .ok (.aload_n 0, 1) := bdX12_bushels_88.2.2.1
theorem dX12_bushels_95 : decode cX12_bushels 95 = .ok (.aload_n 0, 1) := bdX12_bushels_88.2.2.2.1
theorem dX12_bushels_96 : decode cX12_bushels 96 = .ok (.getfield 104, 3) := bdX12_bushels_88.2.2.2.2.1
theorem dX12_bushels_99 : decode cX12_bushels 99 = .ok (.iconst 0, 1) := bdX12_bushels_88.2.2.2.2.2.1
theorem dX12_bushels_100 : decode cX12_bushels 100 = .ok (.invokevirtual 420, 3) := bdX12_bushels_88.2.2.2.2.2.2.1
theorem dX12_bushels_103 : decode cX12_bushels 103 = .ok (.iload_n 3, 1) := bdX12_bushels_88.2.2.2.2.2.2.2.1
theorem dX12_bushels_104 : decode cX12_bushels 104 = .ok (.ireturn, 1) := bdX12_bushels_88.2.2.2.2.2.2.2.2
theorem bdX12_free_0 : (decode cX12_free 0 = .ok (.aload_n 0, 1)) ∧ (decode cX12_free 1 = .ok (.iconst 0, 1)) ∧ (decode cX12_free 2 = .ok (.putfield 140, 3)) ∧ (decode cX12_free 5 = .ok (.iconst 0, 1)) ∧ (decode cX12_free 6 = .ok (.istore_n 1, 1)) ∧ (decode cX12_free 7 = .ok (.iconst 0, 1)) ∧ (decode cX12_free 8 = .ok (.istore_n 2, 1)) ∧ (decode cX12_free 9 = .ok (.iload_n 2, 1)) ∧ (decode cX12_free 10 = .ok (.aload_n 0, 1)) ∧ (decode cX12_free 11 = .ok (.getfield 35, 3)) := by decide +kernel
theorem dX12_free_0 : decode cX12_free 0 = .ok (.aload_n 0, 1) := bdX12_free_0.1
theorem dX12_free_1 : decode cX12_free 1 = .ok (.iconst 0, 1) := bdX12_free_0.2.1
theorem dX12_free_2 : decode cX12_free 2 = .ok (.putfield 140, 3) := bdX12_free_0.2.2.1
theorem dX12_free_5 : decode cX12_free 5 = .ok (.iconst 0, 1) := bdX12_free_0.2.2.2.1
theorem dX12_free_6 : decode cX12_free 6 = .ok (.istore_n 1, 1) := bdX12_free_0.2.2.2.2.1
theorem dX12_free_7 : decode cX12_free 7 = .ok (.iconst 0, 1) := bdX12_free_0.2.2.2.2.2.1
theorem dX12_free_8 : decode cX12_free 8 = .ok (.istore_n 2, 1) := bdX12_free_0.2.2.2.2.2.2.1
theorem dX12_free_9 : decode cX12_free 9 = .ok (.iload_n 2, 1) := bdX12_free_0.2.2.2.2.2.2.2.1
theorem dX12_free_10 : decode cX12_free 10 = .ok (.aload_n 0, 1) := bdX12_free_0.2.2.2.2.2.2.2.2.1
theorem dX12_free_11 : decode cX12_free 11 = .ok (.getfield 35, 3) := bdX12_free_0.2.2.2.2.2.2.2.2.2
theorem bdX12_free_14 : (decode cX12_free 14 = .ok (.iconst 1, 1)) ∧ (decode cX12_free 15 = .ok (.iaload, 1)) ∧ (decode cX12_free 16 = .ok (.if_icmp .ge 28, 3)) ∧ (decode cX12_free 19 = .ok (.iload_n 1, 1)) ∧ (decode cX12_free 20 = .ok (.aload_n 0, 1)) ∧ (decode cX12_free 21 = .ok (.iload_n 2, 1)) ∧ (decode cX12_free 22 = .ok (.invokevirtual 359, 3)) ∧ (decode cX12_free 25 = .ok (.iconst (-1), 1)) ∧ (decode cX12_free 26 = .ok (.if_icmp .ne 9, 3)) ∧ (decode cX12_free 29 = .ok (.iconst 1, 1)) := by decide +kernel
theorem dX12_free_14 : decode cX12_free 14 = .ok (.iconst 1, 1) := bdX12_free_14.1
theorem dX12_free_15 : decode cX12_free 15 = .ok (.iaload, 1) := bdX12_free_14.2.1
theorem dX12_free_16 : decode cX12_free 16 = .ok (.if_icmp .ge 28, 3) := bdX12_free_14.2.2.1
theorem dX12_free_19 : decode cX12_free 19 = .ok (.iload_n 1, 1) := bdX12_free_14.2.2.2.1
theorem dX12_free_20 : decode cX12_free 20 = .ok (.aload_n 0, 1) := bdX12_free_14.2.2.2.2.1
theorem dX12_free_21 : decode cX12_free 21 = .ok (.iload_n 2, 1) := bdX12_free_14.2.2.2.2.2.1
theorem dX12_free_22 : decode cX12_free 22 = .ok (.invokevirtual 359, 3) := bdX12_free_14.2.2.2.2.2.2.1
theorem dX12_free_25 : decode cX12_free 25 = .ok (.iconst (-1), 1) := bdX12_free_14.2.2.2.2.2.2.2.1
theorem dX12_free_26 : decode cX12_free 26 = .ok (.if_icmp .ne 9, 3) := bdX12_free_14.2.2.2.2.2.2.2.2.1
theorem dX12_free_29 : decode cX12_free 29 = .ok (.iconst 1, 1) := bdX12_free_14.2.2.2.2.2.2.2.2.2
theorem bdX12_free_30 : (decode cX12_free 30 = .ok (.iload_n 2, 1)) ∧ (decode cX12_free 31 = .ok (.ishl, 1)) ∧ (decode cX12_free 32 = .ok (.goto 4, 3)) ∧ (decode cX12_free 35 = .ok (.iconst 0, 1)) ∧ (decode cX12_free 36 = .ok (.ior, 1)) ∧ (decode cX12_free 37 = .ok (.istore_n 1, 1)) ∧ (decode cX12_free 38 = .ok (.iinc 2 1, 3)) ∧ (decode cX12_free 41 = .ok (.goto (-32), 3)) ∧ (decode cX12_free 44 = .ok (.iload_n 1, 1)) ∧ (decode cX12_free 45 = .ok (.ireturn, 1)) := by decide +kernel
theorem dX12_free_30 : decode cX12_free 30 = .ok (.iload_n 2, 1) := bdX12_free_30.1
theorem dX12_free_31 : decode cX12_free 31 = .ok (.ishl, 1) := bdX12_free_30.2.1
theorem dX12_free_32 : decode cX12_free 32 = .ok (.goto 4, 3) := bdX12_free_30.2.2.1
theorem dX12_free_35 : decode cX12_free 35 = .ok (.iconst 0, 1) := bdX12_free_30.2.2.2.1
theorem dX12_free_36 : decode cX12_free 36 = .ok (.ior, 1) := bdX12_free_30.2.2.2.2.1
theorem dX12_free_37 : decode cX12_free 37 = .ok (.istore_n 1, 1) := bdX12_free_30.2.2.2.2.2.1
theorem dX12_free_38 : decode cX12_free 38 = .ok (.iinc 2 1, 3) := bdX12_free_30.2.2.2.2.2.2.1
theorem dX12_free_41 : decode cX12_free 41 = .ok (.goto (-32), 3) := bdX12_free_30.2.2.2.2.2.2.2.1
theorem dX12_free_44 : decode cX12_free 44 = .ok (.iload_n 1, 1) := bdX12_free_30.2.2.2.2.2.2.2.2.1
theorem dX12_free_45 : decode cX12_free 45 = .ok (.ireturn, 1) := bdX12_free_30.2.2.2.2.2.2.2.2.2
theorem bdX12_richest_0 : (decode cX12_richest 0 = .ok (.aload_n 0, 1)) ∧ (decode cX12_richest 1 = .ok (.iconst 0, 1)) ∧ (decode cX12_richest 2 = .ok (.putfield 140, 3)) ∧ (decode cX12_richest 5 = .ok (.iload_n 1, 1)) ∧ (decode cX12_richest 6 = .ok (.i2l, 1)) ∧ (decode cX12_richest 7 = .ok (.lconst 0, 1)) ∧ (decode cX12_richest 8 = .ok (.ldc2_w 460, 3)) ∧ (decode cX12_richest 11 = .ok (.invokestatic 143, 3)) ∧ (decode cX12_richest 14 = .ok (.ifCond .ne 9, 3)) ∧ (decode cX12_richest 17 = .ok (.aload_n 0, 1)) := by decide +kernel
theorem dX12_richest_0 : decode cX12_richest 0 = .ok (.aload_n 0, 1) := bdX12_richest_0.1
theorem dX12_richest_1 : decode cX12_richest 1 = .ok (.iconst 0, 1) := bdX12_richest_0.2.1
theorem dX12_richest_2 : decode cX12_richest 2 = .ok (.putfield 140, 3) := bdX12_richest_0.2.2.1
theorem dX12_richest_5 : decode cX12_richest 5 = .ok (.iload_n 1, 1) := bdX12_richest_0.2.2.2.1
theorem dX12_richest_6 : decode cX12_richest 6 = .ok (.i2l, 1) := bdX12_richest_0.2.2.2.2.1
theorem dX12_richest_7 : decode cX12_richest 7 = .ok (.lconst 0, 1) := bdX12_richest_0.2.2.2.2.2.1
theorem dX12_richest_8 : decode cX12_richest 8 = .ok (.ldc2_w 460, 3) := bdX12_richest_0.2.2.2.2.2.2.1
theorem dX12_richest_11 : decode cX12_richest 11 = .ok (.invokestatic 143, 3) := bdX12_richest_0.2.2.2.2.2.2.2.1
theorem dX12_richest_14 : decode cX12_richest 14 = .ok (.ifCond .ne 9, 3) := bdX12_richest_0.2.2.2.2.2.2.2.2.1
theorem dX12_richest_17 : decode cX12_richest 17 = .ok (.aload_n 0, 1) := bdX12_richest_0.2.2.2.2.2.2.2.2.2
theorem bdX12_richest_18 : (decode cX12_richest 18 = .ok (.iconst 1, 1)) ∧ (decode cX12_richest 19 = .ok (.invokevirtual 290, 3)) ∧ (decode cX12_richest 22 = .ok (.ireturn, 1)) ∧ (decode cX12_richest 23 = .ok (.aload_n 0, 1)) ∧ (decode cX12_richest 24 = .ok (.aload_n 0, 1)) ∧ (decode cX12_richest 25 = .ok (.getfield 104, 3)) ∧ (decode cX12_richest 28 = .ok (.iconst 0, 1)) ∧ (decode cX12_richest 29 = .ok (.invokevirtual 387, 3)) ∧ (decode cX12_richest 32 = .ok (.aload_n 0, 1)) ∧ (decode cX12_richest 33 = .ok (.iload_n 1, 1)) := by decide +kernel
theorem dX12_richest_18 : decode cX12_richest 18 = .ok (.iconst 1, 1) := bdX12_richest_18.1
theorem dX12_richest_19 : decode cX12_richest 19 = .ok (.invokevirtual 290, 3) := bdX12_richest_18.2.1
theorem dX12_richest_22 : decode cX12_richest 22 = .ok (.ireturn, 1) := bdX12_richest_18.2.2.1
theorem dX12_richest_23 : decode cX12_richest 23 = .ok (.aload_n 0, 1) := bdX12_richest_18.2.2.2.1
theorem dX12_richest_24 : decode cX12_richest 24 = .ok (.aload_n 0, 1) := bdX12_richest_18.2.2.2.2.1
theorem dX12_richest_25 : decode cX12_richest 25 = .ok (.getfield 104, 3) := bdX12_richest_18.2.2.2.2.2.1
theorem dX12_richest_28 : decode cX12_richest 28 = .ok (.iconst 0, 1) := bdX12_richest_18.2.2.2.2.2.2.1
theorem dX12_richest_29 : decode cX12_richest 29 = .ok (.invokevirtual 387, 3) := bdX12_richest_18.2.2.2.2.2.2.2.1
theorem dX12_richest_32 : decode cX12_richest 32 = .ok (.aload_n 0, 1) := bdX12_richest_18.2.2.2.2.2.2.2.2.1
theorem dX12_richest_33 : decode cX12_richest 33 = .ok (.iload_n 1, 1) := bdX12_richest_18.2.2.2.2.2.2.2.2.2
theorem bdX12_richest_34 : (decode cX12_richest 34 = .ok (.invokevirtual 417, 3)) ∧ (decode cX12_richest 37 = .ok (.iconst (-1), 1)) ∧ (decode cX12_richest 38 = .ok (.istore_n 2, 1)) ∧ (decode cX12_richest 39 = .ok (.aload_n 0, 1)) ∧ (decode cX12_richest 40 = .ok (.getfield 35, 3)) ∧ (decode cX12_richest 43 = .ok (.iconst 0, 1)) ∧ (decode cX12_richest 44 = .ok (.iaload, 1)) ∧ (decode cX12_richest 45 = .ok (.iconst 1, 1)) ∧ (decode cX12_richest 46 = .ok (.isub, 1)) ∧ (decode cX12_richest 47 = .ok (.istore_n 3, 1)) := by decide +kernel
theorem dX12_richest_34 : decode cX12_richest 34 = .ok (.invokevirtual 417, 3) := bdX12_richest_34.1
theorem dX12_richest_37 : decode cX12_richest 37 = .ok (.iconst (-1), 1) := bdX12_richest_34.2.1
theorem dX12_richest_38 : decode cX12_richest 38 = .ok (.istore_n 2, 1) := bdX12_richest_34.2.2.1
theorem dX12_richest_39 : decode cX12_richest 39 = .ok (.aload_n 0, 1) := bdX12_richest_34.2.2.2.1
theorem dX12_richest_40 : decode cX12_richest 40 = .ok (.getfield 35, 3) := bdX12_richest_34.2.2.2.2.1
theorem dX12_richest_43 : decode cX12_richest 43 = .ok (.iconst 0, 1) := bdX12_richest_34.2.2.2.2.2.1
theorem dX12_richest_44 : decode cX12_richest 44 = .ok (.iaload, 1) := bdX12_richest_34.2.2.2.2.2.2.1
theorem dX12_richest_45 : decode cX12_richest 45 = .ok (.iconst 1, 1) := bdX12_richest_34.2.2.2.2.2.2.2.1
theorem dX12_richest_46 : decode cX12_richest 46 = .ok (.isub, 1) := bdX12_richest_34.2.2.2.2.2.2.2.2.1
theorem dX12_richest_47 : decode cX12_richest 47 = .ok (.istore_n 3, 1) := bdX12_richest_34.2.2.2.2.2.2.2.2.2
theorem bdX12_richest_48 : (decode cX12_richest 48 = .ok (.iload_n 3, 1)) ∧ (decode cX12_richest 49 = .ok (.ifCond .lt 31, 3)) ∧ (decode cX12_richest 52 = .ok (.iload_n 2, 1)) ∧ (decode cX12_richest 53 = .ok (.iconst (-1), 1)) ∧ (decode cX12_richest 54 = .ok (.if_icmp .eq 18, 3)) ∧ (decode cX12_richest 57 = .ok (.aload_n 0, 1)) ∧ (decode cX12_richest 58 = .ok (.getfield 73, 3)) ∧ (decode cX12_richest 61 = .ok (.iload_n 3, 1)) ∧ (decode cX12_richest 62 = .ok (.iaload, 1)) ∧ (decode cX12_richest 63 = .ok (.aload_n 0, 1)) := by decide +kernel
theorem dX12_richest_48 : decode cX12_richest 48 = .ok (.iload_n 3, 1) := bdX12_richest_48.1
theorem dX12_richest_49 : decode cX12_richest 49 = .ok (.ifCond .lt 31, 3) := bdX12_richest_48.2.1
theorem dX12_richest_52 : decode cX12_richest 52 = .ok (.iload_n 2, 1) := bdX12_richest_48.2.2.1
theorem dX12_richest_53 : decode cX12_richest 53 = .ok (.iconst (-1), 1) := bdX12_richest_48.2.2.2.1
theorem dX12_richest_54 : decode cX12_richest 54 = .ok (.if_icmp .eq 18, 3) := bdX12_richest_48.2.2.2.2.1
theorem dX12_richest_57 : decode cX12_richest 57 = .ok (.aload_n 0, 1) := bdX12_richest_48.2.2.2.2.2.1
theorem dX12_richest_58 : decode cX12_richest 58 = .ok (.getfield 73, 3) := bdX12_richest_48.2.2.2.2.2.2.1
theorem dX12_richest_61 : decode cX12_richest 61 = .ok (.iload_n 3, 1) := bdX12_richest_48.2.2.2.2.2.2.2.1
theorem dX12_richest_62 : decode cX12_richest 62 = .ok (.iaload, 1) := bdX12_richest_48.2.2.2.2.2.2.2.2.1
theorem dX12_richest_63 : decode cX12_richest 63 = .ok (.aload_n 0, 1) := bdX12_richest_48.2.2.2.2.2.2.2.2.2
theorem bdX12_richest_64 : (decode cX12_richest 64 = .ok (.getfield 73, 3)) ∧ (decode cX12_richest 67 = .ok (.iload_n 2, 1)) ∧ (decode cX12_richest 68 = .ok (.iaload, 1)) ∧ (decode cX12_richest 69 = .ok (.if_icmp .lt 5, 3)) ∧ (decode cX12_richest 72 = .ok (.iload_n 3, 1)) ∧ (decode cX12_richest 73 = .ok (.istore_n 2, 1)) ∧ (decode cX12_richest 74 = .ok (.iinc 3 (-1), 3)) ∧ (decode cX12_richest 77 = .ok (.goto (-29), 3)) ∧ (decode cX12_richest 80 = .ok (.aload_n 0, 1)) ∧ (decode cX12_richest 81 = .ok (.aload_n 0, 1)) := by decide +kernel
theorem dX12_richest_64 : decode cX12_richest 64 = .ok (.getfield 73, 3) := bdX12_richest_64.1
theorem dX12_richest_67 : decode cX12_richest 67 = .ok (.iload_n 2, 1) := bdX12_richest_64.2.1
theorem dX12_richest_68 : decode cX12_richest 68 = .ok (.iaload, 1) := bdX12_richest_64.2.2.1
theorem dX12_richest_69 : decode cX12_richest 69 = .ok (.if_icmp .lt 5, 3) := bdX12_richest_64.2.2.2.1
theorem dX12_richest_72 : decode cX12_richest 72 = .ok (.iload_n 3, 1) := bdX12_richest_64.2.2.2.2.1
theorem dX12_richest_73 : decode cX12_richest 73 = .ok (.istore_n 2, 1) := bdX12_richest_64.2.2.2.2.2.1
theorem dX12_richest_74 : decode cX12_richest 74 = .ok (.iinc 3 (-1), 3) := bdX12_richest_64.2.2.2.2.2.2.1
theorem dX12_richest_77 : decode cX12_richest 77 = .ok (.goto (-29), 3) := bdX12_richest_64.2.2.2.2.2.2.2.1
theorem dX12_richest_80 : decode cX12_richest 80 = .ok (.aload_n 0, 1) := bdX12_richest_64.2.2.2.2.2.2.2.2.1
theorem dX12_richest_81 : decode cX12_richest 81 = .ok (.aload_n 0, 1) := bdX12_richest_64.2.2.2.2.2.2.2.2.2
theorem bdX12_richest_82 : (decode cX12_richest 82 = .ok (.getfield 104, 3)) ∧ (decode cX12_richest 85 = .ok (.iconst 0, 1)) ∧ (decode cX12_richest 86 = .ok (.invokevirtual 420, 3)) ∧ (decode cX12_richest 89 = .ok (.iload_n 2, 1)) ∧ (decode cX12_richest 90 = .ok (.ireturn, 1)) := by decide +kernel
theorem dX12_richest_82 : decode cX12_richest 82 = .ok (.getfield 104, 3) := bdX12_richest_82.1
theorem dX12_richest_85 : decode cX12_richest 85 = .ok (.iconst 0, 1) := bdX12_richest_82.2.1
theorem dX12_richest_86 : decode cX12_richest 86 = .ok (.invokevirtual 420, 3) := bdX12_richest_82.2.2.1
theorem dX12_richest_89 : decode cX12_richest 89 = .ok (.iload_n 2, 1) := bdX12_richest_82.2.2.2.1
theorem dX12_richest_90 : decode cX12_richest 90 = .ok (.ireturn, 1) := bdX12_richest_82.2.2.2.2
theorem bdX12_see_0 : (decode cX12_see 0 = .ok (.aload_n 0, 1)) ∧ (decode cX12_see 1 = .ok (.iconst 0, 1)) ∧ (decode cX12_see 2 = .ok (.putfield 140, 3)) ∧ (decode cX12_see 5 = .ok (.aload_n 0, 1)) ∧ (decode cX12_see 6 = .ok (.iload_n 1, 1)) ∧ (decode cX12_see 7 = .ok (.invokevirtual 371, 3)) ∧ (decode cX12_see 10 = .ok (.ifCond .ne 9, 3)) ∧ (decode cX12_see 13 = .ok (.aload_n 0, 1)) ∧ (decode cX12_see 14 = .ok (.iconst 1, 1)) ∧ (decode cX12_see 15 = .ok (.invokevirtual 290, 3)) := by decide +kernel
theorem dX12_see_0 : decode cX12_see 0 = .ok (.aload_n 0, 1) := bdX12_see_0.1
theorem dX12_see_1 : decode cX12_see 1 = .ok (.iconst 0, 1) := bdX12_see_0.2.1
theorem dX12_see_2 : decode cX12_see 2 = .ok (.putfield 140, 3) := bdX12_see_0.2.2.1
theorem dX12_see_5 : decode cX12_see 5 = .ok (.aload_n 0, 1) := bdX12_see_0.2.2.2.1
theorem dX12_see_6 : decode cX12_see 6 = .ok (.iload_n 1, 1) := bdX12_see_0.2.2.2.2.1
theorem dX12_see_7 : decode cX12_see 7 = .ok (.invokevirtual 371, 3) := bdX12_see_0.2.2.2.2.2.1
theorem dX12_see_10 : decode cX12_see 10 = .ok (.ifCond .ne 9, 3) := bdX12_see_0.2.2.2.2.2.2.1
theorem dX12_see_13 : decode cX12_see 13 = .ok (.aload_n 0, 1) := bdX12_see_0.2.2.2.2.2.2.2.1
theorem dX12_see_14 : decode cX12_see 14 = .ok (.iconst 1, 1) := bdX12_see_0.2.2.2.2.2.2.2.2.1
theorem dX12_see_15 : decode cX12_see 15 = .ok (.invokevirtual 290, 3) := bdX12_see_0.2.2.2.2.2.2.2.2.2
theorem bdX12_see_18 : (decode cX12_see 18 = .ok (.ireturn, 1)) ∧ (decode cX12_see 19 = .ok (.aload_n 0, 1)) ∧ (decode cX12_see 20 = .ok (.getfield 323, 3)) ∧ (decode cX12_see 23 = .ok (.bipush 8, 2)) ∧ (decode cX12_see 25 = .ok (.if_icmp .eq 27, 3)) ∧ (decode cX12_see 28 = .ok (.iload_n 2, 1)) ∧ (decode cX12_see 29 = .ok (.i2l, 1)) ∧ (decode cX12_see 30 = .ok (.lconst 0, 1)) ∧ (decode cX12_see 31 = .ok (.ldc2_w 462, 3)) ∧ (decode cX12_see 34 = .ok (.invokestatic 143, 3)) := by decide +kernel
theorem dX12_see_18 : decode cX12_see 18 = .ok (.ireturn, 1) := bdX12_see_18.1
theorem dX12_see_19 : decode cX12_see 19 = .ok (.aload_n 0, 1) := bdX12_see_18.2.1
theorem dX12_see_20 : decode cX12_see 20 = .ok (.getfield 323, 3) := bdX12_see_18.2.2.1
theorem dX12_see_23 : decode cX12_see 23 = .ok (.bipush 8, 2) := bdX12_see_18.2.2.2.1
theorem dX12_see_25 : decode cX12_see 25 = .ok (.if_icmp .eq 27, 3) := bdX12_see_18.2.2.2.2.1
theorem dX12_see_28 : decode cX12_see 28 = .ok (.iload_n 2, 1) := bdX12_see_18.2.2.2.2.2.1
theorem dX12_see_29 : decode cX12_see 29 = .ok (.i2l, 1) := bdX12_see_18.2.2.2.2.2.2.1
theorem dX12_see_30 : decode cX12_see 30 = .ok (.lconst 0, 1) := bdX12_see_18.2.2.2.2.2.2.2.1
theorem dX12_see_31 : decode cX12_see 31 = .ok (.ldc2_w 462, 3) := bdX12_see_18.2.2.2.2.2.2.2.2.1
theorem dX12_see_34 : decode cX12_see 34 = .ok (.invokestatic 143, 3) := bdX12_see_18.2.2.2.2.2.2.2.2.2
theorem bdX12_see_37 : (decode cX12_see 37 = .ok (.ifCond .eq 15, 3)) ∧ (decode cX12_see 40 = .ok (.iload_n 3, 1)) ∧ (decode cX12_see 41 = .ok (.i2l, 1)) ∧ (decode cX12_see 42 = .ok (.lconst 0, 1)) ∧ (decode cX12_see 43 = .ok (.ldc2_w 462, 3)) ∧ (decode cX12_see 46 = .ok (.invokestatic 143, 3)) ∧ (decode cX12_see 49 = .ok (.ifCond .ne 9, 3)) ∧ (decode cX12_see 52 = .ok (.aload_n 0, 1)) ∧ (decode cX12_see 53 = .ok (.iconst 2, 1)) ∧ (decode cX12_see 54 = .ok (.invokevirtual 404, 3)) := by decide +kernel
theorem dX12_see_37 : decode cX12_see 37 = .ok (.ifCond .eq 15, 3) := bdX12_see_37.1
theorem dX12_see_40 : decode cX12_see 40 = .ok (.iload_n 3, 1) := bdX12_see_37.2.1
theorem dX12_see_41 : decode cX12_see 41 = .ok (.i2l, 1) := bdX12_see_37.2.2.1
theorem dX12_see_42 : decode cX12_see 42 = .ok (.lconst 0, 1) := bdX12_see_37.2.2.2.1
theorem dX12_see_43 : decode cX12_see 43 = .ok (.ldc2_w 462, 3) := bdX12_see_37.2.2.2.2.1
theorem dX12_see_46 : decode cX12_see 46 = .ok (.invokestatic 143, 3) := bdX12_see_37.2.2.2.2.2.1
theorem dX12_see_49 : decode cX12_see 49 = .ok (.ifCond .ne 9, 3) := bdX12_see_37.2.2.2.2.2.2.1
theorem dX12_see_52 : decode cX12_see 52 = .ok (.aload_n 0, 1) := bdX12_see_37.2.2.2.2.2.2.2.1
theorem dX12_see_53 : decode cX12_see 53 = .ok (.iconst 2, 1) := bdX12_see_37.2.2.2.2.2.2.2.2.1
theorem dX12_see_54 : decode cX12_see 54 = .ok (.invokevirtual 404, 3) := bdX12_see_37.2.2.2.2.2.2.2.2.2
theorem bdX12_see_57 : (decode cX12_see 57 = .ok (.ireturn, 1)) ∧ (decode cX12_see 58 = .ok (.aload_n 0, 1)) ∧ (decode cX12_see 59 = .ok (.getfield 107, 3)) ∧ (decode cX12_see 62 = .ok (.aload_n 0, 1)) ∧ (decode cX12_see 63 = .ok (.getfield 323, 3)) ∧ (decode cX12_see 66 = .ok (.iload_n 1, 1)) ∧ (decode cX12_see 67 = .ok (.iastore, 1)) ∧ (decode cX12_see 68 = .ok (.aload_n 0, 1)) ∧ (decode cX12_see 69 = .ok (.getfield 110, 3)) ∧ (decode cX12_see 72 = .ok (.aload_n 0, 1)) := by decide +kernel
theorem dX12_see_57 : decode cX12_see 57 = .ok (.ireturn, 1) := bdX12_see_57.1
theorem dX12_see_58 : decode cX12_see 58 = .ok (.aload_n 0, 1) := bdX12_see_57.2.1
theorem dX12_see_59 : decode cX12_see 59 = .ok (.getfield 107, 3) := bdX12_see_57.2.2.1
theorem dX12_see_62 : decode cX12_see 62 = .ok (.aload_n 0, 1) := bdX12_see_57.2.2.2.1
theorem dX12_see_63 : decode cX12_see 63 = .ok (.getfield 323, 3) := bdX12_see_57.2.2.2.2.1
theorem dX12_see_66 : decode cX12_see 66 = .ok (.iload_n 1, 1) := bdX12_see_57.2.2.2.2.2.1
theorem dX12_see_67 : decode cX12_see 67 = .ok (.iastore, 1) := bdX12_see_57.2.2.2.2.2.2.1
theorem dX12_see_68 : decode cX12_see 68 = .ok (.aload_n 0, 1) := bdX12_see_57.2.2.2.2.2.2.2.1
theorem dX12_see_69 : decode cX12_see 69 = .ok (.getfield 110, 3) := bdX12_see_57.2.2.2.2.2.2.2.2.1
theorem dX12_see_72 : decode cX12_see 72 = .ok (.aload_n 0, 1) := bdX12_see_57.2.2.2.2.2.2.2.2.2
theorem bdX12_see_73 : (decode cX12_see 73 = .ok (.getfield 323, 3)) ∧ (decode cX12_see 76 = .ok (.iload_n 2, 1)) ∧ (decode cX12_see 77 = .ok (.iastore, 1)) ∧ (decode cX12_see 78 = .ok (.aload_n 0, 1)) ∧ (decode cX12_see 79 = .ok (.getfield 113, 3)) ∧ (decode cX12_see 82 = .ok (.aload_n 0, 1)) ∧ (decode cX12_see 83 = .ok (.getfield 323, 3)) ∧ (decode cX12_see 86 = .ok (.iload_n 3, 1)) ∧ (decode cX12_see 87 = .ok (.iastore, 1)) ∧ (decode cX12_see 88 = .ok (.aload_n 0, 1)) := by decide +kernel
theorem dX12_see_73 : decode cX12_see 73 = .ok (.getfield 323, 3) := bdX12_see_73.1
theorem dX12_see_76 : decode cX12_see 76 = .ok (.iload_n 2, 1) := bdX12_see_73.2.1
theorem dX12_see_77 : decode cX12_see 77 = .ok (.iastore, 1) := bdX12_see_73.2.2.1
theorem dX12_see_78 : decode cX12_see 78 = .ok (.aload_n 0, 1) := bdX12_see_73.2.2.2.1
theorem dX12_see_79 : decode cX12_see 79 = .ok (.getfield 113, 3) := bdX12_see_73.2.2.2.2.1
theorem dX12_see_82 : decode cX12_see 82 = .ok (.aload_n 0, 1) := bdX12_see_73.2.2.2.2.2.1
theorem dX12_see_83 : decode cX12_see 83 = .ok (.getfield 323, 3) := bdX12_see_73.2.2.2.2.2.2.1
theorem dX12_see_86 : decode cX12_see 86 = .ok (.iload_n 3, 1) := bdX12_see_73.2.2.2.2.2.2.2.1
theorem dX12_see_87 : decode cX12_see 87 = .ok (.iastore, 1) := bdX12_see_73.2.2.2.2.2.2.2.2.1
theorem dX12_see_88 : decode cX12_see 88 = .ok (.aload_n 0, 1) := bdX12_see_73.2.2.2.2.2.2.2.2.2
theorem bdX12_see_89 : (decode cX12_see 89 = .ok (.dup, 1)) ∧ (decode cX12_see 90 = .ok (.getfield 323, 3)) ∧ (decode cX12_see 93 = .ok (.iconst 1, 1)) ∧ (decode cX12_see 94 = .ok (.iadd, 1)) ∧ (decode cX12_see 95 = .ok (.putfield 323, 3)) ∧ (decode cX12_see 98 = .ok (.aload_n 0, 1)) ∧ (decode cX12_see 99 = .ok (.getfield 323, 3)) ∧ (decode cX12_see 102 = .ok (.ireturn, 1)) := by decide +kernel
theorem dX12_see_89 : decode cX12_see 89 = .ok (.dup, 1) := bdX12_see_89.1
theorem dX12_see_90 : decode cX12_see 90 = .ok (.getfield 323, 3) := bdX12_see_89.2.1
theorem dX12_see_93 : decode cX12_see 93 = .ok (.iconst 1, 1) := bdX12_see_89.2.2.1
theorem dX12_see_94 : decode cX12_see 94 = .ok (.iadd, 1) := bdX12_see_89.2.2.2.1
theorem dX12_see_95 : decode cX12_see 95 = .ok (.putfield 323, 3) := bdX12_see_89.2.2.2.2.1
theorem dX12_see_98 : decode cX12_see 98 = .ok (.aload_n 0, 1) := bdX12_see_89.2.2.2.2.2.1
theorem dX12_see_99 : decode cX12_see 99 = .ok (.getfield 323, 3) := bdX12_see_89.2.2.2.2.2.2.1
theorem dX12_see_102 : decode cX12_see 102 = .ok (.ireturn, 1) := bdX12_see_89.2.2.2.2.2.2.2
theorem bdX12_ownHarvest_0 : (decode cX12_ownHarvest 0 = .ok (.aload_n 0, 1)) ∧ (decode cX12_ownHarvest 1 = .ok (.getfield 76, 3)) ∧ (decode cX12_ownHarvest 4 = .ok (.iload_n 1, 1)) ∧ (decode cX12_ownHarvest 5 = .ok (.iaload, 1)) ∧ (decode cX12_ownHarvest 6 = .ok (.iconst (-1), 1)) ∧ (decode cX12_ownHarvest 7 = .ok (.if_icmp .ne 7, 3)) ∧ (decode cX12_ownHarvest 10 = .ok (.iconst 0, 1)) ∧ (decode cX12_ownHarvest 11 = .ok (.goto 15, 3)) ∧ (decode cX12_ownHarvest 14 = .ok (.aload_n 0, 1)) ∧ (decode cX12_ownHarvest 15 = .ok (.iload_n 1, 1)) := by decide +kernel
theorem dX12_ownHarvest_0 : decode cX12_ownHarvest 0 = .ok (.aload_n 0, 1) := bdX12_ownHarvest_0.1
theorem dX12_ownHarvest_1 : decode cX12_ownHarvest 1 = .ok (.getfield 76, 3) := bdX12_ownHarvest_0.2.1
theorem dX12_ownHarvest_4 : decode cX12_ownHarvest 4 = .ok (.iload_n 1, 1) := bdX12_ownHarvest_0.2.2.1
theorem dX12_ownHarvest_5 : decode cX12_ownHarvest 5 = .ok (.iaload, 1) := bdX12_ownHarvest_0.2.2.2.1
theorem dX12_ownHarvest_6 : decode cX12_ownHarvest 6 = .ok (.iconst (-1), 1) := bdX12_ownHarvest_0.2.2.2.2.1
theorem dX12_ownHarvest_7 : decode cX12_ownHarvest 7 = .ok (.if_icmp .ne 7, 3) := bdX12_ownHarvest_0.2.2.2.2.2.1
theorem dX12_ownHarvest_10 : decode cX12_ownHarvest 10 = .ok (.iconst 0, 1) := bdX12_ownHarvest_0.2.2.2.2.2.2.1
theorem dX12_ownHarvest_11 : decode cX12_ownHarvest 11 = .ok (.goto 15, 3) := bdX12_ownHarvest_0.2.2.2.2.2.2.2.1
theorem dX12_ownHarvest_14 : decode cX12_ownHarvest 14 = .ok (.aload_n 0, 1) := bdX12_ownHarvest_0.2.2.2.2.2.2.2.2.1
theorem dX12_ownHarvest_15 : decode cX12_ownHarvest 15 = .ok (.iload_n 1, 1) := bdX12_ownHarvest_0.2.2.2.2.2.2.2.2.2
theorem bdX12_ownHarvest_16 : (decode cX12_ownHarvest 16 = .ok (.aload_n 0, 1)) ∧ (decode cX12_ownHarvest 17 = .ok (.getfield 76, 3)) ∧ (decode cX12_ownHarvest 20 = .ok (.iload_n 1, 1)) ∧ (decode cX12_ownHarvest 21 = .ok (.iaload, 1)) ∧ (decode cX12_ownHarvest 22 = .ok (.iload_n 2, 1)) ∧ (decode cX12_ownHarvest 23 = .ok (.invokevirtual 365, 3)) ∧ (decode cX12_ownHarvest 26 = .ok (.ireturn, 1)) := by decide +kernel
theorem dX12_ownHarvest_16 : decode cX12_ownHarvest 16 = .ok (.aload_n 0, 1) := bdX12_ownHarvest_16.1
theorem dX12_ownHarvest_17 : decode cX12_ownHarvest 17 = .ok (.getfield 76, 3) := bdX12_ownHarvest_16.2.1
theorem dX12_ownHarvest_20 : decode cX12_ownHarvest 20 = .ok (.iload_n 1, 1) := bdX12_ownHarvest_16.2.2.1
theorem dX12_ownHarvest_21 : decode cX12_ownHarvest 21 = .ok (.iaload, 1) := bdX12_ownHarvest_16.2.2.2.1
theorem dX12_ownHarvest_22 : decode cX12_ownHarvest 22 = .ok (.iload_n 2, 1) := bdX12_ownHarvest_16.2.2.2.2.1
theorem dX12_ownHarvest_23 : decode cX12_ownHarvest 23 = .ok (.invokevirtual 365, 3) := bdX12_ownHarvest_16.2.2.2.2.2.1
theorem dX12_ownHarvest_26 : decode cX12_ownHarvest 26 = .ok (.ireturn, 1) := bdX12_ownHarvest_16.2.2.2.2.2.2
theorem bdX12_isAsSeen_0 : (decode cX12_isAsSeen 0 = .ok (.iconst 1, 1)) ∧ (decode cX12_isAsSeen 1 = .ok (.istore_n 2, 1)) ∧ (decode cX12_isAsSeen 2 = .ok (.iconst 0, 1)) ∧ (decode cX12_isAsSeen 3 = .ok (.istore_n 3, 1)) ∧ (decode cX12_isAsSeen 4 = .ok (.iload_n 3, 1)) ∧ (decode cX12_isAsSeen 5 = .ok (.aload_n 0, 1)) ∧ (decode cX12_isAsSeen 6 = .ok (.getfield 323, 3)) ∧ (decode cX12_isAsSeen 9 = .ok (.if_icmp .ge 49, 3)) ∧ (decode cX12_isAsSeen 12 = .ok (.iload_n 2, 1)) ∧ (decode cX12_isAsSeen 13 = .ok (.ifCond .eq 37, 3)) := by decide +kernel
theorem dX12_isAsSeen_0 : decode cX12_isAsSeen 0 = .ok (.iconst 1, 1) := bdX12_isAsSeen_0.1
theorem dX12_isAsSeen_1 : decode cX12_isAsSeen 1 = .ok (.istore_n 2, 1) := bdX12_isAsSeen_0.2.1
theorem dX12_isAsSeen_2 : decode cX12_isAsSeen 2 = .ok (.iconst 0, 1) := bdX12_isAsSeen_0.2.2.1
theorem dX12_isAsSeen_3 : decode cX12_isAsSeen 3 = .ok (.istore_n 3, 1) := bdX12_isAsSeen_0.2.2.2.1
theorem dX12_isAsSeen_4 : decode cX12_isAsSeen 4 = .ok (.iload_n 3, 1) := bdX12_isAsSeen_0.2.2.2.2.1
theorem dX12_isAsSeen_5 : decode cX12_isAsSeen 5 = .ok (.aload_n 0, 1) := bdX12_isAsSeen_0.2.2.2.2.2.1
theorem dX12_isAsSeen_6 : decode cX12_isAsSeen 6 = .ok (.getfield 323, 3) := bdX12_isAsSeen_0.2.2.2.2.2.2.1
theorem dX12_isAsSeen_9 : decode cX12_isAsSeen 9 = .ok (.if_icmp .ge 49, 3) := bdX12_isAsSeen_0.2.2.2.2.2.2.2.1
theorem dX12_isAsSeen_12 : decode cX12_isAsSeen 12 = .ok (.iload_n 2, 1) := bdX12_isAsSeen_0.2.2.2.2.2.2.2.2.1
theorem dX12_isAsSeen_13 : decode cX12_isAsSeen 13 = .ok (.ifCond .eq 37, 3) := bdX12_isAsSeen_0.2.2.2.2.2.2.2.2.2
theorem bdX12_isAsSeen_16 : (decode cX12_isAsSeen 16 = .ok (.aload_n 0, 1)) ∧ (decode cX12_isAsSeen 17 = .ok (.getfield 107, 3)) ∧ (decode cX12_isAsSeen 20 = .ok (.iload_n 3, 1)) ∧ (decode cX12_isAsSeen 21 = .ok (.iaload, 1)) ∧ (decode cX12_isAsSeen 22 = .ok (.iload_n 1, 1)) ∧ (decode cX12_isAsSeen 23 = .ok (.if_icmp .ne 23, 3)) ∧ (decode cX12_isAsSeen 26 = .ok (.aload_n 0, 1)) ∧ (decode cX12_isAsSeen 27 = .ok (.iload_n 1, 1)) ∧ (decode cX12_isAsSeen 28 = .ok (.aload_n 0, 1)) ∧ (decode cX12_isAsSeen 29 = .ok (.getfield 110, 3)) := by decide +kernel
theorem dX12_isAsSeen_16 : decode cX12_isAsSeen 16 = .ok (.aload_n 0, 1) := bdX12_isAsSeen_16.1
theorem dX12_isAsSeen_17 : decode cX12_isAsSeen 17 = .ok (.getfield 107, 3) := bdX12_isAsSeen_16.2.1
theorem dX12_isAsSeen_20 : decode cX12_isAsSeen 20 = .ok (.iload_n 3, 1) := bdX12_isAsSeen_16.2.2.1
theorem dX12_isAsSeen_21 : decode cX12_isAsSeen 21 = .ok (.iaload, 1) := bdX12_isAsSeen_16.2.2.2.1
theorem dX12_isAsSeen_22 : decode cX12_isAsSeen 22 = .ok (.iload_n 1, 1) := bdX12_isAsSeen_16.2.2.2.2.1
theorem dX12_isAsSeen_23 : decode cX12_isAsSeen 23 = .ok (.if_icmp .ne 23, 3) := bdX12_isAsSeen_16.2.2.2.2.2.1
theorem dX12_isAsSeen_26 : decode cX12_isAsSeen 26 = .ok (.aload_n 0, 1) := bdX12_isAsSeen_16.2.2.2.2.2.2.1
theorem dX12_isAsSeen_27 : decode cX12_isAsSeen 27 = .ok (.iload_n 1, 1) := bdX12_isAsSeen_16.2.2.2.2.2.2.2.1
theorem dX12_isAsSeen_28 : decode cX12_isAsSeen 28 = .ok (.aload_n 0, 1) := bdX12_isAsSeen_16.2.2.2.2.2.2.2.2.1
theorem dX12_isAsSeen_29 : decode cX12_isAsSeen 29 = .ok (.getfield 110, 3) := bdX12_isAsSeen_16.2.2.2.2.2.2.2.2.2
theorem bdX12_isAsSeen_32 : (decode cX12_isAsSeen 32 = .ok (.iload_n 3, 1)) ∧ (decode cX12_isAsSeen 33 = .ok (.iaload, 1)) ∧ (decode cX12_isAsSeen 34 = .ok (.invokevirtual 470, 3)) ∧ (decode cX12_isAsSeen 37 = .ok (.aload_n 0, 1)) ∧ (decode cX12_isAsSeen 38 = .ok (.getfield 113, 3)) ∧ (decode cX12_isAsSeen 41 = .ok (.iload_n 3, 1)) ∧ (decode cX12_isAsSeen 42 = .ok (.iaload, 1)) ∧ (decode cX12_isAsSeen 43 = .ok (.if_icmp .ne 7, 3)) ∧ (decode cX12_isAsSeen 46 = .ok (.iconst 1, 1)) ∧ (decode cX12_isAsSeen 47 = .ok (.goto 4, 3)) := by decide +kernel
theorem dX12_isAsSeen_32 : decode cX12_isAsSeen 32 = .ok (.iload_n 3, 1) := bdX12_isAsSeen_32.1
theorem dX12_isAsSeen_33 : decode cX12_isAsSeen 33 = .ok (.iaload, 1) := bdX12_isAsSeen_32.2.1
theorem dX12_isAsSeen_34 : decode cX12_isAsSeen 34 = .ok (.invokevirtual 470, 3) := bdX12_isAsSeen_32.2.2.1
theorem dX12_isAsSeen_37 : decode cX12_isAsSeen 37 = .ok (.aload_n 0, 1) := bdX12_isAsSeen_32.2.2.2.1
theorem dX12_isAsSeen_38 : decode cX12_isAsSeen 38 = .ok (.getfield 113, 3) := bdX12_isAsSeen_32.2.2.2.2.1
theorem dX12_isAsSeen_41 : decode cX12_isAsSeen 41 = .ok (.iload_n 3, 1) := bdX12_isAsSeen_32.2.2.2.2.2.1
theorem dX12_isAsSeen_42 : decode cX12_isAsSeen 42 = .ok (.iaload, 1) := bdX12_isAsSeen_32.2.2.2.2.2.2.1
theorem dX12_isAsSeen_43 : decode cX12_isAsSeen 43 = .ok (.if_icmp .ne 7, 3) := bdX12_isAsSeen_32.2.2.2.2.2.2.2.1
theorem dX12_isAsSeen_46 : decode cX12_isAsSeen 46 = .ok (.iconst 1, 1) := bdX12_isAsSeen_32.2.2.2.2.2.2.2.2.1
theorem dX12_isAsSeen_47 : decode cX12_isAsSeen 47 = .ok (.goto 4, 3) := bdX12_isAsSeen_32.2.2.2.2.2.2.2.2.2
theorem bdX12_isAsSeen_50 : (decode cX12_isAsSeen 50 = .ok (.iconst 0, 1)) ∧ (decode cX12_isAsSeen 51 = .ok (.istore_n 2, 1)) ∧ (decode cX12_isAsSeen 52 = .ok (.iinc 3 1, 3)) ∧ (decode cX12_isAsSeen 55 = .ok (.goto (-51), 3)) ∧ (decode cX12_isAsSeen 58 = .ok (.iload_n 2, 1)) ∧ (decode cX12_isAsSeen 59 = .ok (.ireturn, 1)) := by decide +kernel
theorem dX12_isAsSeen_50 : decode cX12_isAsSeen 50 = .ok (.iconst 0, 1) := bdX12_isAsSeen_50.1
theorem dX12_isAsSeen_51 : decode cX12_isAsSeen 51 = .ok (.istore_n 2, 1) := bdX12_isAsSeen_50.2.1
theorem dX12_isAsSeen_52 : decode cX12_isAsSeen 52 = .ok (.iinc 3 1, 3) := bdX12_isAsSeen_50.2.2.1
theorem dX12_isAsSeen_55 : decode cX12_isAsSeen 55 = .ok (.goto (-51), 3) := bdX12_isAsSeen_50.2.2.2.1
theorem dX12_isAsSeen_58 : decode cX12_isAsSeen 58 = .ok (.iload_n 2, 1) := bdX12_isAsSeen_50.2.2.2.2.1
theorem dX12_isAsSeen_59 : decode cX12_isAsSeen 59 = .ok (.ireturn, 1) := bdX12_isAsSeen_50.2.2.2.2.2
theorem bdX12_brothers_0 : (decode cX12_brothers 0 = .ok (.aload_n 0, 1)) ∧ (decode cX12_brothers 1 = .ok (.iconst 0, 1)) ∧ (decode cX12_brothers 2 = .ok (.putfield 140, 3)) ∧ (decode cX12_brothers 5 = .ok (.iconst 0, 1)) ∧ (decode cX12_brothers 6 = .ok (.istore_n 1, 1)) ∧ (decode cX12_brothers 7 = .ok (.aload_n 0, 1)) ∧ (decode cX12_brothers 8 = .ok (.getfield 314, 3)) ∧ (decode cX12_brothers 11 = .ok (.istore_n 2, 1)) ∧ (decode cX12_brothers 12 = .ok (.iconst 0, 1)) ∧ (decode cX12_brothers 13 = .ok (.istore_n 3, 1)) := by decide +kernel
theorem dX12_brothers_0 : decode cX12_brothers 0 = .ok (.aload_n 0, 1) := bdX12_brothers_0.1
theorem dX12_brothers_1 : decode cX12_brothers 1 = .ok (.iconst 0, 1) := bdX12_brothers_0.2.1
theorem dX12_brothers_2 : decode cX12_brothers 2 = .ok (.putfield 140, 3) := bdX12_brothers_0.2.2.1
theorem dX12_brothers_5 : decode cX12_brothers 5 = .ok (.iconst 0, 1) := bdX12_brothers_0.2.2.2.1
theorem dX12_brothers_6 : decode cX12_brothers 6 = .ok (.istore_n 1, 1) := bdX12_brothers_0.2.2.2.2.1
theorem dX12_brothers_7 : decode cX12_brothers 7 = .ok (.aload_n 0, 1) := bdX12_brothers_0.2.2.2.2.2.1
theorem dX12_brothers_8 : decode cX12_brothers 8 = .ok (.getfield 314, 3) := bdX12_brothers_0.2.2.2.2.2.2.1
theorem dX12_brothers_11 : decode cX12_brothers 11 = .ok (.istore_n 2, 1) := bdX12_brothers_0.2.2.2.2.2.2.2.1
theorem dX12_brothers_12 : decode cX12_brothers 12 = .ok (.iconst 0, 1) := bdX12_brothers_0.2.2.2.2.2.2.2.2.1
theorem dX12_brothers_13 : decode cX12_brothers 13 = .ok (.istore_n 3, 1) := bdX12_brothers_0.2.2.2.2.2.2.2.2.2
theorem bdX12_brothers_14 : (decode cX12_brothers 14 = .ok (.iload_n 3, 1)) ∧ (decode cX12_brothers 15 = .ok (.aload_n 0, 1)) ∧ (decode cX12_brothers 16 = .ok (.getfield 35, 3)) ∧ (decode cX12_brothers 19 = .ok (.iconst 0, 1)) ∧ (decode cX12_brothers 20 = .ok (.iaload, 1)) ∧ (decode cX12_brothers 21 = .ok (.if_icmp .ge 62, 3)) ∧ (decode cX12_brothers 24 = .ok (.iload_n 1, 1)) ∧ (decode cX12_brothers 25 = .ok (.aload_n 0, 1)) ∧ (decode cX12_brothers 26 = .ok (.iload_n 3, 1)) ∧ (decode cX12_brothers 27 = .ok (.invokevirtual 473, 3)) := by decide +kernel
theorem dX12_brothers_14 : decode cX12_brothers 14 = .ok (.iload_n 3, 1) := bdX12_brothers_14.1
theorem dX12_brothers_15 : decode cX12_brothers 15 = .ok (.aload_n 0, 1) := bdX12_brothers_14.2.1
theorem dX12_brothers_16 : decode cX12_brothers 16 = .ok (.getfield 35, 3) := bdX12_brothers_14.2.2.1
theorem dX12_brothers_19 : decode cX12_brothers 19 = .ok (.iconst 0, 1) := bdX12_brothers_14.2.2.2.1
theorem dX12_brothers_20 : decode cX12_brothers 20 = .ok (.iaload, 1) := bdX12_brothers_14.2.2.2.2.1
theorem dX12_brothers_21 : decode cX12_brothers 21 = .ok (.if_icmp .ge 62, 3) := bdX12_brothers_14.2.2.2.2.2.1
theorem dX12_brothers_24 : decode cX12_brothers 24 = .ok (.iload_n 1, 1) := bdX12_brothers_14.2.2.2.2.2.2.1
theorem dX12_brothers_25 : decode cX12_brothers 25 = .ok (.aload_n 0, 1) := bdX12_brothers_14.2.2.2.2.2.2.2.1
theorem dX12_brothers_26 : decode cX12_brothers 26 = .ok (.iload_n 3, 1) := bdX12_brothers_14.2.2.2.2.2.2.2.2.1
theorem dX12_brothers_27 : decode cX12_brothers 27 = .ok (.invokevirtual 473, 3) := bdX12_brothers_14.2.2.2.2.2.2.2.2.2
theorem bdX12_brothers_30 : (decode cX12_brothers 30 = .ok (.ifCond .eq 12, 3)) ∧ (decode cX12_brothers 33 = .ok (.iconst 1, 1)) ∧ (decode cX12_brothers 34 = .ok (.bipush 8, 2)) ∧ (decode cX12_brothers 36 = .ok (.iload_n 3, 1)) ∧ (decode cX12_brothers 37 = .ok (.iadd, 1)) ∧ (decode cX12_brothers 38 = .ok (.ishl, 1)) ∧ (decode cX12_brothers 39 = .ok (.goto 4, 3)) ∧ (decode cX12_brothers 42 = .ok (.iconst 0, 1)) ∧ (decode cX12_brothers 43 = .ok (.ior, 1)) ∧ (decode cX12_brothers 44 = .ok (.istore_n 1, 1)) := by decide +kernel
theorem dX12_brothers_30 : decode cX12_brothers 30 = .ok (.ifCond .eq 12, 3) := bdX12_brothers_30.1
theorem dX12_brothers_33 : decode cX12_brothers 33 = .ok (.iconst 1, 1) := bdX12_brothers_30.2.1
theorem dX12_brothers_34 : decode cX12_brothers 34 = .ok (.bipush 8, 2) := bdX12_brothers_30.2.2.1
theorem dX12_brothers_36 : decode cX12_brothers 36 = .ok (.iload_n 3, 1) := bdX12_brothers_30.2.2.2.1
theorem dX12_brothers_37 : decode cX12_brothers 37 = .ok (.iadd, 1) := bdX12_brothers_30.2.2.2.2.1
theorem dX12_brothers_38 : decode cX12_brothers 38 = .ok (.ishl, 1) := bdX12_brothers_30.2.2.2.2.2.1
theorem dX12_brothers_39 : decode cX12_brothers 39 = .ok (.goto 4, 3) := bdX12_brothers_30.2.2.2.2.2.2.1
theorem dX12_brothers_42 : decode cX12_brothers 42 = .ok (.iconst 0, 1) := bdX12_brothers_30.2.2.2.2.2.2.2.1
theorem dX12_brothers_43 : decode cX12_brothers 43 = .ok (.ior, 1) := bdX12_brothers_30.2.2.2.2.2.2.2.2.1
theorem dX12_brothers_44 : decode cX12_brothers 44 = .ok (.istore_n 1, 1) := bdX12_brothers_30.2.2.2.2.2.2.2.2.2
theorem bdX12_brothers_45 : (decode cX12_brothers 45 = .ok (.aload_n 0, 1)) ∧ (decode cX12_brothers 46 = .ok (.iload_n 2, 1)) ∧ (decode cX12_brothers 47 = .ok (.iconst 1, 1)) ∧ (decode cX12_brothers 48 = .ok (.iload_n 3, 1)) ∧ (decode cX12_brothers 49 = .ok (.ishl, 1)) ∧ (decode cX12_brothers 50 = .ok (.ixor, 1)) ∧ (decode cX12_brothers 51 = .ok (.putfield 314, 3)) ∧ (decode cX12_brothers 54 = .ok (.iload_n 1, 1)) ∧ (decode cX12_brothers 55 = .ok (.aload_n 0, 1)) ∧ (decode cX12_brothers 56 = .ok (.iload_n 3, 1)) := by decide +kernel
theorem dX12_brothers_45 : decode cX12_brothers 45 = .ok (.aload_n 0, 1) := bdX12_brothers_45.1
theorem dX12_brothers_46 : decode cX12_brothers 46 = .ok (.iload_n 2, 1) := bdX12_brothers_45.2.1
theorem dX12_brothers_47 : decode cX12_brothers 47 = .ok (.iconst 1, 1) := bdX12_brothers_45.2.2.1
theorem dX12_brothers_48 : decode cX12_brothers 48 = .ok (.iload_n 3, 1) := bdX12_brothers_45.2.2.2.1
theorem dX12_brothers_49 : decode cX12_brothers 49 = .ok (.ishl, 1) := bdX12_brothers_45.2.2.2.2.1
theorem dX12_brothers_50 : decode cX12_brothers 50 = .ok (.ixor, 1) := bdX12_brothers_45.2.2.2.2.2.1
theorem dX12_brothers_51 : decode cX12_brothers 51 = .ok (.putfield 314, 3) := bdX12_brothers_45.2.2.2.2.2.2.1
theorem dX12_brothers_54 : decode cX12_brothers 54 = .ok (.iload_n 1, 1) := bdX12_brothers_45.2.2.2.2.2.2.2.1
theorem dX12_brothers_55 : decode cX12_brothers 55 = .ok (.aload_n 0, 1) := bdX12_brothers_45.2.2.2.2.2.2.2.2.1
theorem dX12_brothers_56 : decode cX12_brothers 56 = .ok (.iload_n 3, 1) := bdX12_brothers_45.2.2.2.2.2.2.2.2.2
theorem bdX12_brothers_57 : (decode cX12_brothers 57 = .ok (.invokevirtual 473, 3)) ∧ (decode cX12_brothers 60 = .ok (.ifCond .eq 9, 3)) ∧ (decode cX12_brothers 63 = .ok (.iconst 1, 1)) ∧ (decode cX12_brothers 64 = .ok (.iload_n 3, 1)) ∧ (decode cX12_brothers 65 = .ok (.ishl, 1)) ∧ (decode cX12_brothers 66 = .ok (.goto 4, 3)) ∧ (decode cX12_brothers 69 = .ok (.iconst 0, 1)) ∧ (decode cX12_brothers 70 = .ok (.ior, 1)) ∧ (decode cX12_brothers 71 = .ok (.istore_n 1, 1)) ∧ (decode cX12_brothers 72 = .ok (.aload_n 0, 1)) := by decide +kernel
theorem dX12_brothers_57 : decode cX12_brothers 57 = .ok (.invokevirtual 473, 3) := bdX12_brothers_57.1
theorem dX12_brothers_60 : decode cX12_brothers 60 = .ok (.ifCond .eq 9, 3) := bdX12_brothers_57.2.1
theorem dX12_brothers_63 : decode cX12_brothers 63 = .ok (.iconst 1, 1) := bdX12_brothers_57.2.2.1
theorem dX12_brothers_64 : decode cX12_brothers 64 = .ok (.iload_n 3, 1) := bdX12_brothers_57.2.2.2.1
theorem dX12_brothers_65 : decode cX12_brothers 65 = .ok (.ishl, 1) := bdX12_brothers_57.2.2.2.2.1
theorem dX12_brothers_66 : decode cX12_brothers 66 = .ok (.goto 4, 3) := bdX12_brothers_57.2.2.2.2.2.1
theorem dX12_brothers_69 : decode cX12_brothers 69 = .ok (.iconst 0, 1) := bdX12_brothers_57.2.2.2.2.2.2.1
theorem dX12_brothers_70 : decode cX12_brothers 70 = .ok (.ior, 1) := bdX12_brothers_57.2.2.2.2.2.2.2.1
theorem dX12_brothers_71 : decode cX12_brothers 71 = .ok (.istore_n 1, 1) := bdX12_brothers_57.2.2.2.2.2.2.2.2.1
theorem dX12_brothers_72 : decode cX12_brothers 72 = .ok (.aload_n 0, 1) := bdX12_brothers_57.2.2.2.2.2.2.2.2.2
theorem bdX12_brothers_73 : (decode cX12_brothers 73 = .ok (.iload_n 2, 1)) ∧ (decode cX12_brothers 74 = .ok (.putfield 314, 3)) ∧ (decode cX12_brothers 77 = .ok (.iinc 3 1, 3)) ∧ (decode cX12_brothers 80 = .ok (.goto (-66), 3)) ∧ (decode cX12_brothers 83 = .ok (.iload_n 1, 1)) ∧ (decode cX12_brothers 84 = .ok (.ireturn, 1)) := by decide +kernel
theorem dX12_brothers_73 : decode cX12_brothers 73 = .ok (.iload_n 2, 1) := bdX12_brothers_73.1
theorem dX12_brothers_74 : decode cX12_brothers 74 = .ok (.putfield 314, 3) := bdX12_brothers_73.2.1
theorem dX12_brothers_77 : decode cX12_brothers 77 = .ok (.iinc 3 1, 3) := bdX12_brothers_73.2.2.1
theorem dX12_brothers_80 : decode cX12_brothers 80 = .ok (.goto (-66), 3) := bdX12_brothers_73.2.2.2.1
theorem dX12_brothers_83 : decode cX12_brothers 83 = .ok (.iload_n 1, 1) := bdX12_brothers_73.2.2.2.2.1
theorem dX12_brothers_84 : decode cX12_brothers 84 = .ok (.ireturn, 1) := bdX12_brothers_73.2.2.2.2.2
theorem bdX12_look_0 : (decode cX12_look 0 = .ok (.aload_n 0, 1)) ∧ (decode cX12_look 1 = .ok (.iconst 0, 1)) ∧ (decode cX12_look 2 = .ok (.putfield 140, 3)) ∧ (decode cX12_look 5 = .ok (.aload_n 0, 1)) ∧ (decode cX12_look 6 = .ok (.iload_n 1, 1)) ∧ (decode cX12_look 7 = .ok (.invokevirtual 371, 3)) ∧ (decode cX12_look 10 = .ok (.ifCond .eq 12, 3)) ∧ (decode cX12_look 13 = .ok (.iload_n 2, 1)) ∧ (decode cX12_look 14 = .ok (.ifCond .lt 8, 3)) ∧ (decode cX12_look 17 = .ok (.iload_n 2, 1)) := by decide +kernel
theorem dX12_look_0 : decode cX12_look 0 = .ok (.aload_n 0, 1) := bdX12_look_0.1
theorem dX12_look_1 : decode cX12_look 1 = .ok (.iconst 0, 1) := bdX12_look_0.2.1
theorem dX12_look_2 : decode cX12_look 2 = .ok (.putfield 140, 3) := bdX12_look_0.2.2.1
theorem dX12_look_5 : decode cX12_look 5 = .ok (.aload_n 0, 1) := bdX12_look_0.2.2.2.1
theorem dX12_look_6 : decode cX12_look 6 = .ok (.iload_n 1, 1) := bdX12_look_0.2.2.2.2.1
theorem dX12_look_7 : decode cX12_look 7 = .ok (.invokevirtual 371, 3) := bdX12_look_0.2.2.2.2.2.1
theorem dX12_look_10 : decode cX12_look 10 = .ok (.ifCond .eq 12, 3) := bdX12_look_0.2.2.2.2.2.2.1
theorem dX12_look_13 : decode cX12_look 13 = .ok (.iload_n 2, 1) := bdX12_look_0.2.2.2.2.2.2.2.1
theorem dX12_look_14 : decode cX12_look 14 = .ok (.ifCond .lt 8, 3) := bdX12_look_0.2.2.2.2.2.2.2.2.1
theorem dX12_look_17 : decode cX12_look 17 = .ok (.iload_n 2, 1) := bdX12_look_0.2.2.2.2.2.2.2.2.2
theorem bdX12_look_18 : (decode cX12_look 18 = .ok (.iconst 1, 1)) ∧ (decode cX12_look 19 = .ok (.if_icmp .le 9, 3)) ∧ (decode cX12_look 22 = .ok (.aload_n 0, 1)) ∧ (decode cX12_look 23 = .ok (.iconst 1, 1)) ∧ (decode cX12_look 24 = .ok (.invokevirtual 290, 3)) ∧ (decode cX12_look 27 = .ok (.ireturn, 1)) ∧ (decode cX12_look 28 = .ok (.aload_n 0, 1)) ∧ (decode cX12_look 29 = .ok (.getfield 314, 3)) ∧ (decode cX12_look 32 = .ok (.istore_n 3, 1)) ∧ (decode cX12_look 33 = .ok (.iconst (-1), 1)) := by decide +kernel
theorem dX12_look_18 : decode cX12_look 18 = .ok (.iconst 1, 1) := bdX12_look_18.1
theorem dX12_look_19 : decode cX12_look 19 = .ok (.if_icmp .le 9, 3) := bdX12_look_18.2.1
theorem dX12_look_22 : decode cX12_look 22 = .ok (.aload_n 0, 1) := bdX12_look_18.2.2.1
theorem dX12_look_23 : decode cX12_look 23 = .ok (.iconst 1, 1) := bdX12_look_18.2.2.2.1
theorem dX12_look_24 : decode cX12_look 24 = .ok (.invokevirtual 290, 3) := bdX12_look_18.2.2.2.2.1
theorem dX12_look_27 : decode cX12_look 27 = .ok (.ireturn, 1) := bdX12_look_18.2.2.2.2.2.1
theorem dX12_look_28 : decode cX12_look 28 = .ok (.aload_n 0, 1) := bdX12_look_18.2.2.2.2.2.2.1
theorem dX12_look_29 : decode cX12_look 29 = .ok (.getfield 314, 3) := bdX12_look_18.2.2.2.2.2.2.2.1
theorem dX12_look_32 : decode cX12_look 32 = .ok (.istore_n 3, 1) := bdX12_look_18.2.2.2.2.2.2.2.2.1
theorem dX12_look_33 : decode cX12_look 33 = .ok (.iconst (-1), 1) := bdX12_look_18.2.2.2.2.2.2.2.2.2
theorem bdX12_look_34 : (decode cX12_look 34 = .ok (.istore 4, 2)) ∧ (decode cX12_look 36 = .ok (.iconst 0, 1)) ∧ (decode cX12_look 37 = .ok (.istore 5, 2)) ∧ (decode cX12_look 39 = .ok (.iconst 0, 1)) ∧ (decode cX12_look 40 = .ok (.istore 6, 2)) ∧ (decode cX12_look 42 = .ok (.iload 6, 2)) ∧ (decode cX12_look 44 = .ok (.bipush 100, 2)) ∧ (decode cX12_look 46 = .ok (.if_icmp .ge 65, 3)) ∧ (decode cX12_look 49 = .ok (.aload_n 0, 1)) ∧ (decode cX12_look 50 = .ok (.iload_n 1, 1)) := by decide +kernel
theorem dX12_look_34 : decode cX12_look 34 = .ok (.istore 4, 2) := bdX12_look_34.1
theorem dX12_look_36 : decode cX12_look 36 = .ok (.iconst 0, 1) := bdX12_look_34.2.1
theorem dX12_look_37 : decode cX12_look 37 = .ok (.istore 5, 2) := bdX12_look_34.2.2.1
theorem dX12_look_39 : decode cX12_look 39 = .ok (.iconst 0, 1) := bdX12_look_34.2.2.2.1
theorem dX12_look_40 : decode cX12_look 40 = .ok (.istore 6, 2) := bdX12_look_34.2.2.2.2.1
theorem dX12_look_42 : decode cX12_look 42 = .ok (.iload 6, 2) := bdX12_look_34.2.2.2.2.2.1
theorem dX12_look_44 : decode cX12_look 44 = .ok (.bipush 100, 2) := bdX12_look_34.2.2.2.2.2.2.1
theorem dX12_look_46 : decode cX12_look 46 = .ok (.if_icmp .ge 65, 3) := bdX12_look_34.2.2.2.2.2.2.2.1
theorem dX12_look_49 : decode cX12_look 49 = .ok (.aload_n 0, 1) := bdX12_look_34.2.2.2.2.2.2.2.2.1
theorem dX12_look_50 : decode cX12_look 50 = .ok (.iload_n 1, 1) := bdX12_look_34.2.2.2.2.2.2.2.2.2
theorem bdX12_look_51 : (decode cX12_look 51 = .ok (.iload 6, 2)) ∧ (decode cX12_look 53 = .ok (.invokevirtual 470, 3)) ∧ (decode cX12_look 56 = .ok (.istore 7, 2)) ∧ (decode cX12_look 58 = .ok (.aload_n 0, 1)) ∧ (decode cX12_look 59 = .ok (.iload_n 3, 1)) ∧ (decode cX12_look 60 = .ok (.iconst 1, 1)) ∧ (decode cX12_look 61 = .ok (.iload_n 1, 1)) ∧ (decode cX12_look 62 = .ok (.ishl, 1)) ∧ (decode cX12_look 63 = .ok (.ixor, 1)) ∧ (decode cX12_look 64 = .ok (.putfield 314, 3)) := by decide +kernel
theorem dX12_look_51 : decode cX12_look 51 = .ok (.iload 6, 2) := bdX12_look_51.1
theorem dX12_look_53 : decode cX12_look 53 = .ok (.invokevirtual 470, 3) := bdX12_look_51.2.1
theorem dX12_look_56 : decode cX12_look 56 = .ok (.istore 7, 2) := bdX12_look_51.2.2.1
theorem dX12_look_58 : decode cX12_look 58 = .ok (.aload_n 0, 1) := bdX12_look_51.2.2.2.1
theorem dX12_look_59 : decode cX12_look 59 = .ok (.iload_n 3, 1) := bdX12_look_51.2.2.2.2.1
theorem dX12_look_60 : decode cX12_look 60 = .ok (.iconst 1, 1) := bdX12_look_51.2.2.2.2.2.1
theorem dX12_look_61 : decode cX12_look 61 = .ok (.iload_n 1, 1) := bdX12_look_51.2.2.2.2.2.2.1
theorem dX12_look_62 : decode cX12_look 62 = .ok (.ishl, 1) := bdX12_look_51.2.2.2.2.2.2.2.1
theorem dX12_look_63 : decode cX12_look 63 = .ok (.ixor, 1) := bdX12_look_51.2.2.2.2.2.2.2.2.1
theorem dX12_look_64 : decode cX12_look 64 = .ok (.putfield 314, 3) := bdX12_look_51.2.2.2.2.2.2.2.2.2
theorem bdX12_look_67 : (decode cX12_look 67 = .ok (.iload 7, 2)) ∧ (decode cX12_look 69 = .ok (.aload_n 0, 1)) ∧ (decode cX12_look 70 = .ok (.iload_n 1, 1)) ∧ (decode cX12_look 71 = .ok (.iload 6, 2)) ∧ (decode cX12_look 73 = .ok (.invokevirtual 470, 3)) ∧ (decode cX12_look 76 = .ok (.isub, 1)) ∧ (decode cX12_look 77 = .ok (.invokestatic 336, 3)) ∧ (decode cX12_look 80 = .ok (.istore 7, 2)) ∧ (decode cX12_look 82 = .ok (.aload_n 0, 1)) ∧ (decode cX12_look 83 = .ok (.iload_n 3, 1)) := by decide +kernel
theorem dX12_look_67 : decode cX12_look 67 = .ok (.iload 7, 2) := bdX12_look_67.1
theorem dX12_look_69 : decode cX12_look 69 = .ok (.aload_n 0, 1) := bdX12_look_67.2.1
theorem dX12_look_70 : decode cX12_look 70 = .ok (.iload_n 1, 1) := bdX12_look_67.2.2.1
theorem dX12_look_71 : decode cX12_look 71 = .ok (.iload 6, 2) := bdX12_look_67.2.2.2.1
theorem dX12_look_73 : decode cX12_look 73 = .ok (.invokevirtual 470, 3) := bdX12_look_67.2.2.2.2.1
theorem dX12_look_76 : decode cX12_look 76 = .ok (.isub, 1) := bdX12_look_67.2.2.2.2.2.1
theorem dX12_look_77 : decode cX12_look 77 = .ok (.invokestatic 336, 3) := bdX12_look_67.2.2.2.2.2.2.1
theorem dX12_look_80 : decode cX12_look 80 = .ok (.istore 7, 2) := bdX12_look_67.2.2.2.2.2.2.2.1
theorem dX12_look_82 : decode cX12_look 82 = .ok (.aload_n 0, 1) := bdX12_look_67.2.2.2.2.2.2.2.2.1
theorem dX12_look_83 : decode cX12_look 83 = .ok (.iload_n 3, 1) := bdX12_look_67.2.2.2.2.2.2.2.2.2
theorem bdX12_look_84 : (decode cX12_look 84 = .ok (.putfield 314, 3)) ∧ (decode cX12_look 87 = .ok (.iload 7, 2)) ∧ (decode cX12_look 89 = .ok (.iload 5, 2)) ∧ (decode cX12_look 91 = .ok (.if_icmp .gt 6, 3)) ∧ (decode cX12_look 94 = .ok (.goto 11, 3)) ∧ (decode cX12_look 97 = .ok (.iload 6, 2)) ∧ (decode cX12_look 99 = .ok (.istore 4, 2)) ∧ (decode cX12_look 101 = .ok (.iload 7, 2)) ∧ (decode cX12_look 103 = .ok (.istore 5, 2)) ∧ (decode cX12_look 105 = .ok (.iinc 6 1, 3)) := by decide +kernel
theorem dX12_look_84 : decode cX12_look 84 = .ok (.putfield 314, 3) := bdX12_look_84.1
theorem dX12_look_87 : decode cX12_look 87 = .ok (.iload 7, 2) := bdX12_look_84.2.1
theorem dX12_look_89 : decode cX12_look 89 = .ok (.iload 5, 2) := bdX12_look_84.2.2.1
theorem dX12_look_91 : decode cX12_look 91 = .ok (.if_icmp .gt 6, 3) := bdX12_look_84.2.2.2.1
theorem dX12_look_94 : decode cX12_look 94 = .ok (.goto 11, 3) := bdX12_look_84.2.2.2.2.1
theorem dX12_look_97 : decode cX12_look 97 = .ok (.iload 6, 2) := bdX12_look_84.2.2.2.2.2.1
theorem dX12_look_99 : decode cX12_look 99 = .ok (.istore 4, 2) := bdX12_look_84.2.2.2.2.2.2.1
theorem dX12_look_101 : decode cX12_look 101 = .ok (.iload 7, 2) := bdX12_look_84.2.2.2.2.2.2.2.1
theorem dX12_look_103 : decode cX12_look 103 = .ok (.istore 5, 2) := bdX12_look_84.2.2.2.2.2.2.2.2.1
theorem dX12_look_105 : decode cX12_look 105 = .ok (.iinc 6 1, 3) := bdX12_look_84.2.2.2.2.2.2.2.2.2
theorem bdX12_look_108 : (decode cX12_look 108 = .ok (.goto (-66), 3)) ∧ (decode cX12_look 111 = .ok (.iload_n 2, 1)) ∧ (decode cX12_look 112 = .ok (.ifCond .ne 8, 3)) ∧ (decode cX12_look 115 = .ok (.iload 4, 2)) ∧ (decode cX12_look 117 = .ok (.goto 5, 3)) ∧ (decode cX12_look 120 = .ok (.iload 5, 2)) ∧ (decode cX12_look 122 = .ok (.ireturn, 1)) := by decide +kernel
theorem dX12_look_108 : decode cX12_look 108 = .ok (.goto (-66), 3) := bdX12_look_108.1
theorem dX12_look_111 : decode cX12_look 111 = .ok (.iload_n 2, 1) := bdX12_look_108.2.1
theorem dX12_look_112 : decode cX12_look 112 = .ok (.ifCond .ne 8, 3) := bdX12_look_108.2.2.1
theorem dX12_look_115 : decode cX12_look 115 = .ok (.iload 4, 2) := bdX12_look_108.2.2.2.1
theorem dX12_look_117 : decode cX12_look 117 = .ok (.goto 5, 3) := bdX12_look_108.2.2.2.2.1
theorem dX12_look_120 : decode cX12_look 120 = .ok (.iload 5, 2) := bdX12_look_108.2.2.2.2.2.1
theorem dX12_look_122 : decode cX12_look 122 = .ok (.ireturn, 1) := bdX12_look_108.2.2.2.2.2.2
theorem bdX12_forget_0 : (decode cX12_forget 0 = .ok (.aload_n 0, 1)) ∧ (decode cX12_forget 1 = .ok (.iconst 0, 1)) ∧ (decode cX12_forget 2 = .ok (.putfield 140, 3)) ∧ (decode cX12_forget 5 = .ok (.aload_n 0, 1)) ∧ (decode cX12_forget 6 = .ok (.iconst 0, 1)) ∧ (decode cX12_forget 7 = .ok (.putfield 323, 3)) ∧ (decode cX12_forget 10 = .ok (.return_, 1)) := by decide +kernel
theorem dX12_forget_0 : decode cX12_forget 0 = .ok (.aload_n 0, 1) := bdX12_forget_0.1
theorem dX12_forget_1 : decode cX12_forget 1 = .ok (.iconst 0, 1) := bdX12_forget_0.2.1
theorem dX12_forget_2 : decode cX12_forget 2 = .ok (.putfield 140, 3) := bdX12_forget_0.2.2.1
theorem dX12_forget_5 : decode cX12_forget 5 = .ok (.aload_n 0, 1) := bdX12_forget_0.2.2.2.1
theorem dX12_forget_6 : decode cX12_forget 6 = .ok (.iconst 0, 1) := bdX12_forget_0.2.2.2.2.1
theorem dX12_forget_7 : decode cX12_forget 7 = .ok (.putfield 323, 3) := bdX12_forget_0.2.2.2.2.2.1
theorem dX12_forget_10 : decode cX12_forget 10 = .ok (.return_, 1) := bdX12_forget_0.2.2.2.2.2.2
theorem bdX12_gain_0 : (decode cX12_gain 0 = .ok (.iload 4, 2)) ∧ (decode cX12_gain 2 = .ok (.ifCond .ne 30, 3)) ∧ (decode cX12_gain 5 = .ok (.aload_n 0, 1)) ∧ (decode cX12_gain 6 = .ok (.getfield 76, 3)) ∧ (decode cX12_gain 9 = .ok (.iload_n 1, 1)) ∧ (decode cX12_gain 10 = .ok (.iaload, 1)) ∧ (decode cX12_gain 11 = .ok (.iconst (-1), 1)) ∧ (decode cX12_gain 12 = .ok (.if_icmp .ne 7, 3)) ∧ (decode cX12_gain 15 = .ok (.lconst 0, 1)) ∧ (decode cX12_gain 16 = .ok (.goto 15, 3)) := by decide +kernel
theorem dX12_gain_0 : decode cX12_gain 0 = .ok (.iload 4, 2) := bdX12_gain_0.1
theorem dX12_gain_2 : decode cX12_gain 2 = .ok (.ifCond .ne 30, 3) := bdX12_gain_0.2.1
theorem dX12_gain_5 : decode cX12_gain 5 = .ok (.aload_n 0, 1) := bdX12_gain_0.2.2.1
theorem dX12_gain_6 : decode cX12_gain 6 = .ok (.getfield 76, 3) := bdX12_gain_0.2.2.2.1
theorem dX12_gain_9 : decode cX12_gain 9 = .ok (.iload_n 1, 1) := bdX12_gain_0.2.2.2.2.1
theorem dX12_gain_10 : decode cX12_gain 10 = .ok (.iaload, 1) := bdX12_gain_0.2.2.2.2.2.1
theorem dX12_gain_11 : decode cX12_gain 11 = .ok (.iconst (-1), 1) := bdX12_gain_0.2.2.2.2.2.2.1
theorem dX12_gain_12 : decode cX12_gain 12 = .ok (.if_icmp .ne 7, 3) := bdX12_gain_0.2.2.2.2.2.2.2.1
theorem dX12_gain_15 : decode cX12_gain 15 = .ok (.lconst 0, 1) := bdX12_gain_0.2.2.2.2.2.2.2.2.1
theorem dX12_gain_16 : decode cX12_gain 16 = .ok (.goto 15, 3) := bdX12_gain_0.2.2.2.2.2.2.2.2.2
theorem bdX12_gain_19 : (decode cX12_gain 19 = .ok (.aload_n 0, 1)) ∧ (decode cX12_gain 20 = .ok (.iload_n 1, 1)) ∧ (decode cX12_gain 21 = .ok (.aload_n 0, 1)) ∧ (decode cX12_gain 22 = .ok (.getfield 76, 3)) ∧ (decode cX12_gain 25 = .ok (.iload_n 1, 1)) ∧ (decode cX12_gain 26 = .ok (.iaload, 1)) ∧ (decode cX12_gain 27 = .ok (.invokevirtual 362, 3)) ∧ (decode cX12_gain 30 = .ok (.i2l, 1)) ∧ (decode cX12_gain 31 = .ok (.lreturn, 1)) ∧ (decode cX12_gain 32 = .ok (.iload 5, 2)) := by decide +kernel
theorem dX12_gain_19 : decode cX12_gain 19 = .ok (.aload_n 0, 1) := bdX12_gain_19.1
theorem dX12_gain_20 : decode cX12_gain 20 = .ok (.iload_n 1, 1) := bdX12_gain_19.2.1
theorem dX12_gain_21 : decode cX12_gain 21 = .ok (.aload_n 0, 1) := bdX12_gain_19.2.2.1
theorem dX12_gain_22 : decode cX12_gain 22 = .ok (.getfield 76, 3) := bdX12_gain_19.2.2.2.1
theorem dX12_gain_25 : decode cX12_gain 25 = .ok (.iload_n 1, 1) := bdX12_gain_19.2.2.2.2.1
theorem dX12_gain_26 : decode cX12_gain 26 = .ok (.iaload, 1) := bdX12_gain_19.2.2.2.2.2.1
theorem dX12_gain_27 : decode cX12_gain 27 = .ok (.invokevirtual 362, 3) := bdX12_gain_19.2.2.2.2.2.2.1
theorem dX12_gain_30 : decode cX12_gain 30 = .ok (.i2l, 1) := bdX12_gain_19.2.2.2.2.2.2.2.1
theorem dX12_gain_31 : decode cX12_gain 31 = .ok (.lreturn, 1) := bdX12_gain_19.2.2.2.2.2.2.2.2.1
theorem dX12_gain_32 : decode cX12_gain 32 = .ok (.iload 5, 2) := bdX12_gain_19.2.2.2.2.2.2.2.2.2
theorem bdX12_gain_34 : (decode cX12_gain 34 = .ok (.ifCond .ne 11, 3)) ∧ (decode cX12_gain 37 = .ok (.aload_n 0, 1)) ∧ (decode cX12_gain 38 = .ok (.iload_n 1, 1)) ∧ (decode cX12_gain 39 = .ok (.iload_n 3, 1)) ∧ (decode cX12_gain 40 = .ok (.invokevirtual 362, 3)) ∧ (decode cX12_gain 43 = .ok (.i2l, 1)) ∧ (decode cX12_gain 44 = .ok (.lreturn, 1)) ∧ (decode cX12_gain 45 = .ok (.aload_n 0, 1)) ∧ (decode cX12_gain 46 = .ok (.iload_n 1, 1)) ∧ (decode cX12_gain 47 = .ok (.invokevirtual 339, 3)) := by decide +kernel
theorem dX12_gain_34 : decode cX12_gain 34 = .ok (.ifCond .ne 11, 3) := bdX12_gain_34.1
theorem dX12_gain_37 : decode cX12_gain 37 = .ok (.aload_n 0, 1) := bdX12_gain_34.2.1
theorem dX12_gain_38 : decode cX12_gain 38 = .ok (.iload_n 1, 1) := bdX12_gain_34.2.2.1
theorem dX12_gain_39 : decode cX12_gain 39 = .ok (.iload_n 3, 1) := bdX12_gain_34.2.2.2.1
theorem dX12_gain_40 : decode cX12_gain 40 = .ok (.invokevirtual 362, 3) := bdX12_gain_34.2.2.2.2.1
theorem dX12_gain_43 : decode cX12_gain 43 = .ok (.i2l, 1) := bdX12_gain_34.2.2.2.2.2.1
theorem dX12_gain_44 : decode cX12_gain 44 = .ok (.lreturn, 1) := bdX12_gain_34.2.2.2.2.2.2.1
theorem dX12_gain_45 : decode cX12_gain 45 = .ok (.aload_n 0, 1) := bdX12_gain_34.2.2.2.2.2.2.2.1
theorem dX12_gain_46 : decode cX12_gain 46 = .ok (.iload_n 1, 1) := bdX12_gain_34.2.2.2.2.2.2.2.2.1
theorem dX12_gain_47 : decode cX12_gain 47 = .ok (.invokevirtual 339, 3) := bdX12_gain_34.2.2.2.2.2.2.2.2.2
theorem bdX12_gain_50 : (decode cX12_gain 50 = .ok (.aload_n 0, 1)) ∧ (decode cX12_gain 51 = .ok (.iload_n 2, 1)) ∧ (decode cX12_gain 52 = .ok (.invokevirtual 339, 3)) ∧ (decode cX12_gain 55 = .ok (.if_icmp .le 17, 3)) ∧ (decode cX12_gain 58 = .ok (.aload_n 0, 1)) ∧ (decode cX12_gain 59 = .ok (.iload_n 1, 1)) ∧ (decode cX12_gain 60 = .ok (.iload_n 3, 1)) ∧ (decode cX12_gain 61 = .ok (.invokevirtual 362, 3)) ∧ (decode cX12_gain 64 = .ok (.i2l, 1)) ∧ (decode cX12_gain 65 = .ok (.ldc2_w 476, 3)) := by decide +kernel
theorem dX12_gain_50 : decode cX12_gain 50 = .ok (.aload_n 0, 1) := bdX12_gain_50.1
theorem dX12_gain_51 : decode cX12_gain 51 = .ok (.iload_n 2, 1) := bdX12_gain_50.2.1
theorem dX12_gain_52 : decode cX12_gain 52 = .ok (.invokevirtual 339, 3) := bdX12_gain_50.2.2.1
theorem dX12_gain_55 : decode cX12_gain 55 = .ok (.if_icmp .le 17, 3) := bdX12_gain_50.2.2.2.1
theorem dX12_gain_58 : decode cX12_gain 58 = .ok (.aload_n 0, 1) := bdX12_gain_50.2.2.2.2.1
theorem dX12_gain_59 : decode cX12_gain 59 = .ok (.iload_n 1, 1) := bdX12_gain_50.2.2.2.2.2.1
theorem dX12_gain_60 : decode cX12_gain 60 = .ok (.iload_n 3, 1) := bdX12_gain_50.2.2.2.2.2.2.1
theorem dX12_gain_61 : decode cX12_gain 61 = .ok (.invokevirtual 362, 3) := bdX12_gain_50.2.2.2.2.2.2.2.1
theorem dX12_gain_64 : decode cX12_gain 64 = .ok (.i2l, 1) := bdX12_gain_50.2.2.2.2.2.2.2.2.1
theorem dX12_gain_65 : decode cX12_gain 65 = .ok (.ldc2_w 476, 3) := bdX12_gain_50.2.2.2.2.2.2.2.2.2
theorem bdX12_gain_68 : (decode cX12_gain 68 = .ok (.lsub, 1)) ∧ (decode cX12_gain 69 = .ok (.goto 4, 3)) ∧ (decode cX12_gain 72 = .ok (.lconst 0, 1)) ∧ (decode cX12_gain 73 = .ok (.lreturn, 1)) := by decide +kernel
theorem dX12_gain_68 : decode cX12_gain 68 = .ok (.lsub, 1) := bdX12_gain_68.1
theorem dX12_gain_69 : decode cX12_gain 69 = .ok (.goto 4, 3) := bdX12_gain_68.2.1
theorem dX12_gain_72 : decode cX12_gain 72 = .ok (.lconst 0, 1) := bdX12_gain_68.2.2.1
theorem dX12_gain_73 : decode cX12_gain 73 = .ok (.lreturn, 1) := bdX12_gain_68.2.2.2
theorem bdX12_game_0 : (decode cX12_game 0 = .ok (.aload_n 0, 1)) ∧ (decode cX12_game 1 = .ok (.iconst 0, 1)) ∧ (decode cX12_game 2 = .ok (.putfield 140, 3)) ∧ (decode cX12_game 5 = .ok (.aload_n 0, 1)) ∧ (decode cX12_game 6 = .ok (.iload_n 1, 1)) ∧ (decode cX12_game 7 = .ok (.invokevirtual 371, 3)) ∧ (decode cX12_game 10 = .ok (.ifCond .eq 30, 3)) ∧ (decode cX12_game 13 = .ok (.aload_n 0, 1)) ∧ (decode cX12_game 14 = .ok (.iload_n 2, 1)) ∧ (decode cX12_game 15 = .ok (.invokevirtual 371, 3)) := by decide +kernel
theorem dX12_game_0 : decode cX12_game 0 = .ok (.aload_n 0, 1) := bdX12_game_0.1
theorem dX12_game_1 : decode cX12_game 1 = .ok (.iconst 0, 1) := bdX12_game_0.2.1
theorem dX12_game_2 : decode cX12_game 2 = .ok (.putfield 140, 3) := bdX12_game_0.2.2.1
theorem dX12_game_5 : decode cX12_game 5 = .ok (.aload_n 0, 1) := bdX12_game_0.2.2.2.1
theorem dX12_game_6 : decode cX12_game 6 = .ok (.iload_n 1, 1) := bdX12_game_0.2.2.2.2.1
theorem dX12_game_7 : decode cX12_game 7 = .ok (.invokevirtual 371, 3) := bdX12_game_0.2.2.2.2.2.1
theorem dX12_game_10 : decode cX12_game 10 = .ok (.ifCond .eq 30, 3) := bdX12_game_0.2.2.2.2.2.2.1
theorem dX12_game_13 : decode cX12_game 13 = .ok (.aload_n 0, 1) := bdX12_game_0.2.2.2.2.2.2.2.1
theorem dX12_game_14 : decode cX12_game 14 = .ok (.iload_n 2, 1) := bdX12_game_0.2.2.2.2.2.2.2.2.1
theorem dX12_game_15 : decode cX12_game 15 = .ok (.invokevirtual 371, 3) := bdX12_game_0.2.2.2.2.2.2.2.2.2
theorem bdX12_game_18 : (decode cX12_game 18 = .ok (.ifCond .eq 22, 3)) ∧ (decode cX12_game 21 = .ok (.aload_n 0, 1)) ∧ (decode cX12_game 22 = .ok (.iload_n 3, 1)) ∧ (decode cX12_game 23 = .ok (.invokevirtual 380, 3)) ∧ (decode cX12_game 26 = .ok (.ifCond .eq 14, 3)) ∧ (decode cX12_game 29 = .ok (.iload 4, 2)) ∧ (decode cX12_game 31 = .ok (.ifCond .lt 9, 3)) ∧ (decode cX12_game 34 = .ok (.iload 4, 2)) ∧ (decode cX12_game 36 = .ok (.iconst 1, 1)) ∧ (decode cX12_game 37 = .ok (.if_icmp .le 9, 3)) := by decide +kernel
theorem dX12_game_18 : decode cX12_game 18 = .ok (.ifCond .eq 22, 3) := bdX12_game_18.1
theorem dX12_game_21 : decode cX12_game 21 = .ok (.aload_n 0, 1) := bdX12_game_18.2.1
theorem dX12_game_22 : decode cX12_game 22 = .ok (.iload_n 3, 1) := bdX12_game_18.2.2.1
theorem dX12_game_23 : decode cX12_game 23 = .ok (.invokevirtual 380, 3) := bdX12_game_18.2.2.2.1
theorem dX12_game_26 : decode cX12_game 26 = .ok (.ifCond .eq 14, 3) := bdX12_game_18.2.2.2.2.1
theorem dX12_game_29 : decode cX12_game 29 = .ok (.iload 4, 2) := bdX12_game_18.2.2.2.2.2.1
theorem dX12_game_31 : decode cX12_game 31 = .ok (.ifCond .lt 9, 3) := bdX12_game_18.2.2.2.2.2.2.1
theorem dX12_game_34 : decode cX12_game 34 = .ok (.iload 4, 2) := bdX12_game_18.2.2.2.2.2.2.2.1
theorem dX12_game_36 : decode cX12_game 36 = .ok (.iconst 1, 1) := bdX12_game_18.2.2.2.2.2.2.2.2.1
theorem dX12_game_37 : decode cX12_game 37 = .ok (.if_icmp .le 9, 3) := bdX12_game_18.2.2.2.2.2.2.2.2.2
theorem bdX12_game_40 : (decode cX12_game 40 = .ok (.aload_n 0, 1)) ∧ (decode cX12_game 41 = .ok (.iconst 1, 1)) ∧ (decode cX12_game 42 = .ok (.invokevirtual 290, 3)) ∧ (decode cX12_game 45 = .ok (.ireturn, 1)) ∧ (decode cX12_game 46 = .ok (.iload_n 1, 1)) ∧ (decode cX12_game 47 = .ok (.iload_n 2, 1)) ∧ (decode cX12_game 48 = .ok (.if_icmp .ne 9, 3)) ∧ (decode cX12_game 51 = .ok (.aload_n 0, 1)) ∧ (decode cX12_game 52 = .ok (.iconst 2, 1)) ∧ (decode cX12_game 53 = .ok (.invokevirtual 290, 3)) := by decide +kernel
theorem dX12_game_40 : decode cX12_game 40 = .ok (.aload_n 0, 1) := bdX12_game_40.1
theorem dX12_game_41 : decode cX12_game 41 = .ok (.iconst 1, 1) := bdX12_game_40.2.1
theorem dX12_game_42 : decode cX12_game 42 = .ok (.invokevirtual 290, 3) := bdX12_game_40.2.2.1
theorem dX12_game_45 : decode cX12_game 45 = .ok (.ireturn, 1) := bdX12_game_40.2.2.2.1
theorem dX12_game_46 : decode cX12_game 46 = .ok (.iload_n 1, 1) := bdX12_game_40.2.2.2.2.1
theorem dX12_game_47 : decode cX12_game 47 = .ok (.iload_n 2, 1) := bdX12_game_40.2.2.2.2.2.1
theorem dX12_game_48 : decode cX12_game 48 = .ok (.if_icmp .ne 9, 3) := bdX12_game_40.2.2.2.2.2.2.1
theorem dX12_game_51 : decode cX12_game 51 = .ok (.aload_n 0, 1) := bdX12_game_40.2.2.2.2.2.2.2.1
theorem dX12_game_52 : decode cX12_game 52 = .ok (.iconst 2, 1) := bdX12_game_40.2.2.2.2.2.2.2.2.1
theorem dX12_game_53 : decode cX12_game 53 = .ok (.invokevirtual 290, 3) := bdX12_game_40.2.2.2.2.2.2.2.2.2
theorem bdX12_game_56 : (decode cX12_game 56 = .ok (.ireturn, 1)) ∧ (decode cX12_game 57 = .ok (.iconst 0, 1)) ∧ (decode cX12_game 58 = .ok (.istore 5, 2)) ∧ (decode cX12_game 60 = .ok (.iconst (-1), 1)) ∧ (decode cX12_game 61 = .ok (.istore 6, 2)) ∧ (decode cX12_game 63 = .ok (.iconst 0, 1)) ∧ (decode cX12_game 64 = .ok (.istore 7, 2)) ∧ (decode cX12_game 66 = .ok (.iload 7, 2)) ∧ (decode cX12_game 68 = .ok (.iconst 4, 1)) ∧ (decode cX12_game 69 = .ok (.if_icmp .ge 104, 3)) := by decide +kernel
theorem dX12_game_56 : decode cX12_game 56 = .ok (.ireturn, 1) := bdX12_game_56.1
theorem dX12_game_57 : decode cX12_game 57 = .ok (.iconst 0, 1) := bdX12_game_56.2.1
theorem dX12_game_58 : decode cX12_game 58 = .ok (.istore 5, 2) := bdX12_game_56.2.2.1
theorem dX12_game_60 : decode cX12_game 60 = .ok (.iconst (-1), 1) := bdX12_game_56.2.2.2.1
theorem dX12_game_61 : decode cX12_game 61 = .ok (.istore 6, 2) := bdX12_game_56.2.2.2.2.1
theorem dX12_game_63 : decode cX12_game 63 = .ok (.iconst 0, 1) := bdX12_game_56.2.2.2.2.2.1
theorem dX12_game_64 : decode cX12_game 64 = .ok (.istore 7, 2) := bdX12_game_56.2.2.2.2.2.2.1
theorem dX12_game_66 : decode cX12_game 66 = .ok (.iload 7, 2) := bdX12_game_56.2.2.2.2.2.2.2.1
theorem dX12_game_68 : decode cX12_game 68 = .ok (.iconst 4, 1) := bdX12_game_56.2.2.2.2.2.2.2.2.1
theorem dX12_game_69 : decode cX12_game 69 = .ok (.if_icmp .ge 104, 3) := bdX12_game_56.2.2.2.2.2.2.2.2.2
theorem bdX12_game_72 : (decode cX12_game 72 = .ok (.iload 7, 2)) ∧ (decode cX12_game 74 = .ok (.iconst 2, 1)) ∧ (decode cX12_game 75 = .ok (.idiv, 1)) ∧ (decode cX12_game 76 = .ok (.istore 8, 2)) ∧ (decode cX12_game 78 = .ok (.iload 7, 2)) ∧ (decode cX12_game 80 = .ok (.iconst 2, 1)) ∧ (decode cX12_game 81 = .ok (.irem, 1)) ∧ (decode cX12_game 82 = .ok (.istore 9, 2)) ∧ (decode cX12_game 84 = .ok (.aload_n 0, 1)) ∧ (decode cX12_game 85 = .ok (.iload_n 1, 1)) := by decide +kernel
theorem dX12_game_72 : decode cX12_game 72 = .ok (.iload 7, 2) := bdX12_game_72.1
theorem dX12_game_74 : decode cX12_game 74 = .ok (.iconst 2, 1) := bdX12_game_72.2.1
theorem dX12_game_75 : decode cX12_game 75 = .ok (.idiv, 1) := bdX12_game_72.2.2.1
theorem dX12_game_76 : decode cX12_game 76 = .ok (.istore 8, 2) := bdX12_game_72.2.2.2.1
theorem dX12_game_78 : decode cX12_game 78 = .ok (.iload 7, 2) := bdX12_game_72.2.2.2.2.1
theorem dX12_game_80 : decode cX12_game 80 = .ok (.iconst 2, 1) := bdX12_game_72.2.2.2.2.2.1
theorem dX12_game_81 : decode cX12_game 81 = .ok (.irem, 1) := bdX12_game_72.2.2.2.2.2.2.1
theorem dX12_game_82 : decode cX12_game 82 = .ok (.istore 9, 2) := bdX12_game_72.2.2.2.2.2.2.2.1
theorem dX12_game_84 : decode cX12_game 84 = .ok (.aload_n 0, 1) := bdX12_game_72.2.2.2.2.2.2.2.2.1
theorem dX12_game_85 : decode cX12_game 85 = .ok (.iload_n 1, 1) := bdX12_game_72.2.2.2.2.2.2.2.2.2
theorem bdX12_game_86 : (decode cX12_game 86 = .ok (.iload_n 2, 1)) ∧ (decode cX12_game 87 = .ok (.iload_n 3, 1)) ∧ (decode cX12_game 88 = .ok (.iconst 1, 1)) ∧ (decode cX12_game 89 = .ok (.iload 8, 2)) ∧ (decode cX12_game 91 = .ok (.isub, 1)) ∧ (decode cX12_game 92 = .ok (.iload 9, 2)) ∧ (decode cX12_game 94 = .ok (.invokevirtual 478, 3)) ∧ (decode cX12_game 97 = .ok (.aload_n 0, 1)) ∧ (decode cX12_game 98 = .ok (.iload_n 1, 1)) ∧ (decode cX12_game 99 = .ok (.iload_n 2, 1)) := by decide +kernel
theorem dX12_game_86 : decode cX12_game 86 = .ok (.iload_n 2, 1) := bdX12_game_86.1
theorem dX12_game_87 : decode cX12_game 87 = .ok (.iload_n 3, 1) := bdX12_game_86.2.1
theorem dX12_game_88 : decode cX12_game 88 = .ok (.iconst 1, 1) := bdX12_game_86.2.2.1
theorem dX12_game_89 : decode cX12_game 89 = .ok (.iload 8, 2) := bdX12_game_86.2.2.2.1
theorem dX12_game_91 : decode cX12_game 91 = .ok (.isub, 1) := bdX12_game_86.2.2.2.2.1
theorem dX12_game_92 : decode cX12_game 92 = .ok (.iload 9, 2) := bdX12_game_86.2.2.2.2.2.1
theorem dX12_game_94 : decode cX12_game 94 = .ok (.invokevirtual 478, 3) := bdX12_game_86.2.2.2.2.2.2.1
theorem dX12_game_97 : decode cX12_game 97 = .ok (.aload_n 0, 1) := bdX12_game_86.2.2.2.2.2.2.2.1
theorem dX12_game_98 : decode cX12_game 98 = .ok (.iload_n 1, 1) := bdX12_game_86.2.2.2.2.2.2.2.2.1
theorem dX12_game_99 : decode cX12_game 99 = .ok (.iload_n 2, 1) := bdX12_game_86.2.2.2.2.2.2.2.2.2
theorem bdX12_game_100 : (decode cX12_game 100 = .ok (.iload_n 3, 1)) ∧ (decode cX12_game 101 = .ok (.iload 8, 2)) ∧ (decode cX12_game 103 = .ok (.iload 9, 2)) ∧ (decode cX12_game 105 = .ok (.invokevirtual 478, 3)) ∧ (decode cX12_game 108 = .ok (.lcmp, 1)) ∧ (decode cX12_game 109 = .ok (.ifCond .gt 58, 3)) ∧ (decode cX12_game 112 = .ok (.aload_n 0, 1)) ∧ (decode cX12_game 113 = .ok (.iload_n 2, 1)) ∧ (decode cX12_game 114 = .ok (.iload_n 1, 1)) ∧ (decode cX12_game 115 = .ok (.iload_n 3, 1)) := by decide +kernel
theorem dX12_game_100 : decode cX12_game 100 = .ok (.iload_n 3, 1) := bdX12_game_100.1
theorem dX12_game_101 : decode cX12_game 101 = .ok (.iload 8, 2) := bdX12_game_100.2.1
theorem dX12_game_103 : decode cX12_game 103 = .ok (.iload 9, 2) := bdX12_game_100.2.2.1
theorem dX12_game_105 : decode cX12_game 105 = .ok (.invokevirtual 478, 3) := bdX12_game_100.2.2.2.1
theorem dX12_game_108 : decode cX12_game 108 = .ok (.lcmp, 1) := bdX12_game_100.2.2.2.2.1
theorem dX12_game_109 : decode cX12_game 109 = .ok (.ifCond .gt 58, 3) := bdX12_game_100.2.2.2.2.2.1
theorem dX12_game_112 : decode cX12_game 112 = .ok (.aload_n 0, 1) := bdX12_game_100.2.2.2.2.2.2.1
theorem dX12_game_113 : decode cX12_game 113 = .ok (.iload_n 2, 1) := bdX12_game_100.2.2.2.2.2.2.2.1
theorem dX12_game_114 : decode cX12_game 114 = .ok (.iload_n 1, 1) := bdX12_game_100.2.2.2.2.2.2.2.2.1
theorem dX12_game_115 : decode cX12_game 115 = .ok (.iload_n 3, 1) := bdX12_game_100.2.2.2.2.2.2.2.2.2
theorem bdX12_game_116 : (decode cX12_game 116 = .ok (.iconst 1, 1)) ∧ (decode cX12_game 117 = .ok (.iload 9, 2)) ∧ (decode cX12_game 119 = .ok (.isub, 1)) ∧ (decode cX12_game 120 = .ok (.iload 8, 2)) ∧ (decode cX12_game 122 = .ok (.invokevirtual 478, 3)) ∧ (decode cX12_game 125 = .ok (.aload_n 0, 1)) ∧ (decode cX12_game 126 = .ok (.iload_n 2, 1)) ∧ (decode cX12_game 127 = .ok (.iload_n 1, 1)) ∧ (decode cX12_game 128 = .ok (.iload_n 3, 1)) ∧ (decode cX12_game 129 = .ok (.iload 9, 2)) := by decide +kernel
theorem dX12_game_116 : decode cX12_game 116 = .ok (.iconst 1, 1) := bdX12_game_116.1
theorem dX12_game_117 : decode cX12_game 117 = .ok (.iload 9, 2) := bdX12_game_116.2.1
theorem dX12_game_119 : decode cX12_game 119 = .ok (.isub, 1) := bdX12_game_116.2.2.1
theorem dX12_game_120 : decode cX12_game 120 = .ok (.iload 8, 2) := bdX12_game_116.2.2.2.1
theorem dX12_game_122 : decode cX12_game 122 = .ok (.invokevirtual 478, 3) := bdX12_game_116.2.2.2.2.1
theorem dX12_game_125 : decode cX12_game 125 = .ok (.aload_n 0, 1) := bdX12_game_116.2.2.2.2.2.1
theorem dX12_game_126 : decode cX12_game 126 = .ok (.iload_n 2, 1) := bdX12_game_116.2.2.2.2.2.2.1
theorem dX12_game_127 : decode cX12_game 127 = .ok (.iload_n 1, 1) := bdX12_game_116.2.2.2.2.2.2.2.1
theorem dX12_game_128 : decode cX12_game 128 = .ok (.iload_n 3, 1) := bdX12_game_116.2.2.2.2.2.2.2.2.1
theorem dX12_game_129 : decode cX12_game 129 = .ok (.iload 9, 2) := bdX12_game_116.2.2.2.2.2.2.2.2.2
theorem bdX12_game_131 : (decode cX12_game 131 = .ok (.iload 8, 2)) ∧ (decode cX12_game 133 = .ok (.invokevirtual 478, 3)) ∧ (decode cX12_game 136 = .ok (.lcmp, 1)) ∧ (decode cX12_game 137 = .ok (.ifCond .le 6, 3)) ∧ (decode cX12_game 140 = .ok (.goto 27, 3)) ∧ (decode cX12_game 143 = .ok (.iinc 5 1, 3)) ∧ (decode cX12_game 146 = .ok (.iload 6, 2)) ∧ (decode cX12_game 148 = .ok (.iconst (-1), 1)) ∧ (decode cX12_game 149 = .ok (.if_icmp .ne 14, 3)) ∧ (decode cX12_game 152 = .ok (.bipush 10, 2)) := by decide +kernel
theorem dX12_game_131 : decode cX12_game 131 = .ok (.iload 8, 2) := bdX12_game_131.1
theorem dX12_game_133 : decode cX12_game 133 = .ok (.invokevirtual 478, 3) := bdX12_game_131.2.1
theorem dX12_game_136 : decode cX12_game 136 = .ok (.lcmp, 1) := bdX12_game_131.2.2.1
theorem dX12_game_137 : decode cX12_game 137 = .ok (.ifCond .le 6, 3) := bdX12_game_131.2.2.2.1
theorem dX12_game_140 : decode cX12_game 140 = .ok (.goto 27, 3) := bdX12_game_131.2.2.2.2.1
theorem dX12_game_143 : decode cX12_game 143 = .ok (.iinc 5 1, 3) := bdX12_game_131.2.2.2.2.2.1
theorem dX12_game_146 : decode cX12_game 146 = .ok (.iload 6, 2) := bdX12_game_131.2.2.2.2.2.2.1
theorem dX12_game_148 : decode cX12_game 148 = .ok (.iconst (-1), 1) := bdX12_game_131.2.2.2.2.2.2.2.1
theorem dX12_game_149 : decode cX12_game 149 = .ok (.if_icmp .ne 14, 3) := bdX12_game_131.2.2.2.2.2.2.2.2.1
theorem dX12_game_152 : decode cX12_game 152 = .ok (.bipush 10, 2) := bdX12_game_131.2.2.2.2.2.2.2.2.2
theorem bdX12_game_154 : (decode cX12_game 154 = .ok (.iload 8, 2)) ∧ (decode cX12_game 156 = .ok (.imul, 1)) ∧ (decode cX12_game 157 = .ok (.iload 9, 2)) ∧ (decode cX12_game 159 = .ok (.iadd, 1)) ∧ (decode cX12_game 160 = .ok (.goto 5, 3)) ∧ (decode cX12_game 163 = .ok (.iload 6, 2)) ∧ (decode cX12_game 165 = .ok (.istore 6, 2)) ∧ (decode cX12_game 167 = .ok (.iinc 7 1, 3)) ∧ (decode cX12_game 170 = .ok (.goto (-104), 3)) ∧ (decode cX12_game 173 = .ok (.iload 4, 2)) := by decide +kernel
theorem dX12_game_154 : decode cX12_game 154 = .ok (.iload 8, 2) := bdX12_game_154.1
theorem dX12_game_156 : decode cX12_game 156 = .ok (.imul, 1) := bdX12_game_154.2.1
theorem dX12_game_157 : decode cX12_game 157 = .ok (.iload 9, 2) := bdX12_game_154.2.2.1
theorem dX12_game_159 : decode cX12_game 159 = .ok (.iadd, 1) := bdX12_game_154.2.2.2.1
theorem dX12_game_160 : decode cX12_game 160 = .ok (.goto 5, 3) := bdX12_game_154.2.2.2.2.1
theorem dX12_game_163 : decode cX12_game 163 = .ok (.iload 6, 2) := bdX12_game_154.2.2.2.2.2.1
theorem dX12_game_165 : decode cX12_game 165 = .ok (.istore 6, 2) := bdX12_game_154.2.2.2.2.2.2.1
theorem dX12_game_167 : decode cX12_game 167 = .ok (.iinc 7 1, 3) := bdX12_game_154.2.2.2.2.2.2.2.1
theorem dX12_game_170 : decode cX12_game 170 = .ok (.goto (-104), 3) := bdX12_game_154.2.2.2.2.2.2.2.2.1
theorem dX12_game_173 : decode cX12_game 173 = .ok (.iload 4, 2) := bdX12_game_154.2.2.2.2.2.2.2.2.2
theorem bdX12_game_175 : (decode cX12_game 175 = .ok (.ifCond .ne 8, 3)) ∧ (decode cX12_game 178 = .ok (.iload 5, 2)) ∧ (decode cX12_game 180 = .ok (.goto 5, 3)) ∧ (decode cX12_game 183 = .ok (.iload 6, 2)) ∧ (decode cX12_game 185 = .ok (.ireturn, 1)) := by decide +kernel
theorem dX12_game_175 : decode cX12_game 175 = .ok (.ifCond .ne 8, 3) := bdX12_game_175.1
theorem dX12_game_178 : decode cX12_game 178 = .ok (.iload 5, 2) := bdX12_game_175.2.1
theorem dX12_game_180 : decode cX12_game 180 = .ok (.goto 5, 3) := bdX12_game_175.2.2.1
theorem dX12_game_183 : decode cX12_game 183 = .ok (.iload 6, 2) := bdX12_game_175.2.2.2.1
theorem dX12_game_185 : decode cX12_game 185 = .ok (.ireturn, 1) := bdX12_game_175.2.2.2.2
theorem bdX12_founders_0 : (decode cX12_founders 0 = .ok (.aload_n 0, 1)) ∧ (decode cX12_founders 1 = .ok (.iconst 0, 1)) ∧ (decode cX12_founders 2 = .ok (.putfield 140, 3)) ∧ (decode cX12_founders 5 = .ok (.iload_n 3, 1)) ∧ (decode cX12_founders 6 = .ok (.i2l, 1)) ∧ (decode cX12_founders 7 = .ok (.lconst 0, 1)) ∧ (decode cX12_founders 8 = .ok (.ldc2_w 482, 3)) ∧ (decode cX12_founders 11 = .ok (.invokestatic 143, 3)) ∧ (decode cX12_founders 14 = .ok (.ifCond .ne 9, 3)) ∧ (decode cX12_founders 17 = .ok (.aload_n 0, 1)) := by decide +kernel
theorem dX12_founders_0 : decode cX12_founders 0 = .ok (.aload_n 0, 1) := bdX12_founders_0.1
theorem dX12_founders_1 : decode cX12_founders 1 = .ok (.iconst 0, 1) := bdX12_founders_0.2.1
theorem dX12_founders_2 : decode cX12_founders 2 = .ok (.putfield 140, 3) := bdX12_founders_0.2.2.1
theorem dX12_founders_5 : decode cX12_founders 5 = .ok (.iload_n 3, 1) := bdX12_founders_0.2.2.2.1
theorem dX12_founders_6 : decode cX12_founders 6 = .ok (.i2l, 1) := bdX12_founders_0.2.2.2.2.1
theorem dX12_founders_7 : decode cX12_founders 7 = .ok (.lconst 0, 1) := bdX12_founders_0.2.2.2.2.2.1
theorem dX12_founders_8 : decode cX12_founders 8 = .ok (.ldc2_w 482, 3) := bdX12_founders_0.2.2.2.2.2.2.1
theorem dX12_founders_11 : decode cX12_founders 11 = .ok (.invokestatic 143, 3) := bdX12_founders_0.2.2.2.2.2.2.2.1
theorem dX12_founders_14 : decode cX12_founders 14 = .ok (.ifCond .ne 9, 3) := bdX12_founders_0.2.2.2.2.2.2.2.2.1
theorem dX12_founders_17 : decode cX12_founders 17 = .ok (.aload_n 0, 1) := bdX12_founders_0.2.2.2.2.2.2.2.2.2
theorem bdX12_founders_18 : (decode cX12_founders 18 = .ok (.iconst 1, 1)) ∧ (decode cX12_founders 19 = .ok (.invokevirtual 290, 3)) ∧ (decode cX12_founders 22 = .ok (.ireturn, 1)) ∧ (decode cX12_founders 23 = .ok (.iload_n 2, 1)) ∧ (decode cX12_founders 24 = .ok (.i2l, 1)) ∧ (decode cX12_founders 25 = .ok (.lconst 0, 1)) ∧ (decode cX12_founders 26 = .ok (.ldc2_w 415, 3)) ∧ (decode cX12_founders 29 = .ok (.invokestatic 143, 3)) ∧ (decode cX12_founders 32 = .ok (.ifCond .ne 9, 3)) ∧ (decode cX12_founders 35 = .ok (.aload_n 0, 1)) := by decide +kernel
theorem dX12_founders_18 : decode cX12_founders 18 = .ok (.iconst 1, 1) := bdX12_founders_18.1
theorem dX12_founders_19 : decode cX12_founders 19 = .ok (.invokevirtual 290, 3) := bdX12_founders_18.2.1
theorem dX12_founders_22 : decode cX12_founders 22 = .ok (.ireturn, 1) := bdX12_founders_18.2.2.1
theorem dX12_founders_23 : decode cX12_founders 23 = .ok (.iload_n 2, 1) := bdX12_founders_18.2.2.2.1
theorem dX12_founders_24 : decode cX12_founders 24 = .ok (.i2l, 1) := bdX12_founders_18.2.2.2.2.1
theorem dX12_founders_25 : decode cX12_founders 25 = .ok (.lconst 0, 1) := bdX12_founders_18.2.2.2.2.2.1
theorem dX12_founders_26 : decode cX12_founders 26 = .ok (.ldc2_w 415, 3) := bdX12_founders_18.2.2.2.2.2.2.1
theorem dX12_founders_29 : decode cX12_founders 29 = .ok (.invokestatic 143, 3) := bdX12_founders_18.2.2.2.2.2.2.2.1
theorem dX12_founders_32 : decode cX12_founders 32 = .ok (.ifCond .ne 9, 3) := bdX12_founders_18.2.2.2.2.2.2.2.2.1
theorem dX12_founders_35 : decode cX12_founders 35 = .ok (.aload_n 0, 1) := bdX12_founders_18.2.2.2.2.2.2.2.2.2
theorem bdX12_founders_36 : (decode cX12_founders 36 = .ok (.iconst 2, 1)) ∧ (decode cX12_founders 37 = .ok (.invokevirtual 290, 3)) ∧ (decode cX12_founders 40 = .ok (.ireturn, 1)) ∧ (decode cX12_founders 41 = .ok (.aload_n 0, 1)) ∧ (decode cX12_founders 42 = .ok (.aload_n 0, 1)) ∧ (decode cX12_founders 43 = .ok (.getfield 104, 3)) ∧ (decode cX12_founders 46 = .ok (.iconst 0, 1)) ∧ (decode cX12_founders 47 = .ok (.invokevirtual 387, 3)) ∧ (decode cX12_founders 50 = .ok (.aload_n 0, 1)) ∧ (decode cX12_founders 51 = .ok (.iload_n 1, 1)) := by decide +kernel
theorem dX12_founders_36 : decode cX12_founders 36 = .ok (.iconst 2, 1) := bdX12_founders_36.1
theorem dX12_founders_37 : decode cX12_founders 37 = .ok (.invokevirtual 290, 3) := bdX12_founders_36.2.1
theorem dX12_founders_40 : decode cX12_founders 40 = .ok (.ireturn, 1) := bdX12_founders_36.2.2.1
theorem dX12_founders_41 : decode cX12_founders 41 = .ok (.aload_n 0, 1) := bdX12_founders_36.2.2.2.1
theorem dX12_founders_42 : decode cX12_founders 42 = .ok (.aload_n 0, 1) := bdX12_founders_36.2.2.2.2.1
theorem dX12_founders_43 : decode cX12_founders 43 = .ok (.getfield 104, 3) := bdX12_founders_36.2.2.2.2.2.1
theorem dX12_founders_46 : decode cX12_founders 46 = .ok (.iconst 0, 1) := bdX12_founders_36.2.2.2.2.2.2.1
theorem dX12_founders_47 : decode cX12_founders 47 = .ok (.invokevirtual 387, 3) := bdX12_founders_36.2.2.2.2.2.2.2.1
theorem dX12_founders_50 : decode cX12_founders 50 = .ok (.aload_n 0, 1) := bdX12_founders_36.2.2.2.2.2.2.2.2.1
theorem dX12_founders_51 : decode cX12_founders 51 = .ok (.iload_n 1, 1) := bdX12_founders_36.2.2.2.2.2.2.2.2.2
theorem bdX12_founders_52 : (decode cX12_founders 52 = .ok (.putfield 391, 3)) ∧ (decode cX12_founders 55 = .ok (.iconst 0, 1)) ∧ (decode cX12_founders 56 = .ok (.istore 4, 2)) ∧ (decode cX12_founders 58 = .ok (.iconst 0, 1)) ∧ (decode cX12_founders 59 = .ok (.istore 5, 2)) ∧ (decode cX12_founders 61 = .ok (.iconst 0, 1)) ∧ (decode cX12_founders 62 = .ok (.istore 6, 2)) ∧ (decode cX12_founders 64 = .ok (.iconst 0, 1)) ∧ (decode cX12_founders 65 = .ok (.istore 7, 2)) ∧ (decode cX12_founders 67 = .ok (.iload 7, 2)) := by decide +kernel
theorem dX12_founders_52 : decode cX12_founders 52 = .ok (.putfield 391, 3) := bdX12_founders_52.1
theorem dX12_founders_55 : decode cX12_founders 55 = .ok (.iconst 0, 1) := bdX12_founders_52.2.1
theorem dX12_founders_56 : decode cX12_founders 56 = .ok (.istore 4, 2) := bdX12_founders_52.2.2.1
theorem dX12_founders_58 : decode cX12_founders 58 = .ok (.iconst 0, 1) := bdX12_founders_52.2.2.2.1
theorem dX12_founders_59 : decode cX12_founders 59 = .ok (.istore 5, 2) := bdX12_founders_52.2.2.2.2.1
theorem dX12_founders_61 : decode cX12_founders 61 = .ok (.iconst 0, 1) := bdX12_founders_52.2.2.2.2.2.1
theorem dX12_founders_62 : decode cX12_founders 62 = .ok (.istore 6, 2) := bdX12_founders_52.2.2.2.2.2.2.1
theorem dX12_founders_64 : decode cX12_founders 64 = .ok (.iconst 0, 1) := bdX12_founders_52.2.2.2.2.2.2.2.1
theorem dX12_founders_65 : decode cX12_founders 65 = .ok (.istore 7, 2) := bdX12_founders_52.2.2.2.2.2.2.2.2.1
theorem dX12_founders_67 : decode cX12_founders 67 = .ok (.iload 7, 2) := bdX12_founders_52.2.2.2.2.2.2.2.2.2
theorem bdX12_founders_69 : (decode cX12_founders 69 = .ok (.iload_n 2, 1)) ∧ (decode cX12_founders 70 = .ok (.if_icmp .ge 115, 3)) ∧ (decode cX12_founders 73 = .ok (.aload_n 0, 1)) ∧ (decode cX12_founders 74 = .ok (.iconst 0, 1)) ∧ (decode cX12_founders 75 = .ok (.putfield 303, 3)) ∧ (decode cX12_founders 78 = .ok (.aload_n 0, 1)) ∧ (decode cX12_founders 79 = .ok (.iconst 0, 1)) ∧ (decode cX12_founders 80 = .ok (.putfield 305, 3)) ∧ (decode cX12_founders 83 = .ok (.iconst 0, 1)) ∧ (decode cX12_founders 84 = .ok (.istore 8, 2)) := by decide +kernel
theorem dX12_founders_69 : decode cX12_founders 69 = .ok (.iload_n 2, 1) := bdX12_founders_69.1
theorem dX12_founders_70 : decode cX12_founders 70 = .ok (.if_icmp .ge 115, 3) := bdX12_founders_69.2.1
theorem dX12_founders_73 : decode cX12_founders 73 = .ok (.aload_n 0, 1) := bdX12_founders_69.2.2.1
theorem dX12_founders_74 : decode cX12_founders 74 = .ok (.iconst 0, 1) := bdX12_founders_69.2.2.2.1
theorem dX12_founders_75 : decode cX12_founders 75 = .ok (.putfield 303, 3) := bdX12_founders_69.2.2.2.2.1
theorem dX12_founders_78 : decode cX12_founders 78 = .ok (.aload_n 0, 1) := bdX12_founders_69.2.2.2.2.2.1
theorem dX12_founders_79 : decode cX12_founders 79 = .ok (.iconst 0, 1) := bdX12_founders_69.2.2.2.2.2.2.1
theorem dX12_founders_80 : decode cX12_founders 80 = .ok (.putfield 305, 3) := bdX12_founders_69.2.2.2.2.2.2.2.1
theorem dX12_founders_83 : decode cX12_founders 83 = .ok (.iconst 0, 1) := bdX12_founders_69.2.2.2.2.2.2.2.2.1
theorem dX12_founders_84 : decode cX12_founders 84 = .ok (.istore 8, 2) := bdX12_founders_69.2.2.2.2.2.2.2.2.2
theorem bdX12_founders_86 : (decode cX12_founders 86 = .ok (.iload 8, 2)) ∧ (decode cX12_founders 88 = .ok (.bipush 8, 2)) ∧ (decode cX12_founders 90 = .ok (.if_icmp .ge 17, 3)) ∧ (decode cX12_founders 93 = .ok (.aload_n 0, 1)) ∧ (decode cX12_founders 94 = .ok (.getfield 73, 3)) ∧ (decode cX12_founders 97 = .ok (.iload 8, 2)) ∧ (decode cX12_founders 99 = .ok (.iconst 0, 1)) ∧ (decode cX12_founders 100 = .ok (.iastore, 1)) ∧ (decode cX12_founders 101 = .ok (.iinc 8 1, 3)) ∧ (decode cX12_founders 104 = .ok (.goto (-18), 3)) := by decide +kernel
theorem dX12_founders_86 : decode cX12_founders 86 = .ok (.iload 8, 2) := bdX12_founders_86.1
theorem dX12_founders_88 : decode cX12_founders 88 = .ok (.bipush 8, 2) := bdX12_founders_86.2.1
theorem dX12_founders_90 : decode cX12_founders 90 = .ok (.if_icmp .ge 17, 3) := bdX12_founders_86.2.2.1
theorem dX12_founders_93 : decode cX12_founders 93 = .ok (.aload_n 0, 1) := bdX12_founders_86.2.2.2.1
theorem dX12_founders_94 : decode cX12_founders 94 = .ok (.getfield 73, 3) := bdX12_founders_86.2.2.2.2.1
theorem dX12_founders_97 : decode cX12_founders 97 = .ok (.iload 8, 2) := bdX12_founders_86.2.2.2.2.2.1
theorem dX12_founders_99 : decode cX12_founders 99 = .ok (.iconst 0, 1) := bdX12_founders_86.2.2.2.2.2.2.1
theorem dX12_founders_100 : decode cX12_founders 100 = .ok (.iastore, 1) := bdX12_founders_86.2.2.2.2.2.2.2.1
theorem dX12_founders_101 : decode cX12_founders 101 = .ok (.iinc 8 1, 3) := bdX12_founders_86.2.2.2.2.2.2.2.2.1
theorem dX12_founders_104 : decode cX12_founders 104 = .ok (.goto (-18), 3) := bdX12_founders_86.2.2.2.2.2.2.2.2.2
theorem bdX12_founders_107 : (decode cX12_founders 107 = .ok (.aload_n 0, 1)) ∧ (decode cX12_founders 108 = .ok (.invokevirtual 401, 3)) ∧ (decode cX12_founders 111 = .ok (.aload_n 0, 1)) ∧ (decode cX12_founders 112 = .ok (.iconst 5, 1)) ∧ (decode cX12_founders 113 = .ok (.invokevirtual 417, 3)) ∧ (decode cX12_founders 116 = .ok (.iload 4, 2)) ∧ (decode cX12_founders 118 = .ok (.aload_n 0, 1)) ∧ (decode cX12_founders 119 = .ok (.getfield 305, 3)) ∧ (decode cX12_founders 122 = .ok (.invokestatic 431, 3)) ∧ (decode cX12_founders 125 = .ok (.iadd, 1)) := by decide +kernel
theorem dX12_founders_107 : decode cX12_founders 107 = .ok (.aload_n 0, 1) := bdX12_founders_107.1
theorem dX12_founders_108 : decode cX12_founders 108 = .ok (.invokevirtual 401, 3) := bdX12_founders_107.2.1
theorem dX12_founders_111 : decode cX12_founders 111 = .ok (.aload_n 0, 1) := bdX12_founders_107.2.2.1
theorem dX12_founders_112 : decode cX12_founders 112 = .ok (.iconst 5, 1) := bdX12_founders_107.2.2.2.1
theorem dX12_founders_113 : decode cX12_founders 113 = .ok (.invokevirtual 417, 3) := bdX12_founders_107.2.2.2.2.1
theorem dX12_founders_116 : decode cX12_founders 116 = .ok (.iload 4, 2) := bdX12_founders_107.2.2.2.2.2.1
theorem dX12_founders_118 : decode cX12_founders 118 = .ok (.aload_n 0, 1) := bdX12_founders_107.2.2.2.2.2.2.1
theorem dX12_founders_119 : decode cX12_founders 119 = .ok (.getfield 305, 3) := bdX12_founders_107.2.2.2.2.2.2.2.1
theorem dX12_founders_122 : decode cX12_founders 122 = .ok (.invokestatic 431, 3) := bdX12_founders_107.2.2.2.2.2.2.2.2.1
theorem dX12_founders_125 : decode cX12_founders 125 = .ok (.iadd, 1) := bdX12_founders_107.2.2.2.2.2.2.2.2.2
theorem bdX12_founders_126 : (decode cX12_founders 126 = .ok (.istore 4, 2)) ∧ (decode cX12_founders 128 = .ok (.iload 6, 2)) ∧ (decode cX12_founders 130 = .ok (.aload_n 0, 1)) ∧ (decode cX12_founders 131 = .ok (.getfield 305, 3)) ∧ (decode cX12_founders 134 = .ok (.ifCond .ne 7, 3)) ∧ (decode cX12_founders 137 = .ok (.iconst 1, 1)) ∧ (decode cX12_founders 138 = .ok (.goto 4, 3)) ∧ (decode cX12_founders 141 = .ok (.iconst 0, 1)) ∧ (decode cX12_founders 142 = .ok (.iadd, 1)) ∧ (decode cX12_founders 143 = .ok (.istore 6, 2)) := by decide +kernel
theorem dX12_founders_126 : decode cX12_founders 126 = .ok (.istore 4, 2) := bdX12_founders_126.1
theorem dX12_founders_128 : decode cX12_founders 128 = .ok (.iload 6, 2) := bdX12_founders_126.2.1
theorem dX12_founders_130 : decode cX12_founders 130 = .ok (.aload_n 0, 1) := bdX12_founders_126.2.2.1
theorem dX12_founders_131 : decode cX12_founders 131 = .ok (.getfield 305, 3) := bdX12_founders_126.2.2.2.1
theorem dX12_founders_134 : decode cX12_founders 134 = .ok (.ifCond .ne 7, 3) := bdX12_founders_126.2.2.2.2.1
theorem dX12_founders_137 : decode cX12_founders 137 = .ok (.iconst 1, 1) := bdX12_founders_126.2.2.2.2.2.1
theorem dX12_founders_138 : decode cX12_founders 138 = .ok (.goto 4, 3) := bdX12_founders_126.2.2.2.2.2.2.1
theorem dX12_founders_141 : decode cX12_founders 141 = .ok (.iconst 0, 1) := bdX12_founders_126.2.2.2.2.2.2.2.1
theorem dX12_founders_142 : decode cX12_founders 142 = .ok (.iadd, 1) := bdX12_founders_126.2.2.2.2.2.2.2.2.1
theorem dX12_founders_143 : decode cX12_founders 143 = .ok (.istore 6, 2) := bdX12_founders_126.2.2.2.2.2.2.2.2.2
theorem bdX12_founders_145 : (decode cX12_founders 145 = .ok (.iconst 0, 1)) ∧ (decode cX12_founders 146 = .ok (.istore 8, 2)) ∧ (decode cX12_founders 148 = .ok (.iload 8, 2)) ∧ (decode cX12_founders 150 = .ok (.aload_n 0, 1)) ∧ (decode cX12_founders 151 = .ok (.getfield 35, 3)) ∧ (decode cX12_founders 154 = .ok (.iconst 0, 1)) ∧ (decode cX12_founders 155 = .ok (.iaload, 1)) ∧ (decode cX12_founders 156 = .ok (.if_icmp .ge 23, 3)) ∧ (decode cX12_founders 159 = .ok (.iload 5, 2)) ∧ (decode cX12_founders 161 = .ok (.aload_n 0, 1)) := by decide +kernel
theorem dX12_founders_145 : decode cX12_founders 145 = .ok (.iconst 0, 1) := bdX12_founders_145.1
theorem dX12_founders_146 : decode cX12_founders 146 = .ok (.istore 8, 2) := bdX12_founders_145.2.1
theorem dX12_founders_148 : decode cX12_founders 148 = .ok (.iload 8, 2) := bdX12_founders_145.2.2.1
theorem dX12_founders_150 : decode cX12_founders 150 = .ok (.aload_n 0, 1) := bdX12_founders_145.2.2.2.1
theorem dX12_founders_151 : decode cX12_founders 151 = .ok (.getfield 35, 3) := bdX12_founders_145.2.2.2.2.1
theorem dX12_founders_154 : decode cX12_founders 154 = .ok (.iconst 0, 1) := bdX12_founders_145.2.2.2.2.2.1
theorem dX12_founders_155 : decode cX12_founders 155 = .ok (.iaload, 1) := bdX12_founders_145.2.2.2.2.2.2.1
theorem dX12_founders_156 : decode cX12_founders 156 = .ok (.if_icmp .ge 23, 3) := bdX12_founders_145.2.2.2.2.2.2.2.1
theorem dX12_founders_159 : decode cX12_founders 159 = .ok (.iload 5, 2) := bdX12_founders_145.2.2.2.2.2.2.2.2.1
theorem dX12_founders_161 : decode cX12_founders 161 = .ok (.aload_n 0, 1) := bdX12_founders_145.2.2.2.2.2.2.2.2.2
theorem bdX12_founders_162 : (decode cX12_founders 162 = .ok (.getfield 73, 3)) ∧ (decode cX12_founders 165 = .ok (.iload 8, 2)) ∧ (decode cX12_founders 167 = .ok (.iaload, 1)) ∧ (decode cX12_founders 168 = .ok (.invokestatic 356, 3)) ∧ (decode cX12_founders 171 = .ok (.istore 5, 2)) ∧ (decode cX12_founders 173 = .ok (.iinc 8 1, 3)) ∧ (decode cX12_founders 176 = .ok (.goto (-28), 3)) ∧ (decode cX12_founders 179 = .ok (.iinc 7 1, 3)) ∧ (decode cX12_founders 182 = .ok (.goto (-115), 3)) ∧ (decode cX12_founders 185 = .ok (.aload_n 0, 1)) := by decide +kernel
theorem dX12_founders_162 : decode cX12_founders 162 = .ok (.getfield 73, 3) := bdX12_founders_162.1
theorem dX12_founders_165 : decode cX12_founders 165 = .ok (.iload 8, 2) := bdX12_founders_162.2.1
theorem dX12_founders_167 : decode cX12_founders 167 = .ok (.iaload, 1) := bdX12_founders_162.2.2.1
theorem dX12_founders_168 : decode cX12_founders 168 = .ok (.invokestatic 356, 3) := bdX12_founders_162.2.2.2.1
theorem dX12_founders_171 : decode cX12_founders 171 = .ok (.istore 5, 2) := bdX12_founders_162.2.2.2.2.1
theorem dX12_founders_173 : decode cX12_founders 173 = .ok (.iinc 8 1, 3) := bdX12_founders_162.2.2.2.2.2.1
theorem dX12_founders_176 : decode cX12_founders 176 = .ok (.goto (-28), 3) := bdX12_founders_162.2.2.2.2.2.2.1
theorem dX12_founders_179 : decode cX12_founders 179 = .ok (.iinc 7 1, 3) := bdX12_founders_162.2.2.2.2.2.2.2.1
theorem dX12_founders_182 : decode cX12_founders 182 = .ok (.goto (-115), 3) := bdX12_founders_162.2.2.2.2.2.2.2.2.1
theorem dX12_founders_185 : decode cX12_founders 185 = .ok (.aload_n 0, 1) := bdX12_founders_162.2.2.2.2.2.2.2.2.2
theorem bdX12_founders_186 : (decode cX12_founders 186 = .ok (.aload_n 0, 1)) ∧ (decode cX12_founders 187 = .ok (.getfield 104, 3)) ∧ (decode cX12_founders 190 = .ok (.iconst 0, 1)) ∧ (decode cX12_founders 191 = .ok (.invokevirtual 420, 3)) ∧ (decode cX12_founders 194 = .ok (.iload_n 3, 1)) ∧ (decode cX12_founders 195 = .ok (.ifCond .ne 8, 3)) ∧ (decode cX12_founders 198 = .ok (.iload 4, 2)) ∧ (decode cX12_founders 200 = .ok (.goto 15, 3)) ∧ (decode cX12_founders 203 = .ok (.iload_n 3, 1)) ∧ (decode cX12_founders 204 = .ok (.iconst 1, 1)) := by decide +kernel
theorem dX12_founders_186 : decode cX12_founders 186 = .ok (.aload_n 0, 1) := bdX12_founders_186.1
theorem dX12_founders_187 : decode cX12_founders 187 = .ok (.getfield 104, 3) := bdX12_founders_186.2.1
theorem dX12_founders_190 : decode cX12_founders 190 = .ok (.iconst 0, 1) := bdX12_founders_186.2.2.1
theorem dX12_founders_191 : decode cX12_founders 191 = .ok (.invokevirtual 420, 3) := bdX12_founders_186.2.2.2.1
theorem dX12_founders_194 : decode cX12_founders 194 = .ok (.iload_n 3, 1) := bdX12_founders_186.2.2.2.2.1
theorem dX12_founders_195 : decode cX12_founders 195 = .ok (.ifCond .ne 8, 3) := bdX12_founders_186.2.2.2.2.2.1
theorem dX12_founders_198 : decode cX12_founders 198 = .ok (.iload 4, 2) := bdX12_founders_186.2.2.2.2.2.2.1
theorem dX12_founders_200 : decode cX12_founders 200 = .ok (.goto 15, 3) := bdX12_founders_186.2.2.2.2.2.2.2.1
theorem dX12_founders_203 : decode cX12_founders 203 = .ok (.iload_n 3, 1) := bdX12_founders_186.2.2.2.2.2.2.2.2.1
theorem dX12_founders_204 : decode cX12_founders 204 = .ok (.iconst 1, 1) := bdX12_founders_186.2.2.2.2.2.2.2.2.2
theorem bdX12_founders_205 : (decode cX12_founders 205 = .ok (.if_icmp .ne 8, 3)) ∧ (decode cX12_founders 208 = .ok (.iload 5, 2)) ∧ (decode cX12_founders 210 = .ok (.goto 5, 3)) ∧ (decode cX12_founders 213 = .ok (.iload 6, 2)) ∧ (decode cX12_founders 215 = .ok (.ireturn, 1)) := by decide +kernel
theorem dX12_founders_205 : decode cX12_founders 205 = .ok (.if_icmp .ne 8, 3) := bdX12_founders_205.1
theorem dX12_founders_208 : decode cX12_founders 208 = .ok (.iload 5, 2) := bdX12_founders_205.2.1
theorem dX12_founders_210 : decode cX12_founders 210 = .ok (.goto 5, 3) := bdX12_founders_205.2.2.1
theorem dX12_founders_213 : decode cX12_founders 213 = .ok (.iload 6, 2) := bdX12_founders_205.2.2.2.1
theorem dX12_founders_215 : decode cX12_founders 215 = .ok (.ireturn, 1) := bdX12_founders_205.2.2.2.2
theorem bdX12_copyTo_0 : (decode cX12_copyTo 0 = .ok (.iconst 0, 1)) ∧ (decode cX12_copyTo 1 = .ok (.istore_n 2, 1)) ∧ (decode cX12_copyTo 2 = .ok (.iload_n 2, 1)) ∧ (decode cX12_copyTo 3 = .ok (.aload_n 0, 1)) ∧ (decode cX12_copyTo 4 = .ok (.arraylength, 1)) ∧ (decode cX12_copyTo 5 = .ok (.if_icmp .ge 15, 3)) ∧ (decode cX12_copyTo 8 = .ok (.aload_n 0, 1)) ∧ (decode cX12_copyTo 9 = .ok (.iload_n 2, 1)) ∧ (decode cX12_copyTo 10 = .ok (.aload_n 1, 1)) ∧ (decode cX12_copyTo 11 = .ok (.iload_n 2, 1)) := by decide +kernel
theorem dX12_copyTo_0 : decode cX12_copyTo 0 = .ok (.iconst 0, 1) := bdX12_copyTo_0.1
theorem dX12_copyTo_1 : decode cX12_copyTo 1 = .ok (.istore_n 2, 1) := bdX12_copyTo_0.2.1
theorem dX12_copyTo_2 : decode cX12_copyTo 2 = .ok (.iload_n 2, 1) := bdX12_copyTo_0.2.2.1
theorem dX12_copyTo_3 : decode cX12_copyTo 3 = .ok (.aload_n 0, 1) := bdX12_copyTo_0.2.2.2.1
theorem dX12_copyTo_4 : decode cX12_copyTo 4 = .ok (.arraylength, 1) := bdX12_copyTo_0.2.2.2.2.1
theorem dX12_copyTo_5 : decode cX12_copyTo 5 = .ok (.if_icmp .ge 15, 3) := bdX12_copyTo_0.2.2.2.2.2.1
theorem dX12_copyTo_8 : decode cX12_copyTo 8 = .ok (.aload_n 0, 1) := bdX12_copyTo_0.2.2.2.2.2.2.1
theorem dX12_copyTo_9 : decode cX12_copyTo 9 = .ok (.iload_n 2, 1) := bdX12_copyTo_0.2.2.2.2.2.2.2.1
theorem dX12_copyTo_10 : decode cX12_copyTo 10 = .ok (.aload_n 1, 1) := bdX12_copyTo_0.2.2.2.2.2.2.2.2.1
theorem dX12_copyTo_11 : decode cX12_copyTo 11 = .ok (.iload_n 2, 1) := bdX12_copyTo_0.2.2.2.2.2.2.2.2.2
theorem bdX12_copyTo_12 : (decode cX12_copyTo 12 = .ok (.iaload, 1)) ∧ (decode cX12_copyTo 13 = .ok (.iastore, 1)) ∧ (decode cX12_copyTo 14 = .ok (.iinc 2 1, 3)) ∧ (decode cX12_copyTo 17 = .ok (.goto (-15), 3)) ∧ (decode cX12_copyTo 20 = .ok (.return_, 1)) := by decide +kernel
theorem dX12_copyTo_12 : decode cX12_copyTo 12 = .ok (.iaload, 1) := bdX12_copyTo_12.1
theorem dX12_copyTo_13 : decode cX12_copyTo 13 = .ok (.iastore, 1) := bdX12_copyTo_12.2.1
theorem dX12_copyTo_14 : decode cX12_copyTo 14 = .ok (.iinc 2 1, 3) := bdX12_copyTo_12.2.2.1
theorem dX12_copyTo_17 : decode cX12_copyTo 17 = .ok (.goto (-15), 3) := bdX12_copyTo_12.2.2.2.1
theorem dX12_copyTo_20 : decode cX12_copyTo 20 = .ok (.return_, 1) := bdX12_copyTo_12.2.2.2.2
theorem bdX12_image_0 : (decode cX12_image 0 = .ok (.aload_n 0, 1)) ∧ (decode cX12_image 1 = .ok (.iconst 0, 1)) ∧ (decode cX12_image 2 = .ok (.putfield 140, 3)) ∧ (decode cX12_image 5 = .ok (.aload_n 0, 1)) ∧ (decode cX12_image 6 = .ok (.iconst 1, 1)) ∧ (decode cX12_image 7 = .ok (.putfield 326, 3)) ∧ (decode cX12_image 10 = .ok (.aload_n 0, 1)) ∧ (decode cX12_image 11 = .ok (.aload_n 0, 1)) ∧ (decode cX12_image 12 = .ok (.getfield 320, 3)) ∧ (decode cX12_image 15 = .ok (.putfield 484, 3)) := by decide +kernel
theorem dX12_image_0 : decode cX12_image 0 = .ok (.aload_n 0, 1) := bdX12_image_0.1
theorem dX12_image_1 : decode cX12_image 1 = .ok (.iconst 0, 1) := bdX12_image_0.2.1
theorem dX12_image_2 : decode cX12_image 2 = .ok (.putfield 140, 3) := bdX12_image_0.2.2.1
theorem dX12_image_5 : decode cX12_image 5 = .ok (.aload_n 0, 1) := bdX12_image_0.2.2.2.1
theorem dX12_image_6 : decode cX12_image 6 = .ok (.iconst 1, 1) := bdX12_image_0.2.2.2.2.1
theorem dX12_image_7 : decode cX12_image 7 = .ok (.putfield 326, 3) := bdX12_image_0.2.2.2.2.2.1
theorem dX12_image_10 : decode cX12_image 10 = .ok (.aload_n 0, 1) := bdX12_image_0.2.2.2.2.2.2.1
theorem dX12_image_11 : decode cX12_image 11 = .ok (.aload_n 0, 1) := bdX12_image_0.2.2.2.2.2.2.2.1
theorem dX12_image_12 : decode cX12_image 12 = .ok (.getfield 320, 3) := bdX12_image_0.2.2.2.2.2.2.2.2.1
theorem dX12_image_15 : decode cX12_image 15 = .ok (.putfield 484, 3) := bdX12_image_0.2.2.2.2.2.2.2.2.2
theorem bdX12_image_18 : (decode cX12_image 18 = .ok (.aload_n 0, 1)) ∧ (decode cX12_image 19 = .ok (.aload_n 0, 1)) ∧ (decode cX12_image 20 = .ok (.getfield 323, 3)) ∧ (decode cX12_image 23 = .ok (.putfield 487, 3)) ∧ (decode cX12_image 26 = .ok (.aload_n 0, 1)) ∧ (decode cX12_image 27 = .ok (.aload_n 0, 1)) ∧ (decode cX12_image 28 = .ok (.getfield 116, 3)) ∧ (decode cX12_image 31 = .ok (.iconst 0, 1)) ∧ (decode cX12_image 32 = .ok (.invokevirtual 387, 3)) ∧ (decode cX12_image 35 = .ok (.aload_n 0, 1)) := by decide +kernel
theorem dX12_image_18 : decode cX12_image 18 = .ok (.aload_n 0, 1) := bdX12_image_18.1
theorem dX12_image_19 : decode cX12_image 19 = .ok (.aload_n 0, 1) := bdX12_image_18.2.1
theorem dX12_image_20 : decode cX12_image 20 = .ok (.getfield 323, 3) := bdX12_image_18.2.2.1
theorem dX12_image_23 : decode cX12_image 23 = .ok (.putfield 487, 3) := bdX12_image_18.2.2.2.1
theorem dX12_image_26 : decode cX12_image 26 = .ok (.aload_n 0, 1) := bdX12_image_18.2.2.2.2.1
theorem dX12_image_27 : decode cX12_image 27 = .ok (.aload_n 0, 1) := bdX12_image_18.2.2.2.2.2.1
theorem dX12_image_28 : decode cX12_image 28 = .ok (.getfield 116, 3) := bdX12_image_18.2.2.2.2.2.2.1
theorem dX12_image_31 : decode cX12_image 31 = .ok (.iconst 0, 1) := bdX12_image_18.2.2.2.2.2.2.2.1
theorem dX12_image_32 : decode cX12_image 32 = .ok (.invokevirtual 387, 3) := bdX12_image_18.2.2.2.2.2.2.2.2.1
theorem dX12_image_35 : decode cX12_image 35 = .ok (.aload_n 0, 1) := bdX12_image_18.2.2.2.2.2.2.2.2.2
theorem bdX12_image_36 : (decode cX12_image 36 = .ok (.getfield 119, 3)) ∧ (decode cX12_image 39 = .ok (.aload_n 0, 1)) ∧ (decode cX12_image 40 = .ok (.getfield 82, 3)) ∧ (decode cX12_image 43 = .ok (.invokestatic 490, 3)) ∧ (decode cX12_image 46 = .ok (.aload_n 0, 1)) ∧ (decode cX12_image 47 = .ok (.getfield 122, 3)) ∧ (decode cX12_image 50 = .ok (.aload_n 0, 1)) ∧ (decode cX12_image 51 = .ok (.getfield 107, 3)) ∧ (decode cX12_image 54 = .ok (.invokestatic 490, 3)) ∧ (decode cX12_image 57 = .ok (.aload_n 0, 1)) := by decide +kernel
theorem dX12_image_36 : decode cX12_image 36 = .ok (.getfield 119, 3) := bdX12_image_36.1
theorem dX12_image_39 : decode cX12_image 39 = .ok (.aload_n 0, 1) := bdX12_image_36.2.1
theorem dX12_image_40 : decode cX12_image 40 = .ok (.getfield 82, 3) := bdX12_image_36.2.2.1
theorem dX12_image_43 : decode cX12_image 43 = .ok (.invokestatic 490, 3) := bdX12_image_36.2.2.2.1
theorem dX12_image_46 : decode cX12_image 46 = .ok (.aload_n 0, 1) := bdX12_image_36.2.2.2.2.1
theorem dX12_image_47 : decode cX12_image 47 = .ok (.getfield 122, 3) := bdX12_image_36.2.2.2.2.2.1
theorem dX12_image_50 : decode cX12_image 50 = .ok (.aload_n 0, 1) := bdX12_image_36.2.2.2.2.2.2.1
theorem dX12_image_51 : decode cX12_image 51 = .ok (.getfield 107, 3) := bdX12_image_36.2.2.2.2.2.2.2.1
theorem dX12_image_54 : decode cX12_image 54 = .ok (.invokestatic 490, 3) := bdX12_image_36.2.2.2.2.2.2.2.2.1
theorem dX12_image_57 : decode cX12_image 57 = .ok (.aload_n 0, 1) := bdX12_image_36.2.2.2.2.2.2.2.2.2
theorem bdX12_image_58 : (decode cX12_image 58 = .ok (.getfield 125, 3)) ∧ (decode cX12_image 61 = .ok (.aload_n 0, 1)) ∧ (decode cX12_image 62 = .ok (.getfield 110, 3)) ∧ (decode cX12_image 65 = .ok (.invokestatic 490, 3)) ∧ (decode cX12_image 68 = .ok (.aload_n 0, 1)) ∧ (decode cX12_image 69 = .ok (.getfield 128, 3)) ∧ (decode cX12_image 72 = .ok (.aload_n 0, 1)) ∧ (decode cX12_image 73 = .ok (.getfield 113, 3)) ∧ (decode cX12_image 76 = .ok (.invokestatic 490, 3)) ∧ (decode cX12_image 79 = .ok (.aload_n 0, 1)) := by decide +kernel
theorem dX12_image_58 : decode cX12_image 58 = .ok (.getfield 125, 3) := bdX12_image_58.1
theorem dX12_image_61 : decode cX12_image 61 = .ok (.aload_n 0, 1) := bdX12_image_58.2.1
theorem dX12_image_62 : decode cX12_image 62 = .ok (.getfield 110, 3) := bdX12_image_58.2.2.1
theorem dX12_image_65 : decode cX12_image 65 = .ok (.invokestatic 490, 3) := bdX12_image_58.2.2.2.1
theorem dX12_image_68 : decode cX12_image 68 = .ok (.aload_n 0, 1) := bdX12_image_58.2.2.2.2.1
theorem dX12_image_69 : decode cX12_image 69 = .ok (.getfield 128, 3) := bdX12_image_58.2.2.2.2.2.1
theorem dX12_image_72 : decode cX12_image 72 = .ok (.aload_n 0, 1) := bdX12_image_58.2.2.2.2.2.2.1
theorem dX12_image_73 : decode cX12_image 73 = .ok (.getfield 113, 3) := bdX12_image_58.2.2.2.2.2.2.2.1
theorem dX12_image_76 : decode cX12_image 76 = .ok (.invokestatic 490, 3) := bdX12_image_58.2.2.2.2.2.2.2.2.1
theorem dX12_image_79 : decode cX12_image 79 = .ok (.aload_n 0, 1) := bdX12_image_58.2.2.2.2.2.2.2.2.2
theorem bdX12_image_80 : (decode cX12_image 80 = .ok (.getfield 131, 3)) ∧ (decode cX12_image 83 = .ok (.aload_n 0, 1)) ∧ (decode cX12_image 84 = .ok (.getfield 63, 3)) ∧ (decode cX12_image 87 = .ok (.invokestatic 490, 3)) ∧ (decode cX12_image 90 = .ok (.return_, 1)) := by decide +kernel
theorem dX12_image_80 : decode cX12_image 80 = .ok (.getfield 131, 3) := bdX12_image_80.1
theorem dX12_image_83 : decode cX12_image 83 = .ok (.aload_n 0, 1) := bdX12_image_80.2.1
theorem dX12_image_84 : decode cX12_image 84 = .ok (.getfield 63, 3) := bdX12_image_80.2.2.1
theorem dX12_image_87 : decode cX12_image 87 = .ok (.invokestatic 490, 3) := bdX12_image_80.2.2.2.1
theorem dX12_image_90 : decode cX12_image 90 = .ok (.return_, 1) := bdX12_image_80.2.2.2.2
theorem bdX12_restore_0 : (decode cX12_restore 0 = .ok (.aload_n 0, 1)) ∧ (decode cX12_restore 1 = .ok (.iconst 0, 1)) ∧ (decode cX12_restore 2 = .ok (.putfield 140, 3)) ∧ (decode cX12_restore 5 = .ok (.aload_n 0, 1)) ∧ (decode cX12_restore 6 = .ok (.getfield 326, 3)) ∧ (decode cX12_restore 9 = .ok (.ifCond .ne 5, 3)) ∧ (decode cX12_restore 12 = .ok (.iconst 0, 1)) ∧ (decode cX12_restore 13 = .ok (.ireturn, 1)) ∧ (decode cX12_restore 14 = .ok (.aload_n 0, 1)) ∧ (decode cX12_restore 15 = .ok (.aload_n 0, 1)) := by decide +kernel
theorem dX12_restore_0 : decode cX12_restore 0 = .ok (.aload_n 0, 1) := bdX12_restore_0.1
theorem dX12_restore_1 : decode cX12_restore 1 = .ok (.iconst 0, 1) := bdX12_restore_0.2.1
theorem dX12_restore_2 : decode cX12_restore 2 = .ok (.putfield 140, 3) := bdX12_restore_0.2.2.1
theorem dX12_restore_5 : decode cX12_restore 5 = .ok (.aload_n 0, 1) := bdX12_restore_0.2.2.2.1
theorem dX12_restore_6 : decode cX12_restore 6 = .ok (.getfield 326, 3) := bdX12_restore_0.2.2.2.2.1
theorem dX12_restore_9 : decode cX12_restore 9 = .ok (.ifCond .ne 5, 3) := bdX12_restore_0.2.2.2.2.2.1
theorem dX12_restore_12 : decode cX12_restore 12 = .ok (.iconst 0, 1) := bdX12_restore_0.2.2.2.2.2.2.1
theorem dX12_restore_13 : decode cX12_restore 13 = .ok (.ireturn, 1) := bdX12_restore_0.2.2.2.2.2.2.2.1
theorem dX12_restore_14 : decode cX12_restore 14 = .ok (.aload_n 0, 1) := bdX12_restore_0.2.2.2.2.2.2.2.2.1
theorem dX12_restore_15 : decode cX12_restore 15 = .ok (.aload_n 0, 1) := bdX12_restore_0.2.2.2.2.2.2.2.2.2
theorem bdX12_restore_16 : (decode cX12_restore 16 = .ok (.getfield 484, 3)) ∧ (decode cX12_restore 19 = .ok (.putfield 320, 3)) ∧ (decode cX12_restore 22 = .ok (.aload_n 0, 1)) ∧ (decode cX12_restore 23 = .ok (.aload_n 0, 1)) ∧ (decode cX12_restore 24 = .ok (.getfield 487, 3)) ∧ (decode cX12_restore 27 = .ok (.putfield 323, 3)) ∧ (decode cX12_restore 30 = .ok (.aload_n 0, 1)) ∧ (decode cX12_restore 31 = .ok (.aload_n 0, 1)) ∧ (decode cX12_restore 32 = .ok (.getfield 116, 3)) ∧ (decode cX12_restore 35 = .ok (.iconst 0, 1)) := by decide +kernel
theorem dX12_restore_16 : decode cX12_restore 16 = .ok (.getfield 484, 3) := bdX12_restore_16.1
theorem dX12_restore_19 : decode cX12_restore 19 = .ok (.putfield 320, 3) := bdX12_restore_16.2.1
theorem dX12_restore_22 : decode cX12_restore 22 = .ok (.aload_n 0, 1) := bdX12_restore_16.2.2.1
theorem dX12_restore_23 : decode cX12_restore 23 = .ok (.aload_n 0, 1) := bdX12_restore_16.2.2.2.1
theorem dX12_restore_24 : decode cX12_restore 24 = .ok (.getfield 487, 3) := bdX12_restore_16.2.2.2.2.1
theorem dX12_restore_27 : decode cX12_restore 27 = .ok (.putfield 323, 3) := bdX12_restore_16.2.2.2.2.2.1
theorem dX12_restore_30 : decode cX12_restore 30 = .ok (.aload_n 0, 1) := bdX12_restore_16.2.2.2.2.2.2.1
theorem dX12_restore_31 : decode cX12_restore 31 = .ok (.aload_n 0, 1) := bdX12_restore_16.2.2.2.2.2.2.2.1
theorem dX12_restore_32 : decode cX12_restore 32 = .ok (.getfield 116, 3) := bdX12_restore_16.2.2.2.2.2.2.2.2.1
theorem dX12_restore_35 : decode cX12_restore 35 = .ok (.iconst 0, 1) := bdX12_restore_16.2.2.2.2.2.2.2.2.2
theorem bdX12_restore_36 : (decode cX12_restore 36 = .ok (.invokevirtual 420, 3)) ∧ (decode cX12_restore 39 = .ok (.aload_n 0, 1)) ∧ (decode cX12_restore 40 = .ok (.getfield 82, 3)) ∧ (decode cX12_restore 43 = .ok (.aload_n 0, 1)) ∧ (decode cX12_restore 44 = .ok (.getfield 119, 3)) ∧ (decode cX12_restore 47 = .ok (.invokestatic 490, 3)) ∧ (decode cX12_restore 50 = .ok (.aload_n 0, 1)) ∧ (decode cX12_restore 51 = .ok (.getfield 107, 3)) ∧ (decode cX12_restore 54 = .ok (.aload_n 0, 1)) ∧ (decode cX12_restore 55 = .ok (.getfield 122, 3)) := by decide +kernel
theorem dX12_restore_36 : decode cX12_restore 36 = .ok (.invokevirtual 420, 3) := bdX12_restore_36.1
theorem dX12_restore_39 : decode cX12_restore 39 = .ok (.aload_n 0, 1) := bdX12_restore_36.2.1
theorem dX12_restore_40 : decode cX12_restore 40 = .ok (.getfield 82, 3) := bdX12_restore_36.2.2.1
theorem dX12_restore_43 : decode cX12_restore 43 = .ok (.aload_n 0, 1) := bdX12_restore_36.2.2.2.1
theorem dX12_restore_44 : decode cX12_restore 44 = .ok (.getfield 119, 3) := bdX12_restore_36.2.2.2.2.1
theorem dX12_restore_47 : decode cX12_restore 47 = .ok (.invokestatic 490, 3) := bdX12_restore_36.2.2.2.2.2.1
theorem dX12_restore_50 : decode cX12_restore 50 = .ok (.aload_n 0, 1) := bdX12_restore_36.2.2.2.2.2.2.1
theorem dX12_restore_51 : decode cX12_restore 51 = .ok (.getfield 107, 3) := bdX12_restore_36.2.2.2.2.2.2.2.1
theorem dX12_restore_54 : decode cX12_restore 54 = .ok (.aload_n 0, 1) := bdX12_restore_36.2.2.2.2.2.2.2.2.1
theorem dX12_restore_55 : decode cX12_restore 55 = .ok (.getfield 122, 3) := bdX12_restore_36.2.2.2.2.2.2.2.2.2
theorem bdX12_restore_58 : (decode cX12_restore 58 = .ok (.invokestatic 490, 3)) ∧ (decode cX12_restore 61 = .ok (.aload_n 0, 1)) ∧ (decode cX12_restore 62 = .ok (.getfield 110, 3)) ∧ (decode cX12_restore 65 = .ok (.aload_n 0, 1)) ∧ (decode cX12_restore 66 = .ok (.getfield 125, 3)) ∧ (decode cX12_restore 69 = .ok (.invokestatic 490, 3)) ∧ (decode cX12_restore 72 = .ok (.aload_n 0, 1)) ∧ (decode cX12_restore 73 = .ok (.getfield 113, 3)) ∧ (decode cX12_restore 76 = .ok (.aload_n 0, 1)) ∧ (decode cX12_restore 77 = .ok (.getfield 128, 3)) := by decide +kernel
theorem dX12_restore_58 : decode cX12_restore 58 = .ok (.invokestatic 490, 3) := bdX12_restore_58.1
theorem dX12_restore_61 : decode cX12_restore 61 = .ok (.aload_n 0, 1) := bdX12_restore_58.2.1
theorem dX12_restore_62 : decode cX12_restore 62 = .ok (.getfield 110, 3) := bdX12_restore_58.2.2.1
theorem dX12_restore_65 : decode cX12_restore 65 = .ok (.aload_n 0, 1) := bdX12_restore_58.2.2.2.1
theorem dX12_restore_66 : decode cX12_restore 66 = .ok (.getfield 125, 3) := bdX12_restore_58.2.2.2.2.1
theorem dX12_restore_69 : decode cX12_restore 69 = .ok (.invokestatic 490, 3) := bdX12_restore_58.2.2.2.2.2.1
theorem dX12_restore_72 : decode cX12_restore 72 = .ok (.aload_n 0, 1) := bdX12_restore_58.2.2.2.2.2.2.1
theorem dX12_restore_73 : decode cX12_restore 73 = .ok (.getfield 113, 3) := bdX12_restore_58.2.2.2.2.2.2.2.1
theorem dX12_restore_76 : decode cX12_restore 76 = .ok (.aload_n 0, 1) := bdX12_restore_58.2.2.2.2.2.2.2.2.1
theorem dX12_restore_77 : decode cX12_restore 77 = .ok (.getfield 128, 3) := bdX12_restore_58.2.2.2.2.2.2.2.2.2
theorem bdX12_restore_80 : (decode cX12_restore 80 = .ok (.invokestatic 490, 3)) ∧ (decode cX12_restore 83 = .ok (.aload_n 0, 1)) ∧ (decode cX12_restore 84 = .ok (.getfield 63, 3)) ∧ (decode cX12_restore 87 = .ok (.aload_n 0, 1)) ∧ (decode cX12_restore 88 = .ok (.getfield 131, 3)) ∧ (decode cX12_restore 91 = .ok (.invokestatic 490, 3)) ∧ (decode cX12_restore 94 = .ok (.iconst 1, 1)) ∧ (decode cX12_restore 95 = .ok (.ireturn, 1)) := by decide +kernel
theorem dX12_restore_80 : decode cX12_restore 80 = .ok (.invokestatic 490, 3) := bdX12_restore_80.1
theorem dX12_restore_83 : decode cX12_restore 83 = .ok (.aload_n 0, 1) := bdX12_restore_80.2.1
theorem dX12_restore_84 : decode cX12_restore 84 = .ok (.getfield 63, 3) := bdX12_restore_80.2.2.1
theorem dX12_restore_87 : decode cX12_restore 87 = .ok (.aload_n 0, 1) := bdX12_restore_80.2.2.2.1
theorem dX12_restore_88 : decode cX12_restore 88 = .ok (.getfield 131, 3) := bdX12_restore_80.2.2.2.2.1
theorem dX12_restore_91 : decode cX12_restore 91 = .ok (.invokestatic 490, 3) := bdX12_restore_80.2.2.2.2.2.1
theorem dX12_restore_94 : decode cX12_restore 94 = .ok (.iconst 1, 1) := bdX12_restore_80.2.2.2.2.2.2.1
theorem dX12_restore_95 : decode cX12_restore 95 = .ok (.ireturn, 1) := bdX12_restore_80.2.2.2.2.2.2.2

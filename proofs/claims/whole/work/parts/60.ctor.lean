/-! THE CONSTRUCTORS (by program: gen/ctor.py) -/
theorem dX9_init_0 : decode cX9_init 0 = .ok (.aload_n 0, 1) := by decide +kernel
theorem dX9_init_1 : decode cX9_init 1 = .ok (.invokespecial 1, 3) := by decide +kernel
theorem dX9_init_4 : decode cX9_init 4 = .ok (.aload_n 0, 1) := by decide +kernel
theorem dX9_init_5 : decode cX9_init 5 = .ok (.new 7, 3) := by decide +kernel
theorem dX9_init_8 : decode cX9_init 8 = .ok (.dup, 1) := by decide +kernel
theorem dX9_init_9 : decode cX9_init 9 = .ok (.invokespecial 9, 3) := by decide +kernel
theorem dX9_init_12 : decode cX9_init 12 = .ok (.putfield 10, 3) := by decide +kernel
theorem dX9_init_15 : decode cX9_init 15 = .ok (.aload_n 0, 1) := by decide +kernel
theorem dX9_init_16 : decode cX9_init 16 = .ok (.new 16, 3) := by decide +kernel
theorem dX9_init_19 : decode cX9_init 19 = .ok (.dup, 1) := by decide +kernel
theorem dX9_init_20 : decode cX9_init 20 = .ok (.invokespecial 18, 3) := by decide +kernel
theorem dX9_init_23 : decode cX9_init 23 = .ok (.putfield 19, 3) := by decide +kernel
theorem dX9_init_26 : decode cX9_init 26 = .ok (.aload_n 0, 1) := by decide +kernel
theorem dX9_init_27 : decode cX9_init 27 = .ok (.new 23, 3) := by decide +kernel
theorem dX9_init_30 : decode cX9_init 30 = .ok (.dup, 1) := by decide +kernel
theorem dX9_init_31 : decode cX9_init 31 = .ok (.invokespecial 25, 3) := by decide +kernel
theorem dX9_init_34 : decode cX9_init 34 = .ok (.putfield 26, 3) := by decide +kernel
theorem dX9_init_37 : decode cX9_init 37 = .ok (.aload_n 0, 1) := by decide +kernel
theorem dX9_init_38 : decode cX9_init 38 = .ok (.new 30, 3) := by decide +kernel
theorem dX9_init_41 : decode cX9_init 41 = .ok (.dup, 1) := by decide +kernel
theorem dX9_init_42 : decode cX9_init 42 = .ok (.invokespecial 32, 3) := by decide +kernel
theorem dX9_init_45 : decode cX9_init 45 = .ok (.putfield 33, 3) := by decide +kernel
theorem dX9_init_48 : decode cX9_init 48 = .ok (.aload_n 0, 1) := by decide +kernel
theorem dX9_init_49 : decode cX9_init 49 = .ok (.new 37, 3) := by decide +kernel
theorem dX9_init_52 : decode cX9_init 52 = .ok (.dup, 1) := by decide +kernel
theorem dX9_init_53 : decode cX9_init 53 = .ok (.invokespecial 39, 3) := by decide +kernel
theorem dX9_init_56 : decode cX9_init 56 = .ok (.putfield 40, 3) := by decide +kernel
theorem dX9_init_59 : decode cX9_init 59 = .ok (.aload_n 0, 1) := by decide +kernel
theorem dX9_init_60 : decode cX9_init 60 = .ok (.iconst 4, 1) := by decide +kernel
theorem dX9_init_61 : decode cX9_init 61 = .ok (.anewarray 44, 3) := by decide +kernel
theorem dX9_init_64 : decode cX9_init 64 = .ok (.putfield 46, 3) := by decide +kernel
theorem dX9_init_67 : decode cX9_init 67 = .ok (.aload_n 0, 1) := by decide +kernel
theorem dX9_init_68 : decode cX9_init 68 = .ok (.new 50, 3) := by decide +kernel
theorem dX9_init_71 : decode cX9_init 71 = .ok (.dup, 1) := by decide +kernel
theorem dX9_init_72 : decode cX9_init 72 = .ok (.invokespecial 52, 3) := by decide +kernel
theorem dX9_init_75 : decode cX9_init 75 = .ok (.putfield 53, 3) := by decide +kernel
theorem dX9_init_78 : decode cX9_init 78 = .ok (.aload_n 0, 1) := by decide +kernel
theorem dX9_init_79 : decode cX9_init 79 = .ok (.new 57, 3) := by decide +kernel
theorem dX9_init_82 : decode cX9_init 82 = .ok (.dup, 1) := by decide +kernel
theorem dX9_init_83 : decode cX9_init 83 = .ok (.invokespecial 59, 3) := by decide +kernel
theorem dX9_init_86 : decode cX9_init 86 = .ok (.putfield 60, 3) := by decide +kernel
theorem dX9_init_89 : decode cX9_init 89 = .ok (.aload_n 0, 1) := by decide +kernel
theorem dX9_init_90 : decode cX9_init 90 = .ok (.iconst 3, 1) := by decide +kernel
theorem dX9_init_91 : decode cX9_init 91 = .ok (.anewarray 64, 3) := by decide +kernel
theorem dX9_init_94 : decode cX9_init 94 = .ok (.putfield 66, 3) := by decide +kernel
theorem dX9_init_97 : decode cX9_init 97 = .ok (.aload_n 0, 1) := by decide +kernel
theorem dX9_init_98 : decode cX9_init 98 = .ok (.iconst 3, 1) := by decide +kernel
theorem dX9_init_99 : decode cX9_init 99 = .ok (.newarray .boolean, 2) := by decide +kernel
theorem dX9_init_101 : decode cX9_init 101 = .ok (.putfield 70, 3) := by decide +kernel
theorem dX9_init_104 : decode cX9_init 104 = .ok (.aload_n 0, 1) := by decide +kernel
theorem dX9_init_105 : decode cX9_init 105 = .ok (.new 64, 3) := by decide +kernel
theorem dX9_init_108 : decode cX9_init 108 = .ok (.dup, 1) := by decide +kernel
theorem dX9_init_109 : decode cX9_init 109 = .ok (.invokespecial 74, 3) := by decide +kernel
theorem dX9_init_112 : decode cX9_init 112 = .ok (.putfield 75, 3) := by decide +kernel
theorem dX9_init_115 : decode cX9_init 115 = .ok (.aload_n 0, 1) := by decide +kernel
theorem dX9_init_116 : decode cX9_init 116 = .ok (.new 64, 3) := by decide +kernel
theorem dX9_init_119 : decode cX9_init 119 = .ok (.dup, 1) := by decide +kernel
theorem dX9_init_120 : decode cX9_init 120 = .ok (.invokespecial 74, 3) := by decide +kernel
theorem dX9_init_123 : decode cX9_init 123 = .ok (.putfield 79, 3) := by decide +kernel
theorem dX9_init_126 : decode cX9_init 126 = .ok (.iconst 0, 1) := by decide +kernel
theorem dX9_init_127 : decode cX9_init 127 = .ok (.istore_n 1, 1) := by decide +kernel
theorem dX9_init_128 : decode cX9_init 128 = .ok (.iload_n 1, 1) := by decide +kernel
theorem dX9_init_129 : decode cX9_init 129 = .ok (.iconst 4, 1) := by decide +kernel
theorem dX9_init_130 : decode cX9_init 130 = .ok (.if_icmp .ge 22, 3) := by decide +kernel
theorem dX9_init_133 : decode cX9_init 133 = .ok (.aload_n 0, 1) := by decide +kernel
theorem dX9_init_134 : decode cX9_init 134 = .ok (.getfield 46, 3) := by decide +kernel
theorem dX9_init_137 : decode cX9_init 137 = .ok (.iload_n 1, 1) := by decide +kernel
theorem dX9_init_138 : decode cX9_init 138 = .ok (.new 44, 3) := by decide +kernel
theorem dX9_init_141 : decode cX9_init 141 = .ok (.dup, 1) := by decide +kernel
theorem dX9_init_142 : decode cX9_init 142 = .ok (.invokespecial 82, 3) := by decide +kernel
theorem dX9_init_145 : decode cX9_init 145 = .ok (.aastore, 1) := by decide +kernel
theorem dX9_init_146 : decode cX9_init 146 = .ok (.iinc 1 1, 3) := by decide +kernel
theorem dX9_init_149 : decode cX9_init 149 = .ok (.goto (-21), 3) := by decide +kernel
theorem dX9_init_152 : decode cX9_init 152 = .ok (.iconst 0, 1) := by decide +kernel
theorem dX9_init_153 : decode cX9_init 153 = .ok (.istore_n 1, 1) := by decide +kernel
theorem dX9_init_154 : decode cX9_init 154 = .ok (.iload_n 1, 1) := by decide +kernel
theorem dX9_init_155 : decode cX9_init 155 = .ok (.iconst 3, 1) := by decide +kernel
theorem dX9_init_156 : decode cX9_init 156 = .ok (.if_icmp .ge 22, 3) := by decide +kernel
theorem dX9_init_159 : decode cX9_init 159 = .ok (.aload_n 0, 1) := by decide +kernel
theorem dX9_init_160 : decode cX9_init 160 = .ok (.getfield 66, 3) := by decide +kernel
theorem dX9_init_163 : decode cX9_init 163 = .ok (.iload_n 1, 1) := by decide +kernel
theorem dX9_init_164 : decode cX9_init 164 = .ok (.new 64, 3) := by decide +kernel
theorem dX9_init_167 : decode cX9_init 167 = .ok (.dup, 1) := by decide +kernel
theorem dX9_init_168 : decode cX9_init 168 = .ok (.invokespecial 74, 3) := by decide +kernel
theorem dX9_init_171 : decode cX9_init 171 = .ok (.aastore, 1) := by decide +kernel
theorem dX9_init_172 : decode cX9_init 172 = .ok (.iinc 1 1, 3) := by decide +kernel
theorem dX9_init_175 : decode cX9_init 175 = .ok (.goto (-21), 3) := by decide +kernel
theorem dX9_init_178 : decode cX9_init 178 = .ok (.return_, 1) := by decide +kernel
theorem dX8_init_0 : decode cX8_init 0 = .ok (.aload_n 0, 1) := by decide +kernel
theorem dX8_init_1 : decode cX8_init 1 = .ok (.invokespecial 3, 3) := by decide +kernel
theorem dX8_init_4 : decode cX8_init 4 = .ok (.aload_n 0, 1) := by decide +kernel
theorem dX8_init_5 : decode cX8_init 5 = .ok (.sipush 800, 3) := by decide +kernel
theorem dX8_init_8 : decode cX8_init 8 = .ok (.newarray .byte, 2) := by decide +kernel
theorem dX8_init_10 : decode cX8_init 10 = .ok (.putfield 9, 3) := by decide +kernel
theorem dX8_init_13 : decode cX8_init 13 = .ok (.return_, 1) := by decide +kernel
theorem dX4_init_0 : decode cX4_init 0 = .ok (.aload_n 0, 1) := by decide +kernel
theorem dX4_init_1 : decode cX4_init 1 = .ok (.invokespecial 3, 3) := by decide +kernel
theorem dX4_init_4 : decode cX4_init 4 = .ok (.aload_n 0, 1) := by decide +kernel
theorem dX4_init_5 : decode cX4_init 5 = .ok (.iconst (-1), 1) := by decide +kernel
theorem dX4_init_6 : decode cX4_init 6 = .ok (.putfield 9, 3) := by decide +kernel
theorem dX4_init_9 : decode cX4_init 9 = .ok (.return_, 1) := by decide +kernel
theorem dX6_init_0 : decode cX6_init 0 = .ok (.aload_n 0, 1) := by decide +kernel
theorem dX6_init_1 : decode cX6_init 1 = .ok (.invokespecial 3, 3) := by decide +kernel
theorem dX6_init_4 : decode cX6_init 4 = .ok (.aload_n 0, 1) := by decide +kernel
theorem dX6_init_5 : decode cX6_init 5 = .ok (.bipush 14, 2) := by decide +kernel
theorem dX6_init_7 : decode cX6_init 7 = .ok (.newarray .int, 2) := by decide +kernel
theorem dX6_init_9 : decode cX6_init 9 = .ok (.putfield 9, 3) := by decide +kernel
theorem dX6_init_12 : decode cX6_init 12 = .ok (.aload_n 0, 1) := by decide +kernel
theorem dX6_init_13 : decode cX6_init 13 = .ok (.bipush 8, 2) := by decide +kernel
theorem dX6_init_15 : decode cX6_init 15 = .ok (.newarray .int, 2) := by decide +kernel
theorem dX6_init_17 : decode cX6_init 17 = .ok (.putfield 15, 3) := by decide +kernel
theorem dX6_init_20 : decode cX6_init 20 = .ok (.aload_n 0, 1) := by decide +kernel
theorem dX6_init_21 : decode cX6_init 21 = .ok (.bipush 8, 2) := by decide +kernel
theorem dX6_init_23 : decode cX6_init 23 = .ok (.newarray .int, 2) := by decide +kernel
theorem dX6_init_25 : decode cX6_init 25 = .ok (.putfield 18, 3) := by decide +kernel
theorem dX6_init_28 : decode cX6_init 28 = .ok (.aload_n 0, 1) := by decide +kernel
theorem dX6_init_29 : decode cX6_init 29 = .ok (.bipush 8, 2) := by decide +kernel
theorem dX6_init_31 : decode cX6_init 31 = .ok (.newarray .int, 2) := by decide +kernel
theorem dX6_init_33 : decode cX6_init 33 = .ok (.putfield 21, 3) := by decide +kernel
theorem dX6_init_36 : decode cX6_init 36 = .ok (.aload_n 0, 1) := by decide +kernel
theorem dX6_init_37 : decode cX6_init 37 = .ok (.bipush 14, 2) := by decide +kernel
theorem dX6_init_39 : decode cX6_init 39 = .ok (.newarray .int, 2) := by decide +kernel
theorem dX6_init_41 : decode cX6_init 41 = .ok (.putfield 24, 3) := by decide +kernel
theorem dX6_init_44 : decode cX6_init 44 = .ok (.aload_n 0, 1) := by decide +kernel
theorem dX6_init_45 : decode cX6_init 45 = .ok (.iconst 2, 1) := by decide +kernel
theorem dX6_init_46 : decode cX6_init 46 = .ok (.newarray .int, 2) := by decide +kernel
theorem dX6_init_48 : decode cX6_init 48 = .ok (.putfield 27, 3) := by decide +kernel
theorem dX6_init_51 : decode cX6_init 51 = .ok (.return_, 1) := by decide +kernel
theorem dX3_init_0 : decode cX3_init 0 = .ok (.aload_n 0, 1) := by decide +kernel
theorem dX3_init_1 : decode cX3_init 1 = .ok (.invokespecial 3, 3) := by decide +kernel
theorem dX3_init_4 : decode cX3_init 4 = .ok (.aload_n 0, 1) := by decide +kernel
theorem dX3_init_5 : decode cX3_init 5 = .ok (.sipush 3840, 3) := by decide +kernel
theorem dX3_init_8 : decode cX3_init 8 = .ok (.newarray .int, 2) := by decide +kernel
theorem dX3_init_10 : decode cX3_init 10 = .ok (.putfield 9, 3) := by decide +kernel
theorem dX3_init_13 : decode cX3_init 13 = .ok (.aload_n 0, 1) := by decide +kernel
theorem dX3_init_14 : decode cX3_init 14 = .ok (.sipush 3840, 3) := by decide +kernel
theorem dX3_init_17 : decode cX3_init 17 = .ok (.newarray .int, 2) := by decide +kernel
theorem dX3_init_19 : decode cX3_init 19 = .ok (.putfield 15, 3) := by decide +kernel
theorem dX3_init_22 : decode cX3_init 22 = .ok (.aload_n 0, 1) := by decide +kernel
theorem dX3_init_23 : decode cX3_init 23 = .ok (.bipush 8, 2) := by decide +kernel
theorem dX3_init_25 : decode cX3_init 25 = .ok (.newarray .int, 2) := by decide +kernel
theorem dX3_init_27 : decode cX3_init 27 = .ok (.putfield 18, 3) := by decide +kernel
theorem dX3_init_30 : decode cX3_init 30 = .ok (.aload_n 0, 1) := by decide +kernel
theorem dX3_init_31 : decode cX3_init 31 = .ok (.bipush 8, 2) := by decide +kernel
theorem dX3_init_33 : decode cX3_init 33 = .ok (.newarray .int, 2) := by decide +kernel
theorem dX3_init_35 : decode cX3_init 35 = .ok (.putfield 21, 3) := by decide +kernel
theorem dX3_init_38 : decode cX3_init 38 = .ok (.aload_n 0, 1) := by decide +kernel
theorem dX3_init_39 : decode cX3_init 39 = .ok (.bipush 14, 2) := by decide +kernel
theorem dX3_init_41 : decode cX3_init 41 = .ok (.newarray .int, 2) := by decide +kernel
theorem dX3_init_43 : decode cX3_init 43 = .ok (.putfield 24, 3) := by decide +kernel
theorem dX3_init_46 : decode cX3_init 46 = .ok (.return_, 1) := by decide +kernel
theorem dX1_init_0 : decode cX1_init 0 = .ok (.aload_n 0, 1) := by decide +kernel
theorem dX1_init_1 : decode cX1_init 1 = .ok (.invokespecial 3, 3) := by decide +kernel
theorem dX1_init_4 : decode cX1_init 4 = .ok (.aload_n 0, 1) := by decide +kernel
theorem dX1_init_5 : decode cX1_init 5 = .ok (.sipush 135, 3) := by decide +kernel
theorem dX1_init_8 : decode cX1_init 8 = .ok (.newarray .int, 2) := by decide +kernel
theorem dX1_init_10 : decode cX1_init 10 = .ok (.putfield 11, 3) := by decide +kernel
theorem dX1_init_13 : decode cX1_init 13 = .ok (.return_, 1) := by decide +kernel
theorem dX2_init_0 : decode cX2_init 0 = .ok (.aload_n 0, 1) := by decide +kernel
theorem dX2_init_1 : decode cX2_init 1 = .ok (.invokespecial 3, 3) := by decide +kernel
theorem dX2_init_4 : decode cX2_init 4 = .ok (.aload_n 0, 1) := by decide +kernel
theorem dX2_init_5 : decode cX2_init 5 = .ok (.bipush 14, 2) := by decide +kernel
theorem dX2_init_7 : decode cX2_init 7 = .ok (.newarray .int, 2) := by decide +kernel
theorem dX2_init_9 : decode cX2_init 9 = .ok (.putfield 9, 3) := by decide +kernel
theorem dX2_init_12 : decode cX2_init 12 = .ok (.return_, 1) := by decide +kernel
theorem dX7_init_0 : decode cX7_init 0 = .ok (.aload_n 0, 1) := by decide +kernel
theorem dX7_init_1 : decode cX7_init 1 = .ok (.invokespecial 1, 3) := by decide +kernel
theorem dX7_init_4 : decode cX7_init 4 = .ok (.aload_n 0, 1) := by decide +kernel
theorem dX7_init_5 : decode cX7_init 5 = .ok (.iconst 4, 1) := by decide +kernel
theorem dX7_init_6 : decode cX7_init 6 = .ok (.newarray .int, 2) := by decide +kernel
theorem dX7_init_8 : decode cX7_init 8 = .ok (.putfield 7, 3) := by decide +kernel
theorem dX7_init_11 : decode cX7_init 11 = .ok (.return_, 1) := by decide +kernel
theorem dX0_init_0 : decode cX0_init 0 = .ok (.aload_n 0, 1) := by decide +kernel
theorem dX0_init_1 : decode cX0_init 1 = .ok (.invokespecial 3, 3) := by decide +kernel
theorem dX0_init_4 : decode cX0_init 4 = .ok (.aload_n 0, 1) := by decide +kernel
theorem dX0_init_5 : decode cX0_init 5 = .ok (.bipush 8, 2) := by decide +kernel
theorem dX0_init_7 : decode cX0_init 7 = .ok (.newarray .int, 2) := by decide +kernel
theorem dX0_init_9 : decode cX0_init 9 = .ok (.putfield 9, 3) := by decide +kernel
theorem dX0_init_12 : decode cX0_init 12 = .ok (.aload_n 0, 1) := by decide +kernel
theorem dX0_init_13 : decode cX0_init 13 = .ok (.bipush 8, 2) := by decide +kernel
theorem dX0_init_15 : decode cX0_init 15 = .ok (.newarray .int, 2) := by decide +kernel
theorem dX0_init_17 : decode cX0_init 17 = .ok (.putfield 15, 3) := by decide +kernel
theorem dX0_init_20 : decode cX0_init 20 = .ok (.aload_n 0, 1) := by decide +kernel
theorem dX0_init_21 : decode cX0_init 21 = .ok (.bipush 8, 2) := by decide +kernel
theorem dX0_init_23 : decode cX0_init 23 = .ok (.newarray .int, 2) := by decide +kernel
theorem dX0_init_25 : decode cX0_init 25 = .ok (.putfield 18, 3) := by decide +kernel
theorem dX0_init_28 : decode cX0_init 28 = .ok (.aload_n 0, 1) := by decide +kernel
theorem dX0_init_29 : decode cX0_init 29 = .ok (.bipush 8, 2) := by decide +kernel
theorem dX0_init_31 : decode cX0_init 31 = .ok (.newarray .int, 2) := by decide +kernel
theorem dX0_init_33 : decode cX0_init 33 = .ok (.putfield 21, 3) := by decide +kernel
theorem dX0_init_36 : decode cX0_init 36 = .ok (.aload_n 0, 1) := by decide +kernel
theorem dX0_init_37 : decode cX0_init 37 = .ok (.bipush 8, 2) := by decide +kernel
theorem dX0_init_39 : decode cX0_init 39 = .ok (.newarray .int, 2) := by decide +kernel
theorem dX0_init_41 : decode cX0_init 41 = .ok (.putfield 24, 3) := by decide +kernel
theorem dX0_init_44 : decode cX0_init 44 = .ok (.aload_n 0, 1) := by decide +kernel
theorem dX0_init_45 : decode cX0_init 45 = .ok (.bipush 8, 2) := by decide +kernel
theorem dX0_init_47 : decode cX0_init 47 = .ok (.newarray .int, 2) := by decide +kernel
theorem dX0_init_49 : decode cX0_init 49 = .ok (.putfield 27, 3) := by decide +kernel
theorem dX0_init_52 : decode cX0_init 52 = .ok (.aload_n 0, 1) := by decide +kernel
theorem dX0_init_53 : decode cX0_init 53 = .ok (.bipush 20, 2) := by decide +kernel
theorem dX0_init_55 : decode cX0_init 55 = .ok (.newarray .int, 2) := by decide +kernel
theorem dX0_init_57 : decode cX0_init 57 = .ok (.putfield 30, 3) := by decide +kernel
theorem dX0_init_60 : decode cX0_init 60 = .ok (.aload_n 0, 1) := by decide +kernel
theorem dX0_init_61 : decode cX0_init 61 = .ok (.bipush 20, 2) := by decide +kernel
theorem dX0_init_63 : decode cX0_init 63 = .ok (.newarray .int, 2) := by decide +kernel
theorem dX0_init_65 : decode cX0_init 65 = .ok (.putfield 33, 3) := by decide +kernel
theorem dX0_init_68 : decode cX0_init 68 = .ok (.return_, 1) := by decide +kernel
theorem dX5_init_0 : decode cX5_init 0 = .ok (.aload_n 0, 1) := by decide +kernel
theorem dX5_init_1 : decode cX5_init 1 = .ok (.invokespecial 3, 3) := by decide +kernel
theorem dX5_init_4 : decode cX5_init 4 = .ok (.aload_n 0, 1) := by decide +kernel
theorem dX5_init_5 : decode cX5_init 5 = .ok (.bipush 60, 2) := by decide +kernel
theorem dX5_init_7 : decode cX5_init 7 = .ok (.newarray .long, 2) := by decide +kernel
theorem dX5_init_9 : decode cX5_init 9 = .ok (.putfield 9, 3) := by decide +kernel
theorem dX5_init_12 : decode cX5_init 12 = .ok (.aload_n 0, 1) := by decide +kernel
theorem dX5_init_13 : decode cX5_init 13 = .ok (.iconst (-1), 1) := by decide +kernel
theorem dX5_init_14 : decode cX5_init 14 = .ok (.putfield 15, 3) := by decide +kernel
theorem dX5_init_17 : decode cX5_init 17 = .ok (.return_, 1) := by decide +kernel
theorem dX10_init_0 : decode cX10_init 0 = .ok (.aload_n 0, 1) := by decide +kernel
theorem dX10_init_1 : decode cX10_init 1 = .ok (.invokespecial 3, 3) := by decide +kernel
theorem dX10_init_4 : decode cX10_init 4 = .ok (.aload_n 0, 1) := by decide +kernel
theorem dX10_init_5 : decode cX10_init 5 = .ok (.bipush 77, 2) := by decide +kernel
theorem dX10_init_7 : decode cX10_init 7 = .ok (.newarray .int, 2) := by decide +kernel
theorem dX10_init_9 : decode cX10_init 9 = .ok (.putfield 9, 3) := by decide +kernel
theorem dX10_init_12 : decode cX10_init 12 = .ok (.aload_n 0, 1) := by decide +kernel
theorem dX10_init_13 : decode cX10_init 13 = .ok (.sipush 231, 3) := by decide +kernel
theorem dX10_init_16 : decode cX10_init 16 = .ok (.newarray .int, 2) := by decide +kernel
theorem dX10_init_18 : decode cX10_init 18 = .ok (.putfield 13, 3) := by decide +kernel
theorem dX10_init_21 : decode cX10_init 21 = .ok (.aload_n 0, 1) := by decide +kernel
theorem dX10_init_22 : decode cX10_init 22 = .ok (.iconst 3, 1) := by decide +kernel
theorem dX10_init_23 : decode cX10_init 23 = .ok (.newarray .boolean, 2) := by decide +kernel
theorem dX10_init_25 : decode cX10_init 25 = .ok (.putfield 16, 3) := by decide +kernel
theorem dX10_init_28 : decode cX10_init 28 = .ok (.aload_n 0, 1) := by decide +kernel
theorem dX10_init_29 : decode cX10_init 29 = .ok (.sipush 800, 3) := by decide +kernel
theorem dX10_init_32 : decode cX10_init 32 = .ok (.newarray .byte, 2) := by decide +kernel
theorem dX10_init_34 : decode cX10_init 34 = .ok (.putfield 20, 3) := by decide +kernel
theorem dX10_init_37 : decode cX10_init 37 = .ok (.aload_n 0, 1) := by decide +kernel
theorem dX10_init_38 : decode cX10_init 38 = .ok (.iconst 5, 1) := by decide +kernel
theorem dX10_init_39 : decode cX10_init 39 = .ok (.newarray .int, 2) := by decide +kernel
theorem dX10_init_41 : decode cX10_init 41 = .ok (.putfield 24, 3) := by decide +kernel
theorem dX10_init_44 : decode cX10_init 44 = .ok (.aload_n 0, 1) := by decide +kernel
theorem dX10_init_45 : decode cX10_init 45 = .ok (.iconst (-1), 1) := by decide +kernel
theorem dX10_init_46 : decode cX10_init 46 = .ok (.putfield 27, 3) := by decide +kernel
theorem dX10_init_49 : decode cX10_init 49 = .ok (.aload_n 0, 1) := by decide +kernel
theorem dX10_init_50 : decode cX10_init 50 = .ok (.bipush 77, 2) := by decide +kernel
theorem dX10_init_52 : decode cX10_init 52 = .ok (.newarray .int, 2) := by decide +kernel
theorem dX10_init_54 : decode cX10_init 54 = .ok (.putfield 31, 3) := by decide +kernel
theorem dX10_init_57 : decode cX10_init 57 = .ok (.aload_n 0, 1) := by decide +kernel
theorem dX10_init_58 : decode cX10_init 58 = .ok (.bipush 14, 2) := by decide +kernel
theorem dX10_init_60 : decode cX10_init 60 = .ok (.newarray .int, 2) := by decide +kernel
theorem dX10_init_62 : decode cX10_init 62 = .ok (.putfield 34, 3) := by decide +kernel
theorem dX10_init_65 : decode cX10_init 65 = .ok (.aload_n 0, 1) := by decide +kernel
theorem dX10_init_66 : decode cX10_init 66 = .ok (.bipush 14, 2) := by decide +kernel
theorem dX10_init_68 : decode cX10_init 68 = .ok (.newarray .int, 2) := by decide +kernel
theorem dX10_init_70 : decode cX10_init 70 = .ok (.putfield 37, 3) := by decide +kernel
theorem dX10_init_73 : decode cX10_init 73 = .ok (.aload_n 0, 1) := by decide +kernel
theorem dX10_init_74 : decode cX10_init 74 = .ok (.bipush 14, 2) := by decide +kernel
theorem dX10_init_76 : decode cX10_init 76 = .ok (.newarray .int, 2) := by decide +kernel
theorem dX10_init_78 : decode cX10_init 78 = .ok (.putfield 40, 3) := by decide +kernel
theorem dX10_init_81 : decode cX10_init 81 = .ok (.aload_n 0, 1) := by decide +kernel
theorem dX10_init_82 : decode cX10_init 82 = .ok (.bipush 8, 2) := by decide +kernel
theorem dX10_init_84 : decode cX10_init 84 = .ok (.newarray .int, 2) := by decide +kernel
theorem dX10_init_86 : decode cX10_init 86 = .ok (.putfield 43, 3) := by decide +kernel
theorem dX10_init_89 : decode cX10_init 89 = .ok (.aload_n 0, 1) := by decide +kernel
theorem dX10_init_90 : decode cX10_init 90 = .ok (.bipush 8, 2) := by decide +kernel
theorem dX10_init_92 : decode cX10_init 92 = .ok (.newarray .int, 2) := by decide +kernel
theorem dX10_init_94 : decode cX10_init 94 = .ok (.putfield 46, 3) := by decide +kernel
theorem dX10_init_97 : decode cX10_init 97 = .ok (.aload_n 0, 1) := by decide +kernel
theorem dX10_init_98 : decode cX10_init 98 = .ok (.ldc 49, 2) := by decide +kernel
theorem dX10_init_100 : decode cX10_init 100 = .ok (.newarray .int, 2) := by decide +kernel
theorem dX10_init_102 : decode cX10_init 102 = .ok (.putfield 50, 3) := by decide +kernel
theorem dX10_init_105 : decode cX10_init 105 = .ok (.aload_n 0, 1) := by decide +kernel
theorem dX10_init_106 : decode cX10_init 106 = .ok (.ldc 49, 2) := by decide +kernel
theorem dX10_init_108 : decode cX10_init 108 = .ok (.newarray .int, 2) := by decide +kernel
theorem dX10_init_110 : decode cX10_init 110 = .ok (.putfield 53, 3) := by decide +kernel
theorem dX10_init_113 : decode cX10_init 113 = .ok (.aload_n 0, 1) := by decide +kernel
theorem dX10_init_114 : decode cX10_init 114 = .ok (.ldc 49, 2) := by decide +kernel
theorem dX10_init_116 : decode cX10_init 116 = .ok (.newarray .int, 2) := by decide +kernel
theorem dX10_init_118 : decode cX10_init 118 = .ok (.putfield 56, 3) := by decide +kernel
theorem dX10_init_121 : decode cX10_init 121 = .ok (.aload_n 0, 1) := by decide +kernel
theorem dX10_init_122 : decode cX10_init 122 = .ok (.bipush 8, 2) := by decide +kernel
theorem dX10_init_124 : decode cX10_init 124 = .ok (.newarray .int, 2) := by decide +kernel
theorem dX10_init_126 : decode cX10_init 126 = .ok (.putfield 59, 3) := by decide +kernel
theorem dX10_init_129 : decode cX10_init 129 = .ok (.aload_n 0, 1) := by decide +kernel
theorem dX10_init_130 : decode cX10_init 130 = .ok (.bipush 8, 2) := by decide +kernel
theorem dX10_init_132 : decode cX10_init 132 = .ok (.newarray .int, 2) := by decide +kernel
theorem dX10_init_134 : decode cX10_init 134 = .ok (.putfield 62, 3) := by decide +kernel
theorem dX10_init_137 : decode cX10_init 137 = .ok (.aload_n 0, 1) := by decide +kernel
theorem dX10_init_138 : decode cX10_init 138 = .ok (.iconst (-1), 1) := by decide +kernel
theorem dX10_init_139 : decode cX10_init 139 = .ok (.putfield 65, 3) := by decide +kernel
theorem dX10_init_142 : decode cX10_init 142 = .ok (.aload_n 0, 1) := by decide +kernel
theorem dX10_init_143 : decode cX10_init 143 = .ok (.sipush 150, 3) := by decide +kernel
theorem dX10_init_146 : decode cX10_init 146 = .ok (.newarray .int, 2) := by decide +kernel
theorem dX10_init_148 : decode cX10_init 148 = .ok (.putfield 68, 3) := by decide +kernel
theorem dX10_init_151 : decode cX10_init 151 = .ok (.aload_n 0, 1) := by decide +kernel
theorem dX10_init_152 : decode cX10_init 152 = .ok (.iconst 4, 1) := by decide +kernel
theorem dX10_init_153 : decode cX10_init 153 = .ok (.newarray .int, 2) := by decide +kernel
theorem dX10_init_155 : decode cX10_init 155 = .ok (.putfield 71, 3) := by decide +kernel
theorem dX10_init_158 : decode cX10_init 158 = .ok (.aload_n 0, 1) := by decide +kernel
theorem dX10_init_159 : decode cX10_init 159 = .ok (.iconst 4, 1) := by decide +kernel
theorem dX10_init_160 : decode cX10_init 160 = .ok (.newarray .int, 2) := by decide +kernel
theorem dX10_init_162 : decode cX10_init 162 = .ok (.dup, 1) := by decide +kernel
theorem dX10_init_163 : decode cX10_init 163 = .ok (.iconst 0, 1) := by decide +kernel
theorem dX10_init_164 : decode cX10_init 164 = .ok (.iconst (-1), 1) := by decide +kernel
theorem dX10_init_165 : decode cX10_init 165 = .ok (.iastore, 1) := by decide +kernel
theorem dX10_init_166 : decode cX10_init 166 = .ok (.dup, 1) := by decide +kernel
theorem dX10_init_167 : decode cX10_init 167 = .ok (.iconst 1, 1) := by decide +kernel
theorem dX10_init_168 : decode cX10_init 168 = .ok (.iconst (-1), 1) := by decide +kernel
theorem dX10_init_169 : decode cX10_init 169 = .ok (.iastore, 1) := by decide +kernel
theorem dX10_init_170 : decode cX10_init 170 = .ok (.dup, 1) := by decide +kernel
theorem dX10_init_171 : decode cX10_init 171 = .ok (.iconst 2, 1) := by decide +kernel
theorem dX10_init_172 : decode cX10_init 172 = .ok (.iconst (-1), 1) := by decide +kernel
theorem dX10_init_173 : decode cX10_init 173 = .ok (.iastore, 1) := by decide +kernel
theorem dX10_init_174 : decode cX10_init 174 = .ok (.dup, 1) := by decide +kernel
theorem dX10_init_175 : decode cX10_init 175 = .ok (.iconst 3, 1) := by decide +kernel
theorem dX10_init_176 : decode cX10_init 176 = .ok (.iconst (-1), 1) := by decide +kernel
theorem dX10_init_177 : decode cX10_init 177 = .ok (.iastore, 1) := by decide +kernel
theorem dX10_init_178 : decode cX10_init 178 = .ok (.putfield 74, 3) := by decide +kernel
theorem dX10_init_181 : decode cX10_init 181 = .ok (.aload_n 0, 1) := by decide +kernel
theorem dX10_init_182 : decode cX10_init 182 = .ok (.iconst 4, 1) := by decide +kernel
theorem dX10_init_183 : decode cX10_init 183 = .ok (.newarray .int, 2) := by decide +kernel
theorem dX10_init_185 : decode cX10_init 185 = .ok (.putfield 77, 3) := by decide +kernel
theorem dX10_init_188 : decode cX10_init 188 = .ok (.aload_n 0, 1) := by decide +kernel
theorem dX10_init_189 : decode cX10_init 189 = .ok (.sipush 240, 3) := by decide +kernel
theorem dX10_init_192 : decode cX10_init 192 = .ok (.newarray .long, 2) := by decide +kernel
theorem dX10_init_194 : decode cX10_init 194 = .ok (.putfield 80, 3) := by decide +kernel
theorem dX10_init_197 : decode cX10_init 197 = .ok (.aload_n 0, 1) := by decide +kernel
theorem dX10_init_198 : decode cX10_init 198 = .ok (.bipush 60, 2) := by decide +kernel
theorem dX10_init_200 : decode cX10_init 200 = .ok (.newarray .long, 2) := by decide +kernel
theorem dX10_init_202 : decode cX10_init 202 = .ok (.putfield 84, 3) := by decide +kernel
theorem dX10_init_205 : decode cX10_init 205 = .ok (.return_, 1) := by decide +kernel
theorem wc0 : Cond.methodLink "SacredHens" 1 ⟨"java/lang/Object", "<init>", "()V"⟩ ∈ hWS := hWS_in (i := 24) (by decide +kernel) (by decide +kernel)
theorem wc1 : Cond.instanceMethod ⟨"java/lang/Object", "<init>", "()V"⟩ ∈ hWS := hWS_in (i := 25) (by decide +kernel) (by decide +kernel)
theorem wc2 : Cond.code ⟨"java/lang/Object", "<init>", "()V"⟩ object_method_1_code 1 Option.none ∈ hWS := hWS_in (i := 26) (by decide +kernel) (by decide +kernel)
theorem wc3 : Cond.methodLink "SacredHens$Tape" 3 ⟨"java/lang/Object", "<init>", "()V"⟩ ∈ hWS := hWS_in (i := 32) (by decide +kernel) (by decide +kernel)
theorem wc4 : Cond.fieldLink "SacredHens$Tape" 9 "SacredHens$Tape" "bytes" "[B" ∈ hWS := hWS_in (i := 33) (by decide +kernel) (by decide +kernel)
theorem wc5 : Cond.arrayClass FieldType.byte ∈ hWS := hWS_in (i := 43) (by decide +kernel) (by decide +kernel)
theorem wc6 : Cond.fieldLink "SacredHens" 10 "SacredHens" "tape" "LSacredHens$Tape;" ∈ hWS := hWS_in (i := 332) (by decide +kernel) (by decide +kernel)
theorem wc7 : Cond.methodLink "SacredHens$Reader" 3 ⟨"java/lang/Object", "<init>", "()V"⟩ ∈ hWS := hWS_in (i := 49) (by decide +kernel) (by decide +kernel)
theorem wc8 : Cond.fieldLink "SacredHens$Reader" 9 "SacredHens$Reader" "faultPlace" "I" ∈ hWS := hWS_in (i := 52) (by decide +kernel) (by decide +kernel)
theorem wc9 : Cond.fieldLink "SacredHens" 19 "SacredHens" "reader" "LSacredHens$Reader;" ∈ hWS := hWS_in (i := 333) (by decide +kernel) (by decide +kernel)
theorem wc10 : Cond.methodLink "SacredHens$Season" 3 ⟨"java/lang/Object", "<init>", "()V"⟩ ∈ hWS := hWS_in (i := 82) (by decide +kernel) (by decide +kernel)
theorem wc11 : Cond.fieldLink "SacredHens$Season" 9 "SacredHens$Season" "hungerOn" "[I" ∈ hWS := hWS_in (i := 83) (by decide +kernel) (by decide +kernel)
theorem wc12 : Cond.fieldLink "SacredHens$Season" 15 "SacredHens$Season" "askDay" "[I" ∈ hWS := hWS_in (i := 85) (by decide +kernel) (by decide +kernel)
theorem wc13 : Cond.fieldLink "SacredHens$Season" 18 "SacredHens$Season" "passDay" "[I" ∈ hWS := hWS_in (i := 86) (by decide +kernel) (by decide +kernel)
theorem wc14 : Cond.fieldLink "SacredHens$Season" 21 "SacredHens$Season" "reason" "[I" ∈ hWS := hWS_in (i := 88) (by decide +kernel) (by decide +kernel)
theorem wc15 : Cond.fieldLink "SacredHens$Season" 24 "SacredHens$Season" "doneOn" "[I" ∈ hWS := hWS_in (i := 92) (by decide +kernel) (by decide +kernel)
theorem wc16 : Cond.fieldLink "SacredHens$Season" 27 "SacredHens$Season" "clearOf" "[I" ∈ hWS := hWS_in (i := 93) (by decide +kernel) (by decide +kernel)
theorem wc17 : Cond.arrayClass FieldType.int ∈ hWS := hWS_in (i := 112) (by decide +kernel) (by decide +kernel)
theorem wc18 : Cond.fieldLink "SacredHens" 26 "SacredHens" "season" "LSacredHens$Season;" ∈ hWS := hWS_in (i := 334) (by decide +kernel) (by decide +kernel)
theorem wc19 : Cond.methodLink "SacredHens$Planner" 3 ⟨"java/lang/Object", "<init>", "()V"⟩ ∈ hWS := hWS_in (i := 118) (by decide +kernel) (by decide +kernel)
theorem wc20 : Cond.fieldLink "SacredHens$Planner" 9 "SacredHens$Planner" "most" "[I" ∈ hWS := hWS_in (i := 119) (by decide +kernel) (by decide +kernel)
theorem wc21 : Cond.fieldLink "SacredHens$Planner" 15 "SacredHens$Planner" "ways" "[I" ∈ hWS := hWS_in (i := 120) (by decide +kernel) (by decide +kernel)
theorem wc22 : Cond.fieldLink "SacredHens$Planner" 18 "SacredHens$Planner" "weight" "[I" ∈ hWS := hWS_in (i := 121) (by decide +kernel) (by decide +kernel)
theorem wc23 : Cond.fieldLink "SacredHens$Planner" 21 "SacredHens$Planner" "ahead" "[I" ∈ hWS := hWS_in (i := 122) (by decide +kernel) (by decide +kernel)
theorem wc24 : Cond.fieldLink "SacredHens$Planner" 24 "SacredHens$Planner" "openOn" "[I" ∈ hWS := hWS_in (i := 123) (by decide +kernel) (by decide +kernel)
theorem wc25 : Cond.fieldLink "SacredHens" 33 "SacredHens" "planner" "LSacredHens$Planner;" ∈ hWS := hWS_in (i := 335) (by decide +kernel) (by decide +kernel)
theorem wc26 : Cond.methodLink "SacredHens$Chain" 3 ⟨"java/lang/Object", "<init>", "()V"⟩ ∈ hWS := hWS_in (i := 149) (by decide +kernel) (by decide +kernel)
theorem wc27 : Cond.fieldLink "SacredHens$Chain" 11 "SacredHens$Chain" "cost" "[I" ∈ hWS := hWS_in (i := 150) (by decide +kernel) (by decide +kernel)
theorem wc28 : Cond.fieldLink "SacredHens" 40 "SacredHens" "chain" "LSacredHens$Chain;" ∈ hWS := hWS_in (i := 336) (by decide +kernel) (by decide +kernel)
theorem wc29 : Cond.fieldLink "SacredHens" 46 "SacredHens" "slots" "[LSacredHens$Row;" ∈ hWS := hWS_in (i := 337) (by decide +kernel) (by decide +kernel)
theorem wc30 : Cond.methodLink "SacredHens$Hens" 3 ⟨"java/lang/Object", "<init>", "()V"⟩ ∈ hWS := hWS_in (i := 161) (by decide +kernel) (by decide +kernel)
theorem wc31 : Cond.fieldLink "SacredHens$Hens" 9 "SacredHens$Hens" "eatingOn" "[I" ∈ hWS := hWS_in (i := 170) (by decide +kernel) (by decide +kernel)
theorem wc32 : Cond.fieldLink "SacredHens" 53 "SacredHens" "hens" "LSacredHens$Hens;" ∈ hWS := hWS_in (i := 338) (by decide +kernel) (by decide +kernel)
theorem wc33 : Cond.methodLink "SacredHens$SignList" 1 ⟨"java/lang/Object", "<init>", "()V"⟩ ∈ hWS := hWS_in (i := 193) (by decide +kernel) (by decide +kernel)
theorem wc34 : Cond.fieldLink "SacredHens$SignList" 7 "SacredHens$SignList" "counts" "[I" ∈ hWS := hWS_in (i := 194) (by decide +kernel) (by decide +kernel)
theorem wc35 : Cond.fieldLink "SacredHens" 60 "SacredHens" "signs" "LSacredHens$SignList;" ∈ hWS := hWS_in (i := 339) (by decide +kernel) (by decide +kernel)
theorem wc36 : Cond.fieldLink "SacredHens" 66 "SacredHens" "images" "[LSacredHens$Camp;" ∈ hWS := hWS_in (i := 340) (by decide +kernel) (by decide +kernel)
theorem wc37 : Cond.fieldLink "SacredHens" 70 "SacredHens" "imageKept" "[Z" ∈ hWS := hWS_in (i := 341) (by decide +kernel) (by decide +kernel)
theorem wc38 : Cond.methodLink "SacredHens$Camp" 3 ⟨"java/lang/Object", "<init>", "()V"⟩ ∈ hWS := hWS_in (i := 204) (by decide +kernel) (by decide +kernel)
theorem wc39 : Cond.fieldLink "SacredHens$Camp" 9 "SacredHens$Camp" "augurSide" "[I" ∈ hWS := hWS_in (i := 237) (by decide +kernel) (by decide +kernel)
theorem wc40 : Cond.fieldLink "SacredHens$Camp" 15 "SacredHens$Camp" "augurFirst" "[I" ∈ hWS := hWS_in (i := 240) (by decide +kernel) (by decide +kernel)
theorem wc41 : Cond.fieldLink "SacredHens$Camp" 18 "SacredHens$Camp" "augurLast" "[I" ∈ hWS := hWS_in (i := 243) (by decide +kernel) (by decide +kernel)
theorem wc42 : Cond.fieldLink "SacredHens$Camp" 21 "SacredHens$Camp" "billSide" "[I" ∈ hWS := hWS_in (i := 251) (by decide +kernel) (by decide +kernel)
theorem wc43 : Cond.fieldLink "SacredHens$Camp" 24 "SacredHens$Camp" "billWorth" "[I" ∈ hWS := hWS_in (i := 257) (by decide +kernel) (by decide +kernel)
theorem wc44 : Cond.fieldLink "SacredHens$Camp" 27 "SacredHens$Camp" "billAfter" "[I" ∈ hWS := hWS_in (i := 261) (by decide +kernel) (by decide +kernel)
theorem wc45 : Cond.fieldLink "SacredHens$Camp" 30 "SacredHens$Camp" "actDay" "[I" ∈ hWS := hWS_in (i := 269) (by decide +kernel) (by decide +kernel)
theorem wc46 : Cond.fieldLink "SacredHens$Camp" 33 "SacredHens$Camp" "actBill" "[I" ∈ hWS := hWS_in (i := 271) (by decide +kernel) (by decide +kernel)
theorem wc47 : Cond.fieldLink "SacredHens" 75 "SacredHens" "now" "LSacredHens$Camp;" ∈ hWS := hWS_in (i := 342) (by decide +kernel) (by decide +kernel)
theorem wc48 : Cond.fieldLink "SacredHens" 79 "SacredHens" "spare" "LSacredHens$Camp;" ∈ hWS := hWS_in (i := 343) (by decide +kernel) (by decide +kernel)
theorem wc49 : Cond.methodLink "SacredHens$Row" 3 ⟨"java/lang/Object", "<init>", "()V"⟩ ∈ hWS := hWS_in (i := 313) (by decide +kernel) (by decide +kernel)
theorem wc50 : Cond.fieldLink "SacredHens$Row" 9 "SacredHens$Row" "numbers" "[J" ∈ hWS := hWS_in (i := 314) (by decide +kernel) (by decide +kernel)
theorem wc51 : Cond.fieldLink "SacredHens$Row" 15 "SacredHens$Row" "width" "I" ∈ hWS := hWS_in (i := 318) (by decide +kernel) (by decide +kernel)
theorem wc52 : Cond.arrayClass FieldType.long ∈ hWS := hWS_in (i := 331) (by decide +kernel) (by decide +kernel)
theorem wc53 : Cond.classLink "SacredHens" 7 "SacredHens$Tape" ∈ hWS := hWS_in (i := 27) (by decide +kernel) (by decide +kernel)
theorem wc54 : Cond.instantiable "SacredHens$Tape" 2 ∈ hWS := hWS_in (i := 28) (by decide +kernel) (by decide +kernel)
theorem wc55 : Cond.initialized "SacredHens$Tape" ∈ hWS := hWS_in (i := 2) (by decide +kernel) (by decide +kernel)
theorem wc56 : Cond.instanceMethod ⟨"SacredHens$Tape", "<init>", "()V"⟩ ∈ hWS := hWS_in (i := 30) (by decide +kernel) (by decide +kernel)
theorem wc57 : Cond.code ⟨"SacredHens$Tape", "<init>", "()V"⟩ prog_10_method_1_code 1 Option.none ∈ hWS := hWS_in (i := 31) (by decide +kernel) (by decide +kernel)
theorem wc58 : Cond.classLink "SacredHens" 16 "SacredHens$Reader" ∈ hWS := hWS_in (i := 44) (by decide +kernel) (by decide +kernel)
theorem wc59 : Cond.instantiable "SacredHens$Reader" 8 ∈ hWS := hWS_in (i := 45) (by decide +kernel) (by decide +kernel)
theorem wc60 : Cond.initialized "SacredHens$Reader" ∈ hWS := hWS_in (i := 3) (by decide +kernel) (by decide +kernel)
theorem wc61 : Cond.instanceMethod ⟨"SacredHens$Reader", "<init>", "()V"⟩ ∈ hWS := hWS_in (i := 47) (by decide +kernel) (by decide +kernel)
theorem wc62 : Cond.code ⟨"SacredHens$Reader", "<init>", "()V"⟩ prog_6_method_1_code 1 Option.none ∈ hWS := hWS_in (i := 48) (by decide +kernel) (by decide +kernel)
theorem wc63 : Cond.classLink "SacredHens" 23 "SacredHens$Season" ∈ hWS := hWS_in (i := 77) (by decide +kernel) (by decide +kernel)
theorem wc64 : Cond.instantiable "SacredHens$Season" 8 ∈ hWS := hWS_in (i := 78) (by decide +kernel) (by decide +kernel)
theorem wc65 : Cond.initialized "SacredHens$Season" ∈ hWS := hWS_in (i := 4) (by decide +kernel) (by decide +kernel)
theorem wc66 : Cond.instanceMethod ⟨"SacredHens$Season", "<init>", "()V"⟩ ∈ hWS := hWS_in (i := 80) (by decide +kernel) (by decide +kernel)
theorem wc67 : Cond.code ⟨"SacredHens$Season", "<init>", "()V"⟩ prog_8_method_1_code 1 Option.none ∈ hWS := hWS_in (i := 81) (by decide +kernel) (by decide +kernel)
theorem wc68 : Cond.classLink "SacredHens" 30 "SacredHens$Planner" ∈ hWS := hWS_in (i := 113) (by decide +kernel) (by decide +kernel)
theorem wc69 : Cond.instantiable "SacredHens$Planner" 8 ∈ hWS := hWS_in (i := 114) (by decide +kernel) (by decide +kernel)
theorem wc70 : Cond.initialized "SacredHens$Planner" ∈ hWS := hWS_in (i := 5) (by decide +kernel) (by decide +kernel)
theorem wc71 : Cond.instanceMethod ⟨"SacredHens$Planner", "<init>", "()V"⟩ ∈ hWS := hWS_in (i := 116) (by decide +kernel) (by decide +kernel)
theorem wc72 : Cond.code ⟨"SacredHens$Planner", "<init>", "()V"⟩ prog_5_method_1_code 1 Option.none ∈ hWS := hWS_in (i := 117) (by decide +kernel) (by decide +kernel)
theorem wc73 : Cond.classLink "SacredHens" 37 "SacredHens$Chain" ∈ hWS := hWS_in (i := 144) (by decide +kernel) (by decide +kernel)
theorem wc74 : Cond.instantiable "SacredHens$Chain" 1 ∈ hWS := hWS_in (i := 145) (by decide +kernel) (by decide +kernel)
theorem wc75 : Cond.initialized "SacredHens$Chain" ∈ hWS := hWS_in (i := 6) (by decide +kernel) (by decide +kernel)
theorem wc76 : Cond.instanceMethod ⟨"SacredHens$Chain", "<init>", "()V"⟩ ∈ hWS := hWS_in (i := 147) (by decide +kernel) (by decide +kernel)
theorem wc77 : Cond.code ⟨"SacredHens$Chain", "<init>", "()V"⟩ prog_3_method_1_code 1 Option.none ∈ hWS := hWS_in (i := 148) (by decide +kernel) (by decide +kernel)
theorem wc78 : Cond.classLink "SacredHens" 44 "SacredHens$Row" ∈ hWS := hWS_in (i := 154) (by decide +kernel) (by decide +kernel)
theorem wc79 : Cond.classLink "SacredHens" 50 "SacredHens$Hens" ∈ hWS := hWS_in (i := 156) (by decide +kernel) (by decide +kernel)
theorem wc80 : Cond.instantiable "SacredHens$Hens" 7 ∈ hWS := hWS_in (i := 157) (by decide +kernel) (by decide +kernel)
theorem wc81 : Cond.initialized "SacredHens$Hens" ∈ hWS := hWS_in (i := 7) (by decide +kernel) (by decide +kernel)
theorem wc82 : Cond.instanceMethod ⟨"SacredHens$Hens", "<init>", "()V"⟩ ∈ hWS := hWS_in (i := 159) (by decide +kernel) (by decide +kernel)
theorem wc83 : Cond.code ⟨"SacredHens$Hens", "<init>", "()V"⟩ prog_4_method_1_code 1 Option.none ∈ hWS := hWS_in (i := 160) (by decide +kernel) (by decide +kernel)
theorem wc84 : Cond.classLink "SacredHens" 57 "SacredHens$SignList" ∈ hWS := hWS_in (i := 188) (by decide +kernel) (by decide +kernel)
theorem wc85 : Cond.instantiable "SacredHens$SignList" 1 ∈ hWS := hWS_in (i := 189) (by decide +kernel) (by decide +kernel)
theorem wc86 : Cond.initialized "SacredHens$SignList" ∈ hWS := hWS_in (i := 8) (by decide +kernel) (by decide +kernel)
theorem wc87 : Cond.instanceMethod ⟨"SacredHens$SignList", "<init>", "()V"⟩ ∈ hWS := hWS_in (i := 191) (by decide +kernel) (by decide +kernel)
theorem wc88 : Cond.code ⟨"SacredHens$SignList", "<init>", "()V"⟩ prog_9_method_1_code 1 Option.none ∈ hWS := hWS_in (i := 192) (by decide +kernel) (by decide +kernel)
theorem wc89 : Cond.classLink "SacredHens" 64 "SacredHens$Camp" ∈ hWS := hWS_in (i := 198) (by decide +kernel) (by decide +kernel)
theorem wc90 : Cond.arrayClass FieldType.boolean ∈ hWS := hWS_in (i := 308) (by decide +kernel) (by decide +kernel)
theorem wc91 : Cond.instantiable "SacredHens$Camp" 17 ∈ hWS := hWS_in (i := 200) (by decide +kernel) (by decide +kernel)
theorem wc92 : Cond.initialized "SacredHens$Camp" ∈ hWS := hWS_in (i := 9) (by decide +kernel) (by decide +kernel)
theorem wc93 : Cond.instanceMethod ⟨"SacredHens$Camp", "<init>", "()V"⟩ ∈ hWS := hWS_in (i := 202) (by decide +kernel) (by decide +kernel)
theorem wc94 : Cond.code ⟨"SacredHens$Camp", "<init>", "()V"⟩ prog_2_method_1_code 1 Option.none ∈ hWS := hWS_in (i := 203) (by decide +kernel) (by decide +kernel)
theorem wc95 : Cond.instantiable "SacredHens$Row" 3 ∈ hWS := hWS_in (i := 309) (by decide +kernel) (by decide +kernel)
theorem wc96 : Cond.initialized "SacredHens$Row" ∈ hWS := hWS_in (i := 10) (by decide +kernel) (by decide +kernel)
theorem wc97 : Cond.instanceMethod ⟨"SacredHens$Row", "<init>", "()V"⟩ ∈ hWS := hWS_in (i := 311) (by decide +kernel) (by decide +kernel)
theorem wc98 : Cond.code ⟨"SacredHens$Row", "<init>", "()V"⟩ prog_7_method_1_code 1 Option.none ∈ hWS := hWS_in (i := 312) (by decide +kernel) (by decide +kernel)
theorem wc99 : Cond.methodLink "SacredHensModel" 3 ⟨"java/lang/Object", "<init>", "()V"⟩ ∈ hWS := hWS_in (i := 1215) (by decide +kernel) (by decide +kernel)
theorem wc100 : Cond.fieldLink "SacredHensModel" 9 "SacredHensModel" "world" "[I" ∈ hWS := hWS_in (i := 1217) (by decide +kernel) (by decide +kernel)
theorem wc101 : Cond.fieldLink "SacredHensModel" 13 "SacredHensModel" "images" "[I" ∈ hWS := hWS_in (i := 1218) (by decide +kernel) (by decide +kernel)
theorem wc102 : Cond.fieldLink "SacredHensModel" 16 "SacredHensModel" "hasImage" "[Z" ∈ hWS := hWS_in (i := 1219) (by decide +kernel) (by decide +kernel)
theorem wc103 : Cond.fieldLink "SacredHensModel" 20 "SacredHensModel" "tape" "[B" ∈ hWS := hWS_in (i := 1220) (by decide +kernel) (by decide +kernel)
theorem wc104 : Cond.fieldLink "SacredHensModel" 24 "SacredHensModel" "five" "[I" ∈ hWS := hWS_in (i := 1222) (by decide +kernel) (by decide +kernel)
theorem wc105 : Cond.fieldLink "SacredHensModel" 27 "SacredHensModel" "faultPlace" "I" ∈ hWS := hWS_in (i := 1229) (by decide +kernel) (by decide +kernel)
theorem wc106 : Cond.fieldLink "SacredHensModel" 31 "SacredHensModel" "fresh" "[I" ∈ hWS := hWS_in (i := 1230) (by decide +kernel) (by decide +kernel)
theorem wc107 : Cond.fieldLink "SacredHensModel" 34 "SacredHensModel" "askedOn" "[I" ∈ hWS := hWS_in (i := 1231) (by decide +kernel) (by decide +kernel)
theorem wc108 : Cond.fieldLink "SacredHensModel" 37 "SacredHensModel" "hungerOn" "[I" ∈ hWS := hWS_in (i := 1232) (by decide +kernel) (by decide +kernel)
theorem wc109 : Cond.fieldLink "SacredHensModel" 40 "SacredHensModel" "passedOn" "[I" ∈ hWS := hWS_in (i := 1233) (by decide +kernel) (by decide +kernel)
theorem wc110 : Cond.fieldLink "SacredHensModel" 43 "SacredHensModel" "whenOf" "[I" ∈ hWS := hWS_in (i := 1234) (by decide +kernel) (by decide +kernel)
theorem wc111 : Cond.fieldLink "SacredHensModel" 46 "SacredHensModel" "dayOf" "[I" ∈ hWS := hWS_in (i := 1235) (by decide +kernel) (by decide +kernel)
theorem wc112 : Cond.constant "SacredHensModel" 49 38400 ∈ hWS := hWS_in (i := 1216) (by decide +kernel) (by decide +kernel)
theorem wc113 : Cond.fieldLink "SacredHensModel" 50 "SacredHensModel" "planWorth" "[I" ∈ hWS := hWS_in (i := 1239) (by decide +kernel) (by decide +kernel)
theorem wc114 : Cond.fieldLink "SacredHensModel" 53 "SacredHensModel" "planWays" "[I" ∈ hWS := hWS_in (i := 1240) (by decide +kernel) (by decide +kernel)
theorem wc115 : Cond.fieldLink "SacredHensModel" 56 "SacredHensModel" "planMany" "[I" ∈ hWS := hWS_in (i := 1241) (by decide +kernel) (by decide +kernel)
theorem wc116 : Cond.fieldLink "SacredHensModel" 59 "SacredHensModel" "own" "[I" ∈ hWS := hWS_in (i := 1242) (by decide +kernel) (by decide +kernel)
theorem wc117 : Cond.fieldLink "SacredHensModel" 62 "SacredHensModel" "freeOf" "[I" ∈ hWS := hWS_in (i := 1247) (by decide +kernel) (by decide +kernel)
theorem wc118 : Cond.fieldLink "SacredHensModel" 65 "SacredHensModel" "banned" "I" ∈ hWS := hWS_in (i := 1248) (by decide +kernel) (by decide +kernel)
theorem wc119 : Cond.fieldLink "SacredHensModel" 68 "SacredHensModel" "pairs" "[I" ∈ hWS := hWS_in (i := 1250) (by decide +kernel) (by decide +kernel)
theorem wc120 : Cond.fieldLink "SacredHensModel" 71 "SacredHensModel" "tallies" "[I" ∈ hWS := hWS_in (i := 1253) (by decide +kernel) (by decide +kernel)
theorem wc121 : Cond.fieldLink "SacredHensModel" 74 "SacredHensModel" "many" "[I" ∈ hWS := hWS_in (i := 1254) (by decide +kernel) (by decide +kernel)
theorem wc122 : Cond.fieldLink "SacredHensModel" 77 "SacredHensModel" "width" "[I" ∈ hWS := hWS_in (i := 1255) (by decide +kernel) (by decide +kernel)
theorem wc123 : Cond.fieldLink "SacredHensModel" 80 "SacredHensModel" "numbers" "[J" ∈ hWS := hWS_in (i := 1256) (by decide +kernel) (by decide +kernel)
theorem wc124 : Cond.fieldLink "SacredHensModel" 84 "SacredHensModel" "moving" "[J" ∈ hWS := hWS_in (i := 1257) (by decide +kernel) (by decide +kernel)
def B8_1 (w : HW) : HW := (uR w 1 0 2)
theorem f8_1 {w : HW} (h : Fh w 2) : Fh (B8_1 w) 3 := ((h).up (n' := 3) (Nat.le_of_ble_eq_true rfl)).uR (by decide)
set_option maxRecDepth 20000 in
theorem b8_1 {b : Bx} {w : HW} (hF : Fh w 2) : Mb b yX8_init cX8_init 1 1 12 1 800 [.ref (bB b + 1)] w 2 (B8_1 w) 3 := by
  refine Mb.of (by decide) rfl (Nat.le_of_ble_eq_true rfl) hF (fun G hG C I N E hm => ?_)
  subst hG
  have C : Cx G cX8_init RX8 1 1 12 := C
  change Sb G _ [(0, .ref (hB G + 1))] [] w _ _ _
  refine sb_aload_n C 0 rfl dX8_init_0 rfl ?_
  refine sb_obj C wc3 wc1 wc2 rfl rfl dX8_init_1 ?_
  refine sb_aload_n C 0 rfl dX8_init_4 rfl ?_
  refine sb_sipush C (v := 800) (by decide) dX8_init_5 ?_
  refine sb_newa C I hm (t := 3) (len := 800) rfl rfl (Or.inr (Or.inr (Or.inl ⟨rfl, rfl⟩))) wc5 (by decide) rfl rfl rfl dX8_init_8 ?_
  refine sb_putF C N fo_8_0 rfl wc4 rfl rfl rfl (Or.inr ⟨_, rfl⟩) dX8_init_10 ?_
  exact sb_ret C hm E rfl dX8_init_13
def B4_3 (w : HW) : HW := (uI w 3 1 (-1))
theorem f4_3 {w : HW} (h : Fh w 4) : Fh (B4_3 w) 4 := (h).uI (by decide)
set_option maxRecDepth 20000 in
theorem b4_3 {b : Bx} {w : HW} (hF : Fh w 4) : Mb b yX4_init cX4_init 1 1 12 0 0 [.ref (bB b + 3)] w 4 (B4_3 w) 4 := by
  refine Mb.of (by decide) rfl (Nat.le_of_ble_eq_true rfl) hF (fun G hG C I N E hm => ?_)
  subst hG
  have C : Cx G cX4_init RX4 1 1 12 := C
  change Sb G _ [(0, .ref (hB G + 3))] [] w _ _ _
  refine sb_aload_n C 0 rfl dX4_init_0 rfl ?_
  refine sb_obj C wc7 wc1 wc2 rfl rfl dX4_init_1 ?_
  refine sb_aload_n C 0 rfl dX4_init_4 rfl ?_
  refine sb_iconst C (v := (-1)) (by decide) dX4_init_5 ?_
  refine sb_putI C fo_4_1 rfl wc8 rfl rfl dX4_init_6 ?_
  exact sb_ret C hm E rfl dX4_init_9
def B6_4 (w : HW) : HW := (uR (uR (uR (uR (uR (uR w 4 0 5) 4 1 6) 4 2 7) 4 3 8) 4 5 9) 4 6 10)
theorem f6_4 {w : HW} (h : Fh w 5) : Fh (B6_4 w) 11 := (((((((h).up (n' := 11) (Nat.le_of_ble_eq_true rfl)).uR (by decide)).uR (by decide)).uR (by decide)).uR (by decide)).uR (by decide)).uR (by decide)
set_option maxRecDepth 20000 in
theorem b6_4 {b : Bx} {w : HW} (hF : Fh w 5) : Mb b yX6_init cX6_init 1 1 12 6 54 [.ref (bB b + 4)] w 5 (B6_4 w) 11 := by
  refine Mb.of (by decide) rfl (Nat.le_of_ble_eq_true rfl) hF (fun G hG C I N E hm => ?_)
  subst hG
  have C : Cx G cX6_init RX6 1 1 12 := C
  change Sb G _ [(0, .ref (hB G + 4))] [] w _ _ _
  refine sb_aload_n C 0 rfl dX6_init_0 rfl ?_
  refine sb_obj C wc10 wc1 wc2 rfl rfl dX6_init_1 ?_
  refine sb_aload_n C 0 rfl dX6_init_4 rfl ?_
  refine sb_bipush C (v := 14) (by decide) dX6_init_5 ?_
  refine sb_newa C I hm (t := 1) (len := 14) rfl rfl (Or.inl ⟨rfl, rfl⟩) wc17 (by decide) rfl rfl rfl dX6_init_7 ?_
  refine sb_putF C N fo_6_0 rfl wc11 rfl rfl rfl (Or.inr ⟨_, rfl⟩) dX6_init_9 ?_
  refine sb_aload_n C 0 rfl dX6_init_12 rfl ?_
  refine sb_bipush C (v := 8) (by decide) dX6_init_13 ?_
  refine sb_newa C I hm (t := 1) (len := 8) rfl rfl (Or.inl ⟨rfl, rfl⟩) wc17 (by decide) rfl rfl rfl dX6_init_15 ?_
  refine sb_putF C N fo_6_1 rfl wc12 rfl rfl rfl (Or.inr ⟨_, rfl⟩) dX6_init_17 ?_
  refine sb_aload_n C 0 rfl dX6_init_20 rfl ?_
  refine sb_bipush C (v := 8) (by decide) dX6_init_21 ?_
  refine sb_newa C I hm (t := 1) (len := 8) rfl rfl (Or.inl ⟨rfl, rfl⟩) wc17 (by decide) rfl rfl rfl dX6_init_23 ?_
  refine sb_putF C N fo_6_2 rfl wc13 rfl rfl rfl (Or.inr ⟨_, rfl⟩) dX6_init_25 ?_
  refine sb_aload_n C 0 rfl dX6_init_28 rfl ?_
  refine sb_bipush C (v := 8) (by decide) dX6_init_29 ?_
  refine sb_newa C I hm (t := 1) (len := 8) rfl rfl (Or.inl ⟨rfl, rfl⟩) wc17 (by decide) rfl rfl rfl dX6_init_31 ?_
  refine sb_putF C N fo_6_3 rfl wc14 rfl rfl rfl (Or.inr ⟨_, rfl⟩) dX6_init_33 ?_
  refine sb_aload_n C 0 rfl dX6_init_36 rfl ?_
  refine sb_bipush C (v := 14) (by decide) dX6_init_37 ?_
  refine sb_newa C I hm (t := 1) (len := 14) rfl rfl (Or.inl ⟨rfl, rfl⟩) wc17 (by decide) rfl rfl rfl dX6_init_39 ?_
  refine sb_putF C N fo_6_5 rfl wc15 rfl rfl rfl (Or.inr ⟨_, rfl⟩) dX6_init_41 ?_
  refine sb_aload_n C 0 rfl dX6_init_44 rfl ?_
  refine sb_iconst C (v := 2) (by decide) dX6_init_45 ?_
  refine sb_newa C I hm (t := 1) (len := 2) rfl rfl (Or.inl ⟨rfl, rfl⟩) wc17 (by decide) rfl rfl rfl dX6_init_46 ?_
  refine sb_putF C N fo_6_6 rfl wc16 rfl rfl rfl (Or.inr ⟨_, rfl⟩) dX6_init_48 ?_
  exact sb_ret C hm E rfl dX6_init_51
def B3_11 (w : HW) : HW := (uR (uR (uR (uR (uR w 11 0 12) 11 1 13) 11 2 14) 11 3 15) 11 4 16)
theorem f3_11 {w : HW} (h : Fh w 12) : Fh (B3_11 w) 17 := ((((((h).up (n' := 17) (Nat.le_of_ble_eq_true rfl)).uR (by decide)).uR (by decide)).uR (by decide)).uR (by decide)).uR (by decide)
set_option maxRecDepth 20000 in
theorem b3_11 {b : Bx} {w : HW} (hF : Fh w 12) : Mb b yX3_init cX3_init 1 1 12 5 7710 [.ref (bB b + 11)] w 12 (B3_11 w) 17 := by
  refine Mb.of (by decide) rfl (Nat.le_of_ble_eq_true rfl) hF (fun G hG C I N E hm => ?_)
  subst hG
  have C : Cx G cX3_init RX3 1 1 12 := C
  change Sb G _ [(0, .ref (hB G + 11))] [] w _ _ _
  refine sb_aload_n C 0 rfl dX3_init_0 rfl ?_
  refine sb_obj C wc19 wc1 wc2 rfl rfl dX3_init_1 ?_
  refine sb_aload_n C 0 rfl dX3_init_4 rfl ?_
  refine sb_sipush C (v := 3840) (by decide) dX3_init_5 ?_
  refine sb_newa C I hm (t := 1) (len := 3840) rfl rfl (Or.inl ⟨rfl, rfl⟩) wc17 (by decide) rfl rfl rfl dX3_init_8 ?_
  refine sb_putF C N fo_3_0 rfl wc20 rfl rfl rfl (Or.inr ⟨_, rfl⟩) dX3_init_10 ?_
  refine sb_aload_n C 0 rfl dX3_init_13 rfl ?_
  refine sb_sipush C (v := 3840) (by decide) dX3_init_14 ?_
  refine sb_newa C I hm (t := 1) (len := 3840) rfl rfl (Or.inl ⟨rfl, rfl⟩) wc17 (by decide) rfl rfl rfl dX3_init_17 ?_
  refine sb_putF C N fo_3_1 rfl wc21 rfl rfl rfl (Or.inr ⟨_, rfl⟩) dX3_init_19 ?_
  refine sb_aload_n C 0 rfl dX3_init_22 rfl ?_
  refine sb_bipush C (v := 8) (by decide) dX3_init_23 ?_
  refine sb_newa C I hm (t := 1) (len := 8) rfl rfl (Or.inl ⟨rfl, rfl⟩) wc17 (by decide) rfl rfl rfl dX3_init_25 ?_
  refine sb_putF C N fo_3_2 rfl wc22 rfl rfl rfl (Or.inr ⟨_, rfl⟩) dX3_init_27 ?_
  refine sb_aload_n C 0 rfl dX3_init_30 rfl ?_
  refine sb_bipush C (v := 8) (by decide) dX3_init_31 ?_
  refine sb_newa C I hm (t := 1) (len := 8) rfl rfl (Or.inl ⟨rfl, rfl⟩) wc17 (by decide) rfl rfl rfl dX3_init_33 ?_
  refine sb_putF C N fo_3_3 rfl wc23 rfl rfl rfl (Or.inr ⟨_, rfl⟩) dX3_init_35 ?_
  refine sb_aload_n C 0 rfl dX3_init_38 rfl ?_
  refine sb_bipush C (v := 14) (by decide) dX3_init_39 ?_
  refine sb_newa C I hm (t := 1) (len := 14) rfl rfl (Or.inl ⟨rfl, rfl⟩) wc17 (by decide) rfl rfl rfl dX3_init_41 ?_
  refine sb_putF C N fo_3_4 rfl wc24 rfl rfl rfl (Or.inr ⟨_, rfl⟩) dX3_init_43 ?_
  exact sb_ret C hm E rfl dX3_init_46
def B1_17 (w : HW) : HW := (uR w 17 0 18)
theorem f1_17 {w : HW} (h : Fh w 18) : Fh (B1_17 w) 19 := ((h).up (n' := 19) (Nat.le_of_ble_eq_true rfl)).uR (by decide)
set_option maxRecDepth 20000 in
theorem b1_17 {b : Bx} {w : HW} (hF : Fh w 18) : Mb b yX1_init cX1_init 1 1 12 1 135 [.ref (bB b + 17)] w 18 (B1_17 w) 19 := by
  refine Mb.of (by decide) rfl (Nat.le_of_ble_eq_true rfl) hF (fun G hG C I N E hm => ?_)
  subst hG
  have C : Cx G cX1_init RX1 1 1 12 := C
  change Sb G _ [(0, .ref (hB G + 17))] [] w _ _ _
  refine sb_aload_n C 0 rfl dX1_init_0 rfl ?_
  refine sb_obj C wc26 wc1 wc2 rfl rfl dX1_init_1 ?_
  refine sb_aload_n C 0 rfl dX1_init_4 rfl ?_
  refine sb_sipush C (v := 135) (by decide) dX1_init_5 ?_
  refine sb_newa C I hm (t := 1) (len := 135) rfl rfl (Or.inl ⟨rfl, rfl⟩) wc17 (by decide) rfl rfl rfl dX1_init_8 ?_
  refine sb_putF C N fo_1_0 rfl wc27 rfl rfl rfl (Or.inr ⟨_, rfl⟩) dX1_init_10 ?_
  exact sb_ret C hm E rfl dX1_init_13
def B2_20 (w : HW) : HW := (uR w 20 4 21)
theorem f2_20 {w : HW} (h : Fh w 21) : Fh (B2_20 w) 22 := ((h).up (n' := 22) (Nat.le_of_ble_eq_true rfl)).uR (by decide)
set_option maxRecDepth 20000 in
theorem b2_20 {b : Bx} {w : HW} (hF : Fh w 21) : Mb b yX2_init cX2_init 1 1 12 1 14 [.ref (bB b + 20)] w 21 (B2_20 w) 22 := by
  refine Mb.of (by decide) rfl (Nat.le_of_ble_eq_true rfl) hF (fun G hG C I N E hm => ?_)
  subst hG
  have C : Cx G cX2_init RX2 1 1 12 := C
  change Sb G _ [(0, .ref (hB G + 20))] [] w _ _ _
  refine sb_aload_n C 0 rfl dX2_init_0 rfl ?_
  refine sb_obj C wc30 wc1 wc2 rfl rfl dX2_init_1 ?_
  refine sb_aload_n C 0 rfl dX2_init_4 rfl ?_
  refine sb_bipush C (v := 14) (by decide) dX2_init_5 ?_
  refine sb_newa C I hm (t := 1) (len := 14) rfl rfl (Or.inl ⟨rfl, rfl⟩) wc17 (by decide) rfl rfl rfl dX2_init_7 ?_
  refine sb_putF C N fo_2_4 rfl wc31 rfl rfl rfl (Or.inr ⟨_, rfl⟩) dX2_init_9 ?_
  exact sb_ret C hm E rfl dX2_init_12
def B7_22 (w : HW) : HW := (uR w 22 0 23)
theorem f7_22 {w : HW} (h : Fh w 23) : Fh (B7_22 w) 24 := ((h).up (n' := 24) (Nat.le_of_ble_eq_true rfl)).uR (by decide)
set_option maxRecDepth 20000 in
theorem b7_22 {b : Bx} {w : HW} (hF : Fh w 23) : Mb b yX7_init cX7_init 1 1 12 1 4 [.ref (bB b + 22)] w 23 (B7_22 w) 24 := by
  refine Mb.of (by decide) rfl (Nat.le_of_ble_eq_true rfl) hF (fun G hG C I N E hm => ?_)
  subst hG
  have C : Cx G cX7_init RX7 1 1 12 := C
  change Sb G _ [(0, .ref (hB G + 22))] [] w _ _ _
  refine sb_aload_n C 0 rfl dX7_init_0 rfl ?_
  refine sb_obj C wc33 wc1 wc2 rfl rfl dX7_init_1 ?_
  refine sb_aload_n C 0 rfl dX7_init_4 rfl ?_
  refine sb_iconst C (v := 4) (by decide) dX7_init_5 ?_
  refine sb_newa C I hm (t := 1) (len := 4) rfl rfl (Or.inl ⟨rfl, rfl⟩) wc17 (by decide) rfl rfl rfl dX7_init_6 ?_
  refine sb_putF C N fo_7_0 rfl wc34 rfl rfl rfl (Or.inr ⟨_, rfl⟩) dX7_init_8 ?_
  exact sb_ret C hm E rfl dX7_init_11
def B0_26 (w : HW) : HW := (uR (uR (uR (uR (uR (uR (uR (uR w 26 7 27) 26 8 28) 26 9 29) 26 11 30) 26 12 31) 26 13 32) 26 15 33) 26 16 34)
theorem f0_26 {w : HW} (h : Fh w 27) : Fh (B0_26 w) 35 := (((((((((h).up (n' := 35) (Nat.le_of_ble_eq_true rfl)).uR (by decide)).uR (by decide)).uR (by decide)).uR (by decide)).uR (by decide)).uR (by decide)).uR (by decide)).uR (by decide)
set_option maxRecDepth 20000 in
theorem b0_26 {b : Bx} {w : HW} (hF : Fh w 27) : Mb b yX0_init cX0_init 1 1 12 8 88 [.ref (bB b + 26)] w 27 (B0_26 w) 35 := by
  refine Mb.of (by decide) rfl (Nat.le_of_ble_eq_true rfl) hF (fun G hG C I N E hm => ?_)
  subst hG
  have C : Cx G cX0_init RX0 1 1 12 := C
  change Sb G _ [(0, .ref (hB G + 26))] [] w _ _ _
  refine sb_aload_n C 0 rfl dX0_init_0 rfl ?_
  refine sb_obj C wc38 wc1 wc2 rfl rfl dX0_init_1 ?_
  refine sb_aload_n C 0 rfl dX0_init_4 rfl ?_
  refine sb_bipush C (v := 8) (by decide) dX0_init_5 ?_
  refine sb_newa C I hm (t := 1) (len := 8) rfl rfl (Or.inl ⟨rfl, rfl⟩) wc17 (by decide) rfl rfl rfl dX0_init_7 ?_
  refine sb_putF C N fo_0_7 rfl wc39 rfl rfl rfl (Or.inr ⟨_, rfl⟩) dX0_init_9 ?_
  refine sb_aload_n C 0 rfl dX0_init_12 rfl ?_
  refine sb_bipush C (v := 8) (by decide) dX0_init_13 ?_
  refine sb_newa C I hm (t := 1) (len := 8) rfl rfl (Or.inl ⟨rfl, rfl⟩) wc17 (by decide) rfl rfl rfl dX0_init_15 ?_
  refine sb_putF C N fo_0_8 rfl wc40 rfl rfl rfl (Or.inr ⟨_, rfl⟩) dX0_init_17 ?_
  refine sb_aload_n C 0 rfl dX0_init_20 rfl ?_
  refine sb_bipush C (v := 8) (by decide) dX0_init_21 ?_
  refine sb_newa C I hm (t := 1) (len := 8) rfl rfl (Or.inl ⟨rfl, rfl⟩) wc17 (by decide) rfl rfl rfl dX0_init_23 ?_
  refine sb_putF C N fo_0_9 rfl wc41 rfl rfl rfl (Or.inr ⟨_, rfl⟩) dX0_init_25 ?_
  refine sb_aload_n C 0 rfl dX0_init_28 rfl ?_
  refine sb_bipush C (v := 8) (by decide) dX0_init_29 ?_
  refine sb_newa C I hm (t := 1) (len := 8) rfl rfl (Or.inl ⟨rfl, rfl⟩) wc17 (by decide) rfl rfl rfl dX0_init_31 ?_
  refine sb_putF C N fo_0_11 rfl wc42 rfl rfl rfl (Or.inr ⟨_, rfl⟩) dX0_init_33 ?_
  refine sb_aload_n C 0 rfl dX0_init_36 rfl ?_
  refine sb_bipush C (v := 8) (by decide) dX0_init_37 ?_
  refine sb_newa C I hm (t := 1) (len := 8) rfl rfl (Or.inl ⟨rfl, rfl⟩) wc17 (by decide) rfl rfl rfl dX0_init_39 ?_
  refine sb_putF C N fo_0_12 rfl wc43 rfl rfl rfl (Or.inr ⟨_, rfl⟩) dX0_init_41 ?_
  refine sb_aload_n C 0 rfl dX0_init_44 rfl ?_
  refine sb_bipush C (v := 8) (by decide) dX0_init_45 ?_
  refine sb_newa C I hm (t := 1) (len := 8) rfl rfl (Or.inl ⟨rfl, rfl⟩) wc17 (by decide) rfl rfl rfl dX0_init_47 ?_
  refine sb_putF C N fo_0_13 rfl wc44 rfl rfl rfl (Or.inr ⟨_, rfl⟩) dX0_init_49 ?_
  refine sb_aload_n C 0 rfl dX0_init_52 rfl ?_
  refine sb_bipush C (v := 20) (by decide) dX0_init_53 ?_
  refine sb_newa C I hm (t := 1) (len := 20) rfl rfl (Or.inl ⟨rfl, rfl⟩) wc17 (by decide) rfl rfl rfl dX0_init_55 ?_
  refine sb_putF C N fo_0_15 rfl wc45 rfl rfl rfl (Or.inr ⟨_, rfl⟩) dX0_init_57 ?_
  refine sb_aload_n C 0 rfl dX0_init_60 rfl ?_
  refine sb_bipush C (v := 20) (by decide) dX0_init_61 ?_
  refine sb_newa C I hm (t := 1) (len := 20) rfl rfl (Or.inl ⟨rfl, rfl⟩) wc17 (by decide) rfl rfl rfl dX0_init_63 ?_
  refine sb_putF C N fo_0_16 rfl wc46 rfl rfl rfl (Or.inr ⟨_, rfl⟩) dX0_init_65 ?_
  exact sb_ret C hm E rfl dX0_init_68
def B0_35 (w : HW) : HW := (uR (uR (uR (uR (uR (uR (uR (uR w 35 7 36) 35 8 37) 35 9 38) 35 11 39) 35 12 40) 35 13 41) 35 15 42) 35 16 43)
theorem f0_35 {w : HW} (h : Fh w 36) : Fh (B0_35 w) 44 := (((((((((h).up (n' := 44) (Nat.le_of_ble_eq_true rfl)).uR (by decide)).uR (by decide)).uR (by decide)).uR (by decide)).uR (by decide)).uR (by decide)).uR (by decide)).uR (by decide)
set_option maxRecDepth 20000 in
theorem b0_35 {b : Bx} {w : HW} (hF : Fh w 36) : Mb b yX0_init cX0_init 1 1 12 8 88 [.ref (bB b + 35)] w 36 (B0_35 w) 44 := by
  refine Mb.of (by decide) rfl (Nat.le_of_ble_eq_true rfl) hF (fun G hG C I N E hm => ?_)
  subst hG
  have C : Cx G cX0_init RX0 1 1 12 := C
  change Sb G _ [(0, .ref (hB G + 35))] [] w _ _ _
  refine sb_aload_n C 0 rfl dX0_init_0 rfl ?_
  refine sb_obj C wc38 wc1 wc2 rfl rfl dX0_init_1 ?_
  refine sb_aload_n C 0 rfl dX0_init_4 rfl ?_
  refine sb_bipush C (v := 8) (by decide) dX0_init_5 ?_
  refine sb_newa C I hm (t := 1) (len := 8) rfl rfl (Or.inl ⟨rfl, rfl⟩) wc17 (by decide) rfl rfl rfl dX0_init_7 ?_
  refine sb_putF C N fo_0_7 rfl wc39 rfl rfl rfl (Or.inr ⟨_, rfl⟩) dX0_init_9 ?_
  refine sb_aload_n C 0 rfl dX0_init_12 rfl ?_
  refine sb_bipush C (v := 8) (by decide) dX0_init_13 ?_
  refine sb_newa C I hm (t := 1) (len := 8) rfl rfl (Or.inl ⟨rfl, rfl⟩) wc17 (by decide) rfl rfl rfl dX0_init_15 ?_
  refine sb_putF C N fo_0_8 rfl wc40 rfl rfl rfl (Or.inr ⟨_, rfl⟩) dX0_init_17 ?_
  refine sb_aload_n C 0 rfl dX0_init_20 rfl ?_
  refine sb_bipush C (v := 8) (by decide) dX0_init_21 ?_
  refine sb_newa C I hm (t := 1) (len := 8) rfl rfl (Or.inl ⟨rfl, rfl⟩) wc17 (by decide) rfl rfl rfl dX0_init_23 ?_
  refine sb_putF C N fo_0_9 rfl wc41 rfl rfl rfl (Or.inr ⟨_, rfl⟩) dX0_init_25 ?_
  refine sb_aload_n C 0 rfl dX0_init_28 rfl ?_
  refine sb_bipush C (v := 8) (by decide) dX0_init_29 ?_
  refine sb_newa C I hm (t := 1) (len := 8) rfl rfl (Or.inl ⟨rfl, rfl⟩) wc17 (by decide) rfl rfl rfl dX0_init_31 ?_
  refine sb_putF C N fo_0_11 rfl wc42 rfl rfl rfl (Or.inr ⟨_, rfl⟩) dX0_init_33 ?_
  refine sb_aload_n C 0 rfl dX0_init_36 rfl ?_
  refine sb_bipush C (v := 8) (by decide) dX0_init_37 ?_
  refine sb_newa C I hm (t := 1) (len := 8) rfl rfl (Or.inl ⟨rfl, rfl⟩) wc17 (by decide) rfl rfl rfl dX0_init_39 ?_
  refine sb_putF C N fo_0_12 rfl wc43 rfl rfl rfl (Or.inr ⟨_, rfl⟩) dX0_init_41 ?_
  refine sb_aload_n C 0 rfl dX0_init_44 rfl ?_
  refine sb_bipush C (v := 8) (by decide) dX0_init_45 ?_
  refine sb_newa C I hm (t := 1) (len := 8) rfl rfl (Or.inl ⟨rfl, rfl⟩) wc17 (by decide) rfl rfl rfl dX0_init_47 ?_
  refine sb_putF C N fo_0_13 rfl wc44 rfl rfl rfl (Or.inr ⟨_, rfl⟩) dX0_init_49 ?_
  refine sb_aload_n C 0 rfl dX0_init_52 rfl ?_
  refine sb_bipush C (v := 20) (by decide) dX0_init_53 ?_
  refine sb_newa C I hm (t := 1) (len := 20) rfl rfl (Or.inl ⟨rfl, rfl⟩) wc17 (by decide) rfl rfl rfl dX0_init_55 ?_
  refine sb_putF C N fo_0_15 rfl wc45 rfl rfl rfl (Or.inr ⟨_, rfl⟩) dX0_init_57 ?_
  refine sb_aload_n C 0 rfl dX0_init_60 rfl ?_
  refine sb_bipush C (v := 20) (by decide) dX0_init_61 ?_
  refine sb_newa C I hm (t := 1) (len := 20) rfl rfl (Or.inl ⟨rfl, rfl⟩) wc17 (by decide) rfl rfl rfl dX0_init_63 ?_
  refine sb_putF C N fo_0_16 rfl wc46 rfl rfl rfl (Or.inr ⟨_, rfl⟩) dX0_init_65 ?_
  exact sb_ret C hm E rfl dX0_init_68
def B5_44 (w : HW) : HW := (uI (uR w 44 0 45) 44 1 (-1))
theorem f5_44 {w : HW} (h : Fh w 45) : Fh (B5_44 w) 46 := (((h).up (n' := 46) (Nat.le_of_ble_eq_true rfl)).uR (by decide)).uI (by decide)
set_option maxRecDepth 20000 in
theorem b5_44 {b : Bx} {w : HW} (hF : Fh w 45) : Mb b yX5_init cX5_init 1 1 12 1 60 [.ref (bB b + 44)] w 45 (B5_44 w) 46 := by
  refine Mb.of (by decide) rfl (Nat.le_of_ble_eq_true rfl) hF (fun G hG C I N E hm => ?_)
  subst hG
  have C : Cx G cX5_init RX5 1 1 12 := C
  change Sb G _ [(0, .ref (hB G + 44))] [] w _ _ _
  refine sb_aload_n C 0 rfl dX5_init_0 rfl ?_
  refine sb_obj C wc49 wc1 wc2 rfl rfl dX5_init_1 ?_
  refine sb_aload_n C 0 rfl dX5_init_4 rfl ?_
  refine sb_bipush C (v := 60) (by decide) dX5_init_5 ?_
  refine sb_newa C I hm (t := 2) (len := 60) rfl rfl (Or.inr (Or.inl ⟨rfl, rfl⟩)) wc52 (by decide) rfl rfl rfl dX5_init_7 ?_
  refine sb_putF C N fo_5_0 rfl wc50 rfl rfl rfl (Or.inr ⟨_, rfl⟩) dX5_init_9 ?_
  refine sb_aload_n C 0 rfl dX5_init_12 rfl ?_
  refine sb_iconst C (v := (-1)) (by decide) dX5_init_13 ?_
  refine sb_putI C fo_5_1 rfl wc51 rfl rfl dX5_init_14 ?_
  exact sb_ret C hm E rfl dX5_init_17
def B5_46 (w : HW) : HW := (uI (uR w 46 0 47) 46 1 (-1))
theorem f5_46 {w : HW} (h : Fh w 47) : Fh (B5_46 w) 48 := (((h).up (n' := 48) (Nat.le_of_ble_eq_true rfl)).uR (by decide)).uI (by decide)
set_option maxRecDepth 20000 in
theorem b5_46 {b : Bx} {w : HW} (hF : Fh w 47) : Mb b yX5_init cX5_init 1 1 12 1 60 [.ref (bB b + 46)] w 47 (B5_46 w) 48 := by
  refine Mb.of (by decide) rfl (Nat.le_of_ble_eq_true rfl) hF (fun G hG C I N E hm => ?_)
  subst hG
  have C : Cx G cX5_init RX5 1 1 12 := C
  change Sb G _ [(0, .ref (hB G + 46))] [] w _ _ _
  refine sb_aload_n C 0 rfl dX5_init_0 rfl ?_
  refine sb_obj C wc49 wc1 wc2 rfl rfl dX5_init_1 ?_
  refine sb_aload_n C 0 rfl dX5_init_4 rfl ?_
  refine sb_bipush C (v := 60) (by decide) dX5_init_5 ?_
  refine sb_newa C I hm (t := 2) (len := 60) rfl rfl (Or.inr (Or.inl ⟨rfl, rfl⟩)) wc52 (by decide) rfl rfl rfl dX5_init_7 ?_
  refine sb_putF C N fo_5_0 rfl wc50 rfl rfl rfl (Or.inr ⟨_, rfl⟩) dX5_init_9 ?_
  refine sb_aload_n C 0 rfl dX5_init_12 rfl ?_
  refine sb_iconst C (v := (-1)) (by decide) dX5_init_13 ?_
  refine sb_putI C fo_5_1 rfl wc51 rfl rfl dX5_init_14 ?_
  exact sb_ret C hm E rfl dX5_init_17
def B5_48 (w : HW) : HW := (uI (uR w 48 0 49) 48 1 (-1))
theorem f5_48 {w : HW} (h : Fh w 49) : Fh (B5_48 w) 50 := (((h).up (n' := 50) (Nat.le_of_ble_eq_true rfl)).uR (by decide)).uI (by decide)
set_option maxRecDepth 20000 in
theorem b5_48 {b : Bx} {w : HW} (hF : Fh w 49) : Mb b yX5_init cX5_init 1 1 12 1 60 [.ref (bB b + 48)] w 49 (B5_48 w) 50 := by
  refine Mb.of (by decide) rfl (Nat.le_of_ble_eq_true rfl) hF (fun G hG C I N E hm => ?_)
  subst hG
  have C : Cx G cX5_init RX5 1 1 12 := C
  change Sb G _ [(0, .ref (hB G + 48))] [] w _ _ _
  refine sb_aload_n C 0 rfl dX5_init_0 rfl ?_
  refine sb_obj C wc49 wc1 wc2 rfl rfl dX5_init_1 ?_
  refine sb_aload_n C 0 rfl dX5_init_4 rfl ?_
  refine sb_bipush C (v := 60) (by decide) dX5_init_5 ?_
  refine sb_newa C I hm (t := 2) (len := 60) rfl rfl (Or.inr (Or.inl ⟨rfl, rfl⟩)) wc52 (by decide) rfl rfl rfl dX5_init_7 ?_
  refine sb_putF C N fo_5_0 rfl wc50 rfl rfl rfl (Or.inr ⟨_, rfl⟩) dX5_init_9 ?_
  refine sb_aload_n C 0 rfl dX5_init_12 rfl ?_
  refine sb_iconst C (v := (-1)) (by decide) dX5_init_13 ?_
  refine sb_putI C fo_5_1 rfl wc51 rfl rfl dX5_init_14 ?_
  exact sb_ret C hm E rfl dX5_init_17
def B5_50 (w : HW) : HW := (uI (uR w 50 0 51) 50 1 (-1))
theorem f5_50 {w : HW} (h : Fh w 51) : Fh (B5_50 w) 52 := (((h).up (n' := 52) (Nat.le_of_ble_eq_true rfl)).uR (by decide)).uI (by decide)
set_option maxRecDepth 20000 in
theorem b5_50 {b : Bx} {w : HW} (hF : Fh w 51) : Mb b yX5_init cX5_init 1 1 12 1 60 [.ref (bB b + 50)] w 51 (B5_50 w) 52 := by
  refine Mb.of (by decide) rfl (Nat.le_of_ble_eq_true rfl) hF (fun G hG C I N E hm => ?_)
  subst hG
  have C : Cx G cX5_init RX5 1 1 12 := C
  change Sb G _ [(0, .ref (hB G + 50))] [] w _ _ _
  refine sb_aload_n C 0 rfl dX5_init_0 rfl ?_
  refine sb_obj C wc49 wc1 wc2 rfl rfl dX5_init_1 ?_
  refine sb_aload_n C 0 rfl dX5_init_4 rfl ?_
  refine sb_bipush C (v := 60) (by decide) dX5_init_5 ?_
  refine sb_newa C I hm (t := 2) (len := 60) rfl rfl (Or.inr (Or.inl ⟨rfl, rfl⟩)) wc52 (by decide) rfl rfl rfl dX5_init_7 ?_
  refine sb_putF C N fo_5_0 rfl wc50 rfl rfl rfl (Or.inr ⟨_, rfl⟩) dX5_init_9 ?_
  refine sb_aload_n C 0 rfl dX5_init_12 rfl ?_
  refine sb_iconst C (v := (-1)) (by decide) dX5_init_13 ?_
  refine sb_putI C fo_5_1 rfl wc51 rfl rfl dX5_init_14 ?_
  exact sb_ret C hm E rfl dX5_init_17
def B0_52 (w : HW) : HW := (uR (uR (uR (uR (uR (uR (uR (uR w 52 7 53) 52 8 54) 52 9 55) 52 11 56) 52 12 57) 52 13 58) 52 15 59) 52 16 60)
theorem f0_52 {w : HW} (h : Fh w 53) : Fh (B0_52 w) 61 := (((((((((h).up (n' := 61) (Nat.le_of_ble_eq_true rfl)).uR (by decide)).uR (by decide)).uR (by decide)).uR (by decide)).uR (by decide)).uR (by decide)).uR (by decide)).uR (by decide)
set_option maxRecDepth 20000 in
theorem b0_52 {b : Bx} {w : HW} (hF : Fh w 53) : Mb b yX0_init cX0_init 1 1 12 8 88 [.ref (bB b + 52)] w 53 (B0_52 w) 61 := by
  refine Mb.of (by decide) rfl (Nat.le_of_ble_eq_true rfl) hF (fun G hG C I N E hm => ?_)
  subst hG
  have C : Cx G cX0_init RX0 1 1 12 := C
  change Sb G _ [(0, .ref (hB G + 52))] [] w _ _ _
  refine sb_aload_n C 0 rfl dX0_init_0 rfl ?_
  refine sb_obj C wc38 wc1 wc2 rfl rfl dX0_init_1 ?_
  refine sb_aload_n C 0 rfl dX0_init_4 rfl ?_
  refine sb_bipush C (v := 8) (by decide) dX0_init_5 ?_
  refine sb_newa C I hm (t := 1) (len := 8) rfl rfl (Or.inl ⟨rfl, rfl⟩) wc17 (by decide) rfl rfl rfl dX0_init_7 ?_
  refine sb_putF C N fo_0_7 rfl wc39 rfl rfl rfl (Or.inr ⟨_, rfl⟩) dX0_init_9 ?_
  refine sb_aload_n C 0 rfl dX0_init_12 rfl ?_
  refine sb_bipush C (v := 8) (by decide) dX0_init_13 ?_
  refine sb_newa C I hm (t := 1) (len := 8) rfl rfl (Or.inl ⟨rfl, rfl⟩) wc17 (by decide) rfl rfl rfl dX0_init_15 ?_
  refine sb_putF C N fo_0_8 rfl wc40 rfl rfl rfl (Or.inr ⟨_, rfl⟩) dX0_init_17 ?_
  refine sb_aload_n C 0 rfl dX0_init_20 rfl ?_
  refine sb_bipush C (v := 8) (by decide) dX0_init_21 ?_
  refine sb_newa C I hm (t := 1) (len := 8) rfl rfl (Or.inl ⟨rfl, rfl⟩) wc17 (by decide) rfl rfl rfl dX0_init_23 ?_
  refine sb_putF C N fo_0_9 rfl wc41 rfl rfl rfl (Or.inr ⟨_, rfl⟩) dX0_init_25 ?_
  refine sb_aload_n C 0 rfl dX0_init_28 rfl ?_
  refine sb_bipush C (v := 8) (by decide) dX0_init_29 ?_
  refine sb_newa C I hm (t := 1) (len := 8) rfl rfl (Or.inl ⟨rfl, rfl⟩) wc17 (by decide) rfl rfl rfl dX0_init_31 ?_
  refine sb_putF C N fo_0_11 rfl wc42 rfl rfl rfl (Or.inr ⟨_, rfl⟩) dX0_init_33 ?_
  refine sb_aload_n C 0 rfl dX0_init_36 rfl ?_
  refine sb_bipush C (v := 8) (by decide) dX0_init_37 ?_
  refine sb_newa C I hm (t := 1) (len := 8) rfl rfl (Or.inl ⟨rfl, rfl⟩) wc17 (by decide) rfl rfl rfl dX0_init_39 ?_
  refine sb_putF C N fo_0_12 rfl wc43 rfl rfl rfl (Or.inr ⟨_, rfl⟩) dX0_init_41 ?_
  refine sb_aload_n C 0 rfl dX0_init_44 rfl ?_
  refine sb_bipush C (v := 8) (by decide) dX0_init_45 ?_
  refine sb_newa C I hm (t := 1) (len := 8) rfl rfl (Or.inl ⟨rfl, rfl⟩) wc17 (by decide) rfl rfl rfl dX0_init_47 ?_
  refine sb_putF C N fo_0_13 rfl wc44 rfl rfl rfl (Or.inr ⟨_, rfl⟩) dX0_init_49 ?_
  refine sb_aload_n C 0 rfl dX0_init_52 rfl ?_
  refine sb_bipush C (v := 20) (by decide) dX0_init_53 ?_
  refine sb_newa C I hm (t := 1) (len := 20) rfl rfl (Or.inl ⟨rfl, rfl⟩) wc17 (by decide) rfl rfl rfl dX0_init_55 ?_
  refine sb_putF C N fo_0_15 rfl wc45 rfl rfl rfl (Or.inr ⟨_, rfl⟩) dX0_init_57 ?_
  refine sb_aload_n C 0 rfl dX0_init_60 rfl ?_
  refine sb_bipush C (v := 20) (by decide) dX0_init_61 ?_
  refine sb_newa C I hm (t := 1) (len := 20) rfl rfl (Or.inl ⟨rfl, rfl⟩) wc17 (by decide) rfl rfl rfl dX0_init_63 ?_
  refine sb_putF C N fo_0_16 rfl wc46 rfl rfl rfl (Or.inr ⟨_, rfl⟩) dX0_init_65 ?_
  exact sb_ret C hm E rfl dX0_init_68
def B0_61 (w : HW) : HW := (uR (uR (uR (uR (uR (uR (uR (uR w 61 7 62) 61 8 63) 61 9 64) 61 11 65) 61 12 66) 61 13 67) 61 15 68) 61 16 69)
theorem f0_61 {w : HW} (h : Fh w 62) : Fh (B0_61 w) 70 := (((((((((h).up (n' := 70) (Nat.le_of_ble_eq_true rfl)).uR (by decide)).uR (by decide)).uR (by decide)).uR (by decide)).uR (by decide)).uR (by decide)).uR (by decide)).uR (by decide)
set_option maxRecDepth 20000 in
theorem b0_61 {b : Bx} {w : HW} (hF : Fh w 62) : Mb b yX0_init cX0_init 1 1 12 8 88 [.ref (bB b + 61)] w 62 (B0_61 w) 70 := by
  refine Mb.of (by decide) rfl (Nat.le_of_ble_eq_true rfl) hF (fun G hG C I N E hm => ?_)
  subst hG
  have C : Cx G cX0_init RX0 1 1 12 := C
  change Sb G _ [(0, .ref (hB G + 61))] [] w _ _ _
  refine sb_aload_n C 0 rfl dX0_init_0 rfl ?_
  refine sb_obj C wc38 wc1 wc2 rfl rfl dX0_init_1 ?_
  refine sb_aload_n C 0 rfl dX0_init_4 rfl ?_
  refine sb_bipush C (v := 8) (by decide) dX0_init_5 ?_
  refine sb_newa C I hm (t := 1) (len := 8) rfl rfl (Or.inl ⟨rfl, rfl⟩) wc17 (by decide) rfl rfl rfl dX0_init_7 ?_
  refine sb_putF C N fo_0_7 rfl wc39 rfl rfl rfl (Or.inr ⟨_, rfl⟩) dX0_init_9 ?_
  refine sb_aload_n C 0 rfl dX0_init_12 rfl ?_
  refine sb_bipush C (v := 8) (by decide) dX0_init_13 ?_
  refine sb_newa C I hm (t := 1) (len := 8) rfl rfl (Or.inl ⟨rfl, rfl⟩) wc17 (by decide) rfl rfl rfl dX0_init_15 ?_
  refine sb_putF C N fo_0_8 rfl wc40 rfl rfl rfl (Or.inr ⟨_, rfl⟩) dX0_init_17 ?_
  refine sb_aload_n C 0 rfl dX0_init_20 rfl ?_
  refine sb_bipush C (v := 8) (by decide) dX0_init_21 ?_
  refine sb_newa C I hm (t := 1) (len := 8) rfl rfl (Or.inl ⟨rfl, rfl⟩) wc17 (by decide) rfl rfl rfl dX0_init_23 ?_
  refine sb_putF C N fo_0_9 rfl wc41 rfl rfl rfl (Or.inr ⟨_, rfl⟩) dX0_init_25 ?_
  refine sb_aload_n C 0 rfl dX0_init_28 rfl ?_
  refine sb_bipush C (v := 8) (by decide) dX0_init_29 ?_
  refine sb_newa C I hm (t := 1) (len := 8) rfl rfl (Or.inl ⟨rfl, rfl⟩) wc17 (by decide) rfl rfl rfl dX0_init_31 ?_
  refine sb_putF C N fo_0_11 rfl wc42 rfl rfl rfl (Or.inr ⟨_, rfl⟩) dX0_init_33 ?_
  refine sb_aload_n C 0 rfl dX0_init_36 rfl ?_
  refine sb_bipush C (v := 8) (by decide) dX0_init_37 ?_
  refine sb_newa C I hm (t := 1) (len := 8) rfl rfl (Or.inl ⟨rfl, rfl⟩) wc17 (by decide) rfl rfl rfl dX0_init_39 ?_
  refine sb_putF C N fo_0_12 rfl wc43 rfl rfl rfl (Or.inr ⟨_, rfl⟩) dX0_init_41 ?_
  refine sb_aload_n C 0 rfl dX0_init_44 rfl ?_
  refine sb_bipush C (v := 8) (by decide) dX0_init_45 ?_
  refine sb_newa C I hm (t := 1) (len := 8) rfl rfl (Or.inl ⟨rfl, rfl⟩) wc17 (by decide) rfl rfl rfl dX0_init_47 ?_
  refine sb_putF C N fo_0_13 rfl wc44 rfl rfl rfl (Or.inr ⟨_, rfl⟩) dX0_init_49 ?_
  refine sb_aload_n C 0 rfl dX0_init_52 rfl ?_
  refine sb_bipush C (v := 20) (by decide) dX0_init_53 ?_
  refine sb_newa C I hm (t := 1) (len := 20) rfl rfl (Or.inl ⟨rfl, rfl⟩) wc17 (by decide) rfl rfl rfl dX0_init_55 ?_
  refine sb_putF C N fo_0_15 rfl wc45 rfl rfl rfl (Or.inr ⟨_, rfl⟩) dX0_init_57 ?_
  refine sb_aload_n C 0 rfl dX0_init_60 rfl ?_
  refine sb_bipush C (v := 20) (by decide) dX0_init_61 ?_
  refine sb_newa C I hm (t := 1) (len := 20) rfl rfl (Or.inl ⟨rfl, rfl⟩) wc17 (by decide) rfl rfl rfl dX0_init_63 ?_
  refine sb_putF C N fo_0_16 rfl wc46 rfl rfl rfl (Or.inr ⟨_, rfl⟩) dX0_init_65 ?_
  exact sb_ret C hm E rfl dX0_init_68
def B0_70 (w : HW) : HW := (uR (uR (uR (uR (uR (uR (uR (uR w 70 7 71) 70 8 72) 70 9 73) 70 11 74) 70 12 75) 70 13 76) 70 15 77) 70 16 78)
theorem f0_70 {w : HW} (h : Fh w 71) : Fh (B0_70 w) 79 := (((((((((h).up (n' := 79) (Nat.le_of_ble_eq_true rfl)).uR (by decide)).uR (by decide)).uR (by decide)).uR (by decide)).uR (by decide)).uR (by decide)).uR (by decide)).uR (by decide)
set_option maxRecDepth 20000 in
theorem b0_70 {b : Bx} {w : HW} (hF : Fh w 71) : Mb b yX0_init cX0_init 1 1 12 8 88 [.ref (bB b + 70)] w 71 (B0_70 w) 79 := by
  refine Mb.of (by decide) rfl (Nat.le_of_ble_eq_true rfl) hF (fun G hG C I N E hm => ?_)
  subst hG
  have C : Cx G cX0_init RX0 1 1 12 := C
  change Sb G _ [(0, .ref (hB G + 70))] [] w _ _ _
  refine sb_aload_n C 0 rfl dX0_init_0 rfl ?_
  refine sb_obj C wc38 wc1 wc2 rfl rfl dX0_init_1 ?_
  refine sb_aload_n C 0 rfl dX0_init_4 rfl ?_
  refine sb_bipush C (v := 8) (by decide) dX0_init_5 ?_
  refine sb_newa C I hm (t := 1) (len := 8) rfl rfl (Or.inl ⟨rfl, rfl⟩) wc17 (by decide) rfl rfl rfl dX0_init_7 ?_
  refine sb_putF C N fo_0_7 rfl wc39 rfl rfl rfl (Or.inr ⟨_, rfl⟩) dX0_init_9 ?_
  refine sb_aload_n C 0 rfl dX0_init_12 rfl ?_
  refine sb_bipush C (v := 8) (by decide) dX0_init_13 ?_
  refine sb_newa C I hm (t := 1) (len := 8) rfl rfl (Or.inl ⟨rfl, rfl⟩) wc17 (by decide) rfl rfl rfl dX0_init_15 ?_
  refine sb_putF C N fo_0_8 rfl wc40 rfl rfl rfl (Or.inr ⟨_, rfl⟩) dX0_init_17 ?_
  refine sb_aload_n C 0 rfl dX0_init_20 rfl ?_
  refine sb_bipush C (v := 8) (by decide) dX0_init_21 ?_
  refine sb_newa C I hm (t := 1) (len := 8) rfl rfl (Or.inl ⟨rfl, rfl⟩) wc17 (by decide) rfl rfl rfl dX0_init_23 ?_
  refine sb_putF C N fo_0_9 rfl wc41 rfl rfl rfl (Or.inr ⟨_, rfl⟩) dX0_init_25 ?_
  refine sb_aload_n C 0 rfl dX0_init_28 rfl ?_
  refine sb_bipush C (v := 8) (by decide) dX0_init_29 ?_
  refine sb_newa C I hm (t := 1) (len := 8) rfl rfl (Or.inl ⟨rfl, rfl⟩) wc17 (by decide) rfl rfl rfl dX0_init_31 ?_
  refine sb_putF C N fo_0_11 rfl wc42 rfl rfl rfl (Or.inr ⟨_, rfl⟩) dX0_init_33 ?_
  refine sb_aload_n C 0 rfl dX0_init_36 rfl ?_
  refine sb_bipush C (v := 8) (by decide) dX0_init_37 ?_
  refine sb_newa C I hm (t := 1) (len := 8) rfl rfl (Or.inl ⟨rfl, rfl⟩) wc17 (by decide) rfl rfl rfl dX0_init_39 ?_
  refine sb_putF C N fo_0_12 rfl wc43 rfl rfl rfl (Or.inr ⟨_, rfl⟩) dX0_init_41 ?_
  refine sb_aload_n C 0 rfl dX0_init_44 rfl ?_
  refine sb_bipush C (v := 8) (by decide) dX0_init_45 ?_
  refine sb_newa C I hm (t := 1) (len := 8) rfl rfl (Or.inl ⟨rfl, rfl⟩) wc17 (by decide) rfl rfl rfl dX0_init_47 ?_
  refine sb_putF C N fo_0_13 rfl wc44 rfl rfl rfl (Or.inr ⟨_, rfl⟩) dX0_init_49 ?_
  refine sb_aload_n C 0 rfl dX0_init_52 rfl ?_
  refine sb_bipush C (v := 20) (by decide) dX0_init_53 ?_
  refine sb_newa C I hm (t := 1) (len := 20) rfl rfl (Or.inl ⟨rfl, rfl⟩) wc17 (by decide) rfl rfl rfl dX0_init_55 ?_
  refine sb_putF C N fo_0_15 rfl wc45 rfl rfl rfl (Or.inr ⟨_, rfl⟩) dX0_init_57 ?_
  refine sb_aload_n C 0 rfl dX0_init_60 rfl ?_
  refine sb_bipush C (v := 20) (by decide) dX0_init_61 ?_
  refine sb_newa C I hm (t := 1) (len := 20) rfl rfl (Or.inl ⟨rfl, rfl⟩) wc17 (by decide) rfl rfl rfl dX0_init_63 ?_
  refine sb_putF C N fo_0_16 rfl wc46 rfl rfl rfl (Or.inr ⟨_, rfl⟩) dX0_init_65 ?_
  exact sb_ret C hm E rfl dX0_init_68
def B9_0 (w : HW) : HW := (uR (B0_70 (uR (B0_61 (uR (B0_52 (uR (B5_50 (uR (B5_48 (uR (B5_46 (uR (B5_44 (uR (B0_35 (uR (B0_26 (uR (uR (uR (B7_22 (uR (B2_20 (uR (uR (B1_17 (uR (B3_11 (uR (B6_4 (uR (B4_3 (uR (B8_1 w) 0 0 1)) 0 1 3)) 0 2 4)) 0 3 11)) 0 4 17) 0 5 19)) 0 6 20)) 0 7 22) 0 8 24) 0 9 25)) 0 10 26)) 0 11 35)) 19 0 44)) 19 1 46)) 19 2 48)) 19 3 50)) 24 0 52)) 24 1 61)) 24 2 70)
theorem f9_0 {w : HW} (h : Fh w 1) : Fh (B9_0 w) 79 := (f0_70 (((f0_61 (((f0_52 (((f5_50 (((f5_48 (((f5_46 (((f5_44 (((f0_35 (((f0_26 (((((f7_22 (((f2_20 ((((f1_17 (((f3_11 (((f6_4 (((f4_3 (((f8_1 ((h).up (n' := 2) (Nat.le_of_ble_eq_true rfl))).uR (by decide)).up (n' := 4) (Nat.le_of_ble_eq_true rfl))).uR (by decide)).up (n' := 5) (Nat.le_of_ble_eq_true rfl))).uR (by decide)).up (n' := 12) (Nat.le_of_ble_eq_true rfl))).uR (by decide)).up (n' := 18) (Nat.le_of_ble_eq_true rfl))).uR (by decide)).uR (by decide)).up (n' := 21) (Nat.le_of_ble_eq_true rfl))).uR (by decide)).up (n' := 23) (Nat.le_of_ble_eq_true rfl))).uR (by decide)).uR (by decide)).uR (by decide)).up (n' := 27) (Nat.le_of_ble_eq_true rfl))).uR (by decide)).up (n' := 36) (Nat.le_of_ble_eq_true rfl))).uR (by decide)).up (n' := 45) (Nat.le_of_ble_eq_true rfl))).uR (by decide)).up (n' := 47) (Nat.le_of_ble_eq_true rfl))).uR (by decide)).up (n' := 49) (Nat.le_of_ble_eq_true rfl))).uR (by decide)).up (n' := 51) (Nat.le_of_ble_eq_true rfl))).uR (by decide)).up (n' := 53) (Nat.le_of_ble_eq_true rfl))).uR (by decide)).up (n' := 62) (Nat.le_of_ble_eq_true rfl))).uR (by decide)).up (n' := 71) (Nat.le_of_ble_eq_true rfl))).uR (by decide)
set_option maxRecDepth 20000 in
theorem b9_0 {b : Bx} {w : HW} (hF : Fh w 1) : Mb b yX9_init cX9_init 2 2 32 78 9539 [.ref (bB b + 0)] w 1 (B9_0 w) 79 := by
  refine Mb.of (by decide) rfl (Nat.le_of_ble_eq_true rfl) hF (fun G hG C I N E hm => ?_)
  subst hG
  have C : Cx G cX9_init RX9 2 2 32 := C
  change Sb G _ [(0, .ref (hB G + 0))] [] w _ _ _
  refine sb_aload_n C 0 rfl dX9_init_0 rfl ?_
  refine sb_obj C wc0 wc1 wc2 rfl rfl dX9_init_1 ?_
  refine sb_aload_n C 0 rfl dX9_init_4 rfl ?_
  refine sb_new C I hm fo_8_0 (Cn := "SacredHens$Tape") rfl rfl rfl wc53 wc54 wc55 rfl dX9_init_5 ?_
  refine sb_dup C rfl dX9_init_8 ?_
  refine sb_call C I hm (y := yX8_init) (cy := cX8_init) (fr' := 1) (lo' := 12) (mc' := 1) (ms' := 800) (n' := 3) rfl 0 rfl rfl wc56 wc55 wc57 ⟨by decide, by decide, by decide +kernel⟩ rfl rfl rfl dX9_init_9 (fun h => b8_1 h) (fun h => f8_1 h) ?_
  refine sb_putF C N fo_9_0 rfl wc6 rfl rfl rfl (Or.inl ⟨_, rfl⟩) dX9_init_12 ?_
  refine sb_aload_n C 0 rfl dX9_init_15 rfl ?_
  refine sb_new C I hm fo_4_0 (Cn := "SacredHens$Reader") rfl rfl rfl wc58 wc59 wc60 rfl dX9_init_16 ?_
  refine sb_dup C rfl dX9_init_19 ?_
  refine sb_call C I hm (y := yX4_init) (cy := cX4_init) (fr' := 1) (lo' := 12) (mc' := 0) (ms' := 0) (n' := 4) rfl 1 rfl rfl wc61 wc60 wc62 ⟨by decide, by decide, by decide +kernel⟩ rfl rfl rfl dX9_init_20 (fun h => b4_3 h) (fun h => f4_3 h) ?_
  refine sb_putF C N fo_9_1 rfl wc9 rfl rfl rfl (Or.inl ⟨_, rfl⟩) dX9_init_23 ?_
  refine sb_aload_n C 0 rfl dX9_init_26 rfl ?_
  refine sb_new C I hm fo_6_0 (Cn := "SacredHens$Season") rfl rfl rfl wc63 wc64 wc65 rfl dX9_init_27 ?_
  refine sb_dup C rfl dX9_init_30 ?_
  refine sb_call C I hm (y := yX6_init) (cy := cX6_init) (fr' := 1) (lo' := 12) (mc' := 6) (ms' := 54) (n' := 11) rfl 2 rfl rfl wc66 wc65 wc67 ⟨by decide, by decide, by decide +kernel⟩ rfl rfl rfl dX9_init_31 (fun h => b6_4 h) (fun h => f6_4 h) ?_
  refine sb_putF C N fo_9_2 rfl wc18 rfl rfl rfl (Or.inl ⟨_, rfl⟩) dX9_init_34 ?_
  refine sb_aload_n C 0 rfl dX9_init_37 rfl ?_
  refine sb_new C I hm fo_3_0 (Cn := "SacredHens$Planner") rfl rfl rfl wc68 wc69 wc70 rfl dX9_init_38 ?_
  refine sb_dup C rfl dX9_init_41 ?_
  refine sb_call C I hm (y := yX3_init) (cy := cX3_init) (fr' := 1) (lo' := 12) (mc' := 5) (ms' := 7710) (n' := 17) rfl 3 rfl rfl wc71 wc70 wc72 ⟨by decide, by decide, by decide +kernel⟩ rfl rfl rfl dX9_init_42 (fun h => b3_11 h) (fun h => f3_11 h) ?_
  refine sb_putF C N fo_9_3 rfl wc25 rfl rfl rfl (Or.inl ⟨_, rfl⟩) dX9_init_45 ?_
  refine sb_aload_n C 0 rfl dX9_init_48 rfl ?_
  refine sb_new C I hm fo_1_0 (Cn := "SacredHens$Chain") rfl rfl rfl wc73 wc74 wc75 rfl dX9_init_49 ?_
  refine sb_dup C rfl dX9_init_52 ?_
  refine sb_call C I hm (y := yX1_init) (cy := cX1_init) (fr' := 1) (lo' := 12) (mc' := 1) (ms' := 135) (n' := 19) rfl 4 rfl rfl wc76 wc75 wc77 ⟨by decide, by decide, by decide +kernel⟩ rfl rfl rfl dX9_init_53 (fun h => b1_17 h) (fun h => f1_17 h) ?_
  refine sb_putF C N fo_9_4 rfl wc28 rfl rfl rfl (Or.inl ⟨_, rfl⟩) dX9_init_56 ?_
  refine sb_aload_n C 0 rfl dX9_init_59 rfl ?_
  refine sb_iconst C (v := 4) (by decide) dX9_init_60 ?_
  refine sb_anew C I hm (t := 5) (len := 4) rfl rfl (Or.inl ⟨rfl, rfl⟩) wc78 (by decide) rfl rfl rfl dX9_init_61 ?_
  refine sb_putF C N fo_9_5 rfl wc29 rfl rfl rfl (Or.inr ⟨_, rfl⟩) dX9_init_64 ?_
  refine sb_aload_n C 0 rfl dX9_init_67 rfl ?_
  refine sb_new C I hm fo_2_0 (Cn := "SacredHens$Hens") rfl rfl rfl wc79 wc80 wc81 rfl dX9_init_68 ?_
  refine sb_dup C rfl dX9_init_71 ?_
  refine sb_call C I hm (y := yX2_init) (cy := cX2_init) (fr' := 1) (lo' := 12) (mc' := 1) (ms' := 14) (n' := 22) rfl 5 rfl rfl wc82 wc81 wc83 ⟨by decide, by decide, by decide +kernel⟩ rfl rfl rfl dX9_init_72 (fun h => b2_20 h) (fun h => f2_20 h) ?_
  refine sb_putF C N fo_9_6 rfl wc32 rfl rfl rfl (Or.inl ⟨_, rfl⟩) dX9_init_75 ?_
  refine sb_aload_n C 0 rfl dX9_init_78 rfl ?_
  refine sb_new C I hm fo_7_0 (Cn := "SacredHens$SignList") rfl rfl rfl wc84 wc85 wc86 rfl dX9_init_79 ?_
  refine sb_dup C rfl dX9_init_82 ?_
  refine sb_call C I hm (y := yX7_init) (cy := cX7_init) (fr' := 1) (lo' := 12) (mc' := 1) (ms' := 4) (n' := 24) rfl 6 rfl rfl wc87 wc86 wc88 ⟨by decide, by decide, by decide +kernel⟩ rfl rfl rfl dX9_init_83 (fun h => b7_22 h) (fun h => f7_22 h) ?_
  refine sb_putF C N fo_9_7 rfl wc35 rfl rfl rfl (Or.inl ⟨_, rfl⟩) dX9_init_86 ?_
  refine sb_aload_n C 0 rfl dX9_init_89 rfl ?_
  refine sb_iconst C (v := 3) (by decide) dX9_init_90 ?_
  refine sb_anew C I hm (t := 6) (len := 3) rfl rfl (Or.inr ⟨rfl, rfl⟩) wc89 (by decide) rfl rfl rfl dX9_init_91 ?_
  refine sb_putF C N fo_9_8 rfl wc36 rfl rfl rfl (Or.inr ⟨_, rfl⟩) dX9_init_94 ?_
  refine sb_aload_n C 0 rfl dX9_init_97 rfl ?_
  refine sb_iconst C (v := 3) (by decide) dX9_init_98 ?_
  refine sb_newa C I hm (t := 4) (len := 3) rfl rfl (Or.inr (Or.inr (Or.inr ⟨rfl, rfl⟩))) wc90 (by decide) rfl rfl rfl dX9_init_99 ?_
  refine sb_putF C N fo_9_9 rfl wc37 rfl rfl rfl (Or.inr ⟨_, rfl⟩) dX9_init_101 ?_
  refine sb_aload_n C 0 rfl dX9_init_104 rfl ?_
  refine sb_new C I hm fo_0_0 (Cn := "SacredHens$Camp") rfl rfl rfl wc89 wc91 wc92 rfl dX9_init_105 ?_
  refine sb_dup C rfl dX9_init_108 ?_
  refine sb_call C I hm (y := yX0_init) (cy := cX0_init) (fr' := 1) (lo' := 12) (mc' := 8) (ms' := 88) (n' := 35) rfl 7 rfl rfl wc93 wc92 wc94 ⟨by decide, by decide, by decide +kernel⟩ rfl rfl rfl dX9_init_109 (fun h => b0_26 h) (fun h => f0_26 h) ?_
  refine sb_putR C fo_9_10 rfl wc47 rfl rfl rfl (Or.inl ⟨_, rfl⟩) dX9_init_112 ?_
  refine sb_aload_n C 0 rfl dX9_init_115 rfl ?_
  refine sb_new C I hm fo_0_0 (Cn := "SacredHens$Camp") rfl rfl rfl wc89 wc91 wc92 rfl dX9_init_116 ?_
  refine sb_dup C rfl dX9_init_119 ?_
  refine sb_call C I hm (y := yX0_init) (cy := cX0_init) (fr' := 1) (lo' := 12) (mc' := 8) (ms' := 88) (n' := 44) rfl 7 rfl rfl wc93 wc92 wc94 ⟨by decide, by decide, by decide +kernel⟩ rfl rfl rfl dX9_init_120 (fun h => b0_35 h) (fun h => f0_35 h) ?_
  refine sb_putR C fo_9_11 rfl wc48 rfl rfl rfl (Or.inl ⟨_, rfl⟩) dX9_init_123 ?_
  refine sb_iconst C (v := 0) (by decide) dX9_init_126 ?_
  refine sb_istore_n C dX9_init_127 rfl (by decide) rfl ?_
  refine sb_iload_n C 0 rfl dX9_init_128 rfl ?_
  refine sb_iconst C (v := 4) (by decide) dX9_init_129 ?_
  refine sb_icmp_ge C dX9_init_130 (tgt := 152) rfl (fun _ => ?_) (fun h => absurd (by decide) h)
  refine sb_aload_n C 1 rfl dX9_init_133 rfl ?_
  refine sb_getR C (j := 19) fo_9_5 rfl wc29 rfl rfl rfl rfl dX9_init_134 ?_
  refine sb_iload_n C 0 rfl dX9_init_137 rfl ?_
  refine sb_new C I hm fo_5_0 (Cn := "SacredHens$Row") rfl rfl rfl wc78 wc95 wc96 rfl dX9_init_138 ?_
  refine sb_dup C rfl dX9_init_141 ?_
  refine sb_call C I hm (y := yX5_init) (cy := cX5_init) (fr' := 1) (lo' := 12) (mc' := 1) (ms' := 60) (n' := 46) rfl 8 rfl rfl wc97 wc96 wc98 ⟨by decide, by decide, by decide +kernel⟩ rfl rfl rfl dX9_init_142 (fun h => b5_44 h) (fun h => f5_44 h) ?_
  refine sb_aast C (Or.inl ⟨rfl, rfl⟩) rfl rfl rfl rfl rfl rfl dX9_init_145 ?_
  refine sb_iinc C 0 rfl (v := 1) (by decide) dX9_init_146 (by decide) rfl ?_
  refine sb_goto C dX9_init_149 (tgt := 128) rfl ?_
  refine sb_iload_n C 0 rfl dX9_init_128 rfl ?_
  refine sb_iconst C (v := 4) (by decide) dX9_init_129 ?_
  refine sb_icmp_ge C dX9_init_130 (tgt := 152) rfl (fun _ => ?_) (fun h => absurd (by decide) h)
  refine sb_aload_n C 1 rfl dX9_init_133 rfl ?_
  refine sb_getR C (j := 19) fo_9_5 rfl wc29 rfl rfl rfl rfl dX9_init_134 ?_
  refine sb_iload_n C 0 rfl dX9_init_137 rfl ?_
  refine sb_new C I hm fo_5_0 (Cn := "SacredHens$Row") rfl rfl rfl wc78 wc95 wc96 rfl dX9_init_138 ?_
  refine sb_dup C rfl dX9_init_141 ?_
  refine sb_call C I hm (y := yX5_init) (cy := cX5_init) (fr' := 1) (lo' := 12) (mc' := 1) (ms' := 60) (n' := 48) rfl 8 rfl rfl wc97 wc96 wc98 ⟨by decide, by decide, by decide +kernel⟩ rfl rfl rfl dX9_init_142 (fun h => b5_46 h) (fun h => f5_46 h) ?_
  refine sb_aast C (Or.inl ⟨rfl, rfl⟩) rfl rfl rfl rfl rfl rfl dX9_init_145 ?_
  refine sb_iinc C 0 rfl (v := 2) (by decide) dX9_init_146 (by decide) rfl ?_
  refine sb_goto C dX9_init_149 (tgt := 128) rfl ?_
  refine sb_iload_n C 0 rfl dX9_init_128 rfl ?_
  refine sb_iconst C (v := 4) (by decide) dX9_init_129 ?_
  refine sb_icmp_ge C dX9_init_130 (tgt := 152) rfl (fun _ => ?_) (fun h => absurd (by decide) h)
  refine sb_aload_n C 1 rfl dX9_init_133 rfl ?_
  refine sb_getR C (j := 19) fo_9_5 rfl wc29 rfl rfl rfl rfl dX9_init_134 ?_
  refine sb_iload_n C 0 rfl dX9_init_137 rfl ?_
  refine sb_new C I hm fo_5_0 (Cn := "SacredHens$Row") rfl rfl rfl wc78 wc95 wc96 rfl dX9_init_138 ?_
  refine sb_dup C rfl dX9_init_141 ?_
  refine sb_call C I hm (y := yX5_init) (cy := cX5_init) (fr' := 1) (lo' := 12) (mc' := 1) (ms' := 60) (n' := 50) rfl 8 rfl rfl wc97 wc96 wc98 ⟨by decide, by decide, by decide +kernel⟩ rfl rfl rfl dX9_init_142 (fun h => b5_48 h) (fun h => f5_48 h) ?_
  refine sb_aast C (Or.inl ⟨rfl, rfl⟩) rfl rfl rfl rfl rfl rfl dX9_init_145 ?_
  refine sb_iinc C 0 rfl (v := 3) (by decide) dX9_init_146 (by decide) rfl ?_
  refine sb_goto C dX9_init_149 (tgt := 128) rfl ?_
  refine sb_iload_n C 0 rfl dX9_init_128 rfl ?_
  refine sb_iconst C (v := 4) (by decide) dX9_init_129 ?_
  refine sb_icmp_ge C dX9_init_130 (tgt := 152) rfl (fun _ => ?_) (fun h => absurd (by decide) h)
  refine sb_aload_n C 1 rfl dX9_init_133 rfl ?_
  refine sb_getR C (j := 19) fo_9_5 rfl wc29 rfl rfl rfl rfl dX9_init_134 ?_
  refine sb_iload_n C 0 rfl dX9_init_137 rfl ?_
  refine sb_new C I hm fo_5_0 (Cn := "SacredHens$Row") rfl rfl rfl wc78 wc95 wc96 rfl dX9_init_138 ?_
  refine sb_dup C rfl dX9_init_141 ?_
  refine sb_call C I hm (y := yX5_init) (cy := cX5_init) (fr' := 1) (lo' := 12) (mc' := 1) (ms' := 60) (n' := 52) rfl 8 rfl rfl wc97 wc96 wc98 ⟨by decide, by decide, by decide +kernel⟩ rfl rfl rfl dX9_init_142 (fun h => b5_50 h) (fun h => f5_50 h) ?_
  refine sb_aast C (Or.inl ⟨rfl, rfl⟩) rfl rfl rfl rfl rfl rfl dX9_init_145 ?_
  refine sb_iinc C 0 rfl (v := 4) (by decide) dX9_init_146 (by decide) rfl ?_
  refine sb_goto C dX9_init_149 (tgt := 128) rfl ?_
  refine sb_iload_n C 0 rfl dX9_init_128 rfl ?_
  refine sb_iconst C (v := 4) (by decide) dX9_init_129 ?_
  refine sb_icmp_ge C dX9_init_130 (tgt := 152) rfl (fun h => absurd h (by decide)) (fun _ => ?_)
  refine sb_iconst C (v := 0) (by decide) dX9_init_152 ?_
  refine sb_istore_n C dX9_init_153 rfl (by decide) rfl ?_
  refine sb_iload_n C 0 rfl dX9_init_154 rfl ?_
  refine sb_iconst C (v := 3) (by decide) dX9_init_155 ?_
  refine sb_icmp_ge C dX9_init_156 (tgt := 178) rfl (fun _ => ?_) (fun h => absurd (by decide) h)
  refine sb_aload_n C 1 rfl dX9_init_159 rfl ?_
  refine sb_getR C (j := 24) fo_9_8 rfl wc36 rfl rfl rfl rfl dX9_init_160 ?_
  refine sb_iload_n C 0 rfl dX9_init_163 rfl ?_
  refine sb_new C I hm fo_0_0 (Cn := "SacredHens$Camp") rfl rfl rfl wc89 wc91 wc92 rfl dX9_init_164 ?_
  refine sb_dup C rfl dX9_init_167 ?_
  refine sb_call C I hm (y := yX0_init) (cy := cX0_init) (fr' := 1) (lo' := 12) (mc' := 8) (ms' := 88) (n' := 61) rfl 7 rfl rfl wc93 wc92 wc94 ⟨by decide, by decide, by decide +kernel⟩ rfl rfl rfl dX9_init_168 (fun h => b0_52 h) (fun h => f0_52 h) ?_
  refine sb_aast C (Or.inr ⟨rfl, rfl⟩) rfl rfl rfl rfl rfl rfl dX9_init_171 ?_
  refine sb_iinc C 0 rfl (v := 1) (by decide) dX9_init_172 (by decide) rfl ?_
  refine sb_goto C dX9_init_175 (tgt := 154) rfl ?_
  refine sb_iload_n C 0 rfl dX9_init_154 rfl ?_
  refine sb_iconst C (v := 3) (by decide) dX9_init_155 ?_
  refine sb_icmp_ge C dX9_init_156 (tgt := 178) rfl (fun _ => ?_) (fun h => absurd (by decide) h)
  refine sb_aload_n C 1 rfl dX9_init_159 rfl ?_
  refine sb_getR C (j := 24) fo_9_8 rfl wc36 rfl rfl rfl rfl dX9_init_160 ?_
  refine sb_iload_n C 0 rfl dX9_init_163 rfl ?_
  refine sb_new C I hm fo_0_0 (Cn := "SacredHens$Camp") rfl rfl rfl wc89 wc91 wc92 rfl dX9_init_164 ?_
  refine sb_dup C rfl dX9_init_167 ?_
  refine sb_call C I hm (y := yX0_init) (cy := cX0_init) (fr' := 1) (lo' := 12) (mc' := 8) (ms' := 88) (n' := 70) rfl 7 rfl rfl wc93 wc92 wc94 ⟨by decide, by decide, by decide +kernel⟩ rfl rfl rfl dX9_init_168 (fun h => b0_61 h) (fun h => f0_61 h) ?_
  refine sb_aast C (Or.inr ⟨rfl, rfl⟩) rfl rfl rfl rfl rfl rfl dX9_init_171 ?_
  refine sb_iinc C 0 rfl (v := 2) (by decide) dX9_init_172 (by decide) rfl ?_
  refine sb_goto C dX9_init_175 (tgt := 154) rfl ?_
  refine sb_iload_n C 0 rfl dX9_init_154 rfl ?_
  refine sb_iconst C (v := 3) (by decide) dX9_init_155 ?_
  refine sb_icmp_ge C dX9_init_156 (tgt := 178) rfl (fun _ => ?_) (fun h => absurd (by decide) h)
  refine sb_aload_n C 1 rfl dX9_init_159 rfl ?_
  refine sb_getR C (j := 24) fo_9_8 rfl wc36 rfl rfl rfl rfl dX9_init_160 ?_
  refine sb_iload_n C 0 rfl dX9_init_163 rfl ?_
  refine sb_new C I hm fo_0_0 (Cn := "SacredHens$Camp") rfl rfl rfl wc89 wc91 wc92 rfl dX9_init_164 ?_
  refine sb_dup C rfl dX9_init_167 ?_
  refine sb_call C I hm (y := yX0_init) (cy := cX0_init) (fr' := 1) (lo' := 12) (mc' := 8) (ms' := 88) (n' := 79) rfl 7 rfl rfl wc93 wc92 wc94 ⟨by decide, by decide, by decide +kernel⟩ rfl rfl rfl dX9_init_168 (fun h => b0_70 h) (fun h => f0_70 h) ?_
  refine sb_aast C (Or.inr ⟨rfl, rfl⟩) rfl rfl rfl rfl rfl rfl dX9_init_171 ?_
  refine sb_iinc C 0 rfl (v := 3) (by decide) dX9_init_172 (by decide) rfl ?_
  refine sb_goto C dX9_init_175 (tgt := 154) rfl ?_
  refine sb_iload_n C 0 rfl dX9_init_154 rfl ?_
  refine sb_iconst C (v := 3) (by decide) dX9_init_155 ?_
  refine sb_icmp_ge C dX9_init_156 (tgt := 178) rfl (fun h => absurd h (by decide)) (fun _ => ?_)
  exact sb_ret C hm E rfl dX9_init_178
def B10_79 (w : HW) : HW := (uR (uR (uR (uR (uI (uI (uI (uI (uR (uR (uI (uR (uR (uR (uR (uR (uR (uR (uR (uR (uR (uR (uI (uR (uR (uR (uR (uR w 79 1 80) 79 2 81) 79 3 82) 79 4 83) 79 6 84) 79 13 (-1)) 79 14 85) 79 15 86) 79 16 87) 79 17 88) 79 18 89) 79 19 90) 79 23 91) 79 24 92) 79 25 93) 79 26 94) 79 31 95) 79 32 (-1)) 79 34 96) 79 37 97) 98 0 (-1)) 98 1 (-1)) 98 2 (-1)) 98 3 (-1)) 79 38 98) 79 39 99) 79 40 100) 79 41 101)
theorem f10_79 {w : HW} (h : Fh w 80) : Fh (B10_79 w) 102 := (((((((((((((((((((((((((((((h).up (n' := 102) (Nat.le_of_ble_eq_true rfl)).uR (by decide)).uR (by decide)).uR (by decide)).uR (by decide)).uR (by decide)).uI (by decide)).uR (by decide)).uR (by decide)).uR (by decide)).uR (by decide)).uR (by decide)).uR (by decide)).uR (by decide)).uR (by decide)).uR (by decide)).uR (by decide)).uR (by decide)).uI (by decide)).uR (by decide)).uR (by decide)).uI (by decide)).uI (by decide)).uI (by decide)).uI (by decide)).uR (by decide)).uR (by decide)).uR (by decide)).uR (by decide)
set_option maxRecDepth 20000 in
theorem b10_79 {b : Bx} {w : HW} (hF : Fh w 80) : Mb b yX10_init cX10_init 1 1 12 22 116929 [.ref (bB b + 79)] w 80 (B10_79 w) 102 := by
  refine Mb.of (by decide) rfl (Nat.le_of_ble_eq_true rfl) hF (fun G hG C I N E hm => ?_)
  subst hG
  have C : Cx G cX10_init RX10 1 1 12 := C
  change Sb G _ [(0, .ref (hB G + 79))] [] w _ _ _
  refine sb_aload_n C 0 rfl dX10_init_0 rfl ?_
  refine sb_obj C wc99 wc1 wc2 rfl rfl dX10_init_1 ?_
  refine sb_aload_n C 0 rfl dX10_init_4 rfl ?_
  refine sb_bipush C (v := 77) (by decide) dX10_init_5 ?_
  refine sb_newa C I hm (t := 1) (len := 77) rfl rfl (Or.inl ⟨rfl, rfl⟩) wc17 (by decide) rfl rfl rfl dX10_init_7 ?_
  refine sb_putF C N fo_10_1 rfl wc100 rfl rfl rfl (Or.inr ⟨_, rfl⟩) dX10_init_9 ?_
  refine sb_aload_n C 0 rfl dX10_init_12 rfl ?_
  refine sb_sipush C (v := 231) (by decide) dX10_init_13 ?_
  refine sb_newa C I hm (t := 1) (len := 231) rfl rfl (Or.inl ⟨rfl, rfl⟩) wc17 (by decide) rfl rfl rfl dX10_init_16 ?_
  refine sb_putF C N fo_10_2 rfl wc101 rfl rfl rfl (Or.inr ⟨_, rfl⟩) dX10_init_18 ?_
  refine sb_aload_n C 0 rfl dX10_init_21 rfl ?_
  refine sb_iconst C (v := 3) (by decide) dX10_init_22 ?_
  refine sb_newa C I hm (t := 4) (len := 3) rfl rfl (Or.inr (Or.inr (Or.inr ⟨rfl, rfl⟩))) wc90 (by decide) rfl rfl rfl dX10_init_23 ?_
  refine sb_putF C N fo_10_3 rfl wc102 rfl rfl rfl (Or.inr ⟨_, rfl⟩) dX10_init_25 ?_
  refine sb_aload_n C 0 rfl dX10_init_28 rfl ?_
  refine sb_sipush C (v := 800) (by decide) dX10_init_29 ?_
  refine sb_newa C I hm (t := 3) (len := 800) rfl rfl (Or.inr (Or.inr (Or.inl ⟨rfl, rfl⟩))) wc5 (by decide) rfl rfl rfl dX10_init_32 ?_
  refine sb_putF C N fo_10_4 rfl wc103 rfl rfl rfl (Or.inr ⟨_, rfl⟩) dX10_init_34 ?_
  refine sb_aload_n C 0 rfl dX10_init_37 rfl ?_
  refine sb_iconst C (v := 5) (by decide) dX10_init_38 ?_
  refine sb_newa C I hm (t := 1) (len := 5) rfl rfl (Or.inl ⟨rfl, rfl⟩) wc17 (by decide) rfl rfl rfl dX10_init_39 ?_
  refine sb_putF C N fo_10_6 rfl wc104 rfl rfl rfl (Or.inr ⟨_, rfl⟩) dX10_init_41 ?_
  refine sb_aload_n C 0 rfl dX10_init_44 rfl ?_
  refine sb_iconst C (v := (-1)) (by decide) dX10_init_45 ?_
  refine sb_putI C fo_10_13 rfl wc105 rfl rfl dX10_init_46 ?_
  refine sb_aload_n C 0 rfl dX10_init_49 rfl ?_
  refine sb_bipush C (v := 77) (by decide) dX10_init_50 ?_
  refine sb_newa C I hm (t := 1) (len := 77) rfl rfl (Or.inl ⟨rfl, rfl⟩) wc17 (by decide) rfl rfl rfl dX10_init_52 ?_
  refine sb_putF C N fo_10_14 rfl wc106 rfl rfl rfl (Or.inr ⟨_, rfl⟩) dX10_init_54 ?_
  refine sb_aload_n C 0 rfl dX10_init_57 rfl ?_
  refine sb_bipush C (v := 14) (by decide) dX10_init_58 ?_
  refine sb_newa C I hm (t := 1) (len := 14) rfl rfl (Or.inl ⟨rfl, rfl⟩) wc17 (by decide) rfl rfl rfl dX10_init_60 ?_
  refine sb_putF C N fo_10_15 rfl wc107 rfl rfl rfl (Or.inr ⟨_, rfl⟩) dX10_init_62 ?_
  refine sb_aload_n C 0 rfl dX10_init_65 rfl ?_
  refine sb_bipush C (v := 14) (by decide) dX10_init_66 ?_
  refine sb_newa C I hm (t := 1) (len := 14) rfl rfl (Or.inl ⟨rfl, rfl⟩) wc17 (by decide) rfl rfl rfl dX10_init_68 ?_
  refine sb_putF C N fo_10_16 rfl wc108 rfl rfl rfl (Or.inr ⟨_, rfl⟩) dX10_init_70 ?_
  refine sb_aload_n C 0 rfl dX10_init_73 rfl ?_
  refine sb_bipush C (v := 14) (by decide) dX10_init_74 ?_
  refine sb_newa C I hm (t := 1) (len := 14) rfl rfl (Or.inl ⟨rfl, rfl⟩) wc17 (by decide) rfl rfl rfl dX10_init_76 ?_
  refine sb_putF C N fo_10_17 rfl wc109 rfl rfl rfl (Or.inr ⟨_, rfl⟩) dX10_init_78 ?_
  refine sb_aload_n C 0 rfl dX10_init_81 rfl ?_
  refine sb_bipush C (v := 8) (by decide) dX10_init_82 ?_
  refine sb_newa C I hm (t := 1) (len := 8) rfl rfl (Or.inl ⟨rfl, rfl⟩) wc17 (by decide) rfl rfl rfl dX10_init_84 ?_
  refine sb_putF C N fo_10_18 rfl wc110 rfl rfl rfl (Or.inr ⟨_, rfl⟩) dX10_init_86 ?_
  refine sb_aload_n C 0 rfl dX10_init_89 rfl ?_
  refine sb_bipush C (v := 8) (by decide) dX10_init_90 ?_
  refine sb_newa C I hm (t := 1) (len := 8) rfl rfl (Or.inl ⟨rfl, rfl⟩) wc17 (by decide) rfl rfl rfl dX10_init_92 ?_
  refine sb_putF C N fo_10_19 rfl wc111 rfl rfl rfl (Or.inr ⟨_, rfl⟩) dX10_init_94 ?_
  refine sb_aload_n C 0 rfl dX10_init_97 rfl ?_
  refine sb_ldc C wc112 dX10_init_98 ?_
  refine sb_newa C I hm (t := 1) (len := 38400) rfl rfl (Or.inl ⟨rfl, rfl⟩) wc17 (by decide) rfl rfl rfl dX10_init_100 ?_
  refine sb_putF C N fo_10_23 rfl wc113 rfl rfl rfl (Or.inr ⟨_, rfl⟩) dX10_init_102 ?_
  refine sb_aload_n C 0 rfl dX10_init_105 rfl ?_
  refine sb_ldc C wc112 dX10_init_106 ?_
  refine sb_newa C I hm (t := 1) (len := 38400) rfl rfl (Or.inl ⟨rfl, rfl⟩) wc17 (by decide) rfl rfl rfl dX10_init_108 ?_
  refine sb_putF C N fo_10_24 rfl wc114 rfl rfl rfl (Or.inr ⟨_, rfl⟩) dX10_init_110 ?_
  refine sb_aload_n C 0 rfl dX10_init_113 rfl ?_
  refine sb_ldc C wc112 dX10_init_114 ?_
  refine sb_newa C I hm (t := 1) (len := 38400) rfl rfl (Or.inl ⟨rfl, rfl⟩) wc17 (by decide) rfl rfl rfl dX10_init_116 ?_
  refine sb_putF C N fo_10_25 rfl wc115 rfl rfl rfl (Or.inr ⟨_, rfl⟩) dX10_init_118 ?_
  refine sb_aload_n C 0 rfl dX10_init_121 rfl ?_
  refine sb_bipush C (v := 8) (by decide) dX10_init_122 ?_
  refine sb_newa C I hm (t := 1) (len := 8) rfl rfl (Or.inl ⟨rfl, rfl⟩) wc17 (by decide) rfl rfl rfl dX10_init_124 ?_
  refine sb_putF C N fo_10_26 rfl wc116 rfl rfl rfl (Or.inr ⟨_, rfl⟩) dX10_init_126 ?_
  refine sb_aload_n C 0 rfl dX10_init_129 rfl ?_
  refine sb_bipush C (v := 8) (by decide) dX10_init_130 ?_
  refine sb_newa C I hm (t := 1) (len := 8) rfl rfl (Or.inl ⟨rfl, rfl⟩) wc17 (by decide) rfl rfl rfl dX10_init_132 ?_
  refine sb_putF C N fo_10_31 rfl wc117 rfl rfl rfl (Or.inr ⟨_, rfl⟩) dX10_init_134 ?_
  refine sb_aload_n C 0 rfl dX10_init_137 rfl ?_
  refine sb_iconst C (v := (-1)) (by decide) dX10_init_138 ?_
  refine sb_putI C fo_10_32 rfl wc118 rfl rfl dX10_init_139 ?_
  refine sb_aload_n C 0 rfl dX10_init_142 rfl ?_
  refine sb_sipush C (v := 150) (by decide) dX10_init_143 ?_
  refine sb_newa C I hm (t := 1) (len := 150) rfl rfl (Or.inl ⟨rfl, rfl⟩) wc17 (by decide) rfl rfl rfl dX10_init_146 ?_
  refine sb_putF C N fo_10_34 rfl wc119 rfl rfl rfl (Or.inr ⟨_, rfl⟩) dX10_init_148 ?_
  refine sb_aload_n C 0 rfl dX10_init_151 rfl ?_
  refine sb_iconst C (v := 4) (by decide) dX10_init_152 ?_
  refine sb_newa C I hm (t := 1) (len := 4) rfl rfl (Or.inl ⟨rfl, rfl⟩) wc17 (by decide) rfl rfl rfl dX10_init_153 ?_
  refine sb_putF C N fo_10_37 rfl wc120 rfl rfl rfl (Or.inr ⟨_, rfl⟩) dX10_init_155 ?_
  refine sb_aload_n C 0 rfl dX10_init_158 rfl ?_
  refine sb_iconst C (v := 4) (by decide) dX10_init_159 ?_
  refine sb_newa C I hm (t := 1) (len := 4) rfl rfl (Or.inl ⟨rfl, rfl⟩) wc17 (by decide) rfl rfl rfl dX10_init_160 ?_
  refine sb_dup C rfl dX10_init_162 ?_
  refine sb_iconst C (v := 0) (by decide) dX10_init_163 ?_
  refine sb_iconst C (v := (-1)) (by decide) dX10_init_164 ?_
  refine sb_iast C rfl rfl rfl dX10_init_165 ?_
  refine sb_dup C rfl dX10_init_166 ?_
  refine sb_iconst C (v := 1) (by decide) dX10_init_167 ?_
  refine sb_iconst C (v := (-1)) (by decide) dX10_init_168 ?_
  refine sb_iast C rfl rfl rfl dX10_init_169 ?_
  refine sb_dup C rfl dX10_init_170 ?_
  refine sb_iconst C (v := 2) (by decide) dX10_init_171 ?_
  refine sb_iconst C (v := (-1)) (by decide) dX10_init_172 ?_
  refine sb_iast C rfl rfl rfl dX10_init_173 ?_
  refine sb_dup C rfl dX10_init_174 ?_
  refine sb_iconst C (v := 3) (by decide) dX10_init_175 ?_
  refine sb_iconst C (v := (-1)) (by decide) dX10_init_176 ?_
  refine sb_iast C rfl rfl rfl dX10_init_177 ?_
  refine sb_putF C N fo_10_38 rfl wc121 rfl rfl rfl (Or.inr ⟨_, rfl⟩) dX10_init_178 ?_
  refine sb_aload_n C 0 rfl dX10_init_181 rfl ?_
  refine sb_iconst C (v := 4) (by decide) dX10_init_182 ?_
  refine sb_newa C I hm (t := 1) (len := 4) rfl rfl (Or.inl ⟨rfl, rfl⟩) wc17 (by decide) rfl rfl rfl dX10_init_183 ?_
  refine sb_putF C N fo_10_39 rfl wc122 rfl rfl rfl (Or.inr ⟨_, rfl⟩) dX10_init_185 ?_
  refine sb_aload_n C 0 rfl dX10_init_188 rfl ?_
  refine sb_sipush C (v := 240) (by decide) dX10_init_189 ?_
  refine sb_newa C I hm (t := 2) (len := 240) rfl rfl (Or.inr (Or.inl ⟨rfl, rfl⟩)) wc52 (by decide) rfl rfl rfl dX10_init_192 ?_
  refine sb_putF C N fo_10_40 rfl wc123 rfl rfl rfl (Or.inr ⟨_, rfl⟩) dX10_init_194 ?_
  refine sb_aload_n C 0 rfl dX10_init_197 rfl ?_
  refine sb_bipush C (v := 60) (by decide) dX10_init_198 ?_
  refine sb_newa C I hm (t := 2) (len := 60) rfl rfl (Or.inr (Or.inl ⟨rfl, rfl⟩)) wc52 (by decide) rfl rfl rfl dX10_init_200 ?_
  refine sb_putF C N fo_10_41 rfl wc124 rfl rfl rfl (Or.inr ⟨_, rfl⟩) dX10_init_202 ?_
  exact sb_ret C hm E rfl dX10_init_205

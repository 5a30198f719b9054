theorem dX0_forget_0 : decode cX0_forget 0 = .ok (.aload_n 0, 1) := by decide +kernel
theorem dX0_forget_1 : decode cX0_forget 1 = .ok (.iconst 0, 1) := by decide +kernel
theorem dX0_forget_2 : decode cX0_forget 2 = .ok (.putfield 36, 3) := by decide +kernel
theorem dX0_forget_5 : decode cX0_forget 5 = .ok (.aload_n 0, 1) := by decide +kernel
theorem dX0_forget_6 : decode cX0_forget 6 = .ok (.iconst 0, 1) := by decide +kernel
theorem dX0_forget_7 : decode cX0_forget 7 = .ok (.putfield 40, 3) := by decide +kernel
theorem dX0_forget_10 : decode cX0_forget 10 = .ok (.aload_n 0, 1) := by decide +kernel
theorem dX0_forget_11 : decode cX0_forget 11 = .ok (.iconst 0, 1) := by decide +kernel
theorem dX0_forget_12 : decode cX0_forget 12 = .ok (.putfield 43, 3) := by decide +kernel
theorem dX0_forget_15 : decode cX0_forget 15 = .ok (.aload_n 0, 1) := by decide +kernel
theorem dX0_forget_16 : decode cX0_forget 16 = .ok (.iconst 0, 1) := by decide +kernel
theorem dX0_forget_17 : decode cX0_forget 17 = .ok (.putfield 46, 3) := by decide +kernel
theorem dX0_forget_20 : decode cX0_forget 20 = .ok (.aload_n 0, 1) := by decide +kernel
theorem dX0_forget_21 : decode cX0_forget 21 = .ok (.iconst 0, 1) := by decide +kernel
theorem dX0_forget_22 : decode cX0_forget 22 = .ok (.putfield 49, 3) := by decide +kernel
theorem dX0_forget_25 : decode cX0_forget 25 = .ok (.aload_n 0, 1) := by decide +kernel
theorem dX0_forget_26 : decode cX0_forget 26 = .ok (.iconst 0, 1) := by decide +kernel
theorem dX0_forget_27 : decode cX0_forget 27 = .ok (.putfield 52, 3) := by decide +kernel
theorem dX0_forget_30 : decode cX0_forget 30 = .ok (.aload_n 0, 1) := by decide +kernel
theorem dX0_forget_31 : decode cX0_forget 31 = .ok (.iconst 0, 1) := by decide +kernel
theorem dX0_forget_32 : decode cX0_forget 32 = .ok (.putfield 55, 3) := by decide +kernel
theorem dX0_forget_35 : decode cX0_forget 35 = .ok (.aload_n 0, 1) := by decide +kernel
theorem dX0_forget_36 : decode cX0_forget 36 = .ok (.iconst 0, 1) := by decide +kernel
theorem dX0_forget_37 : decode cX0_forget 37 = .ok (.putfield 58, 3) := by decide +kernel
theorem dX0_forget_40 : decode cX0_forget 40 = .ok (.aload_n 0, 1) := by decide +kernel
theorem dX0_forget_41 : decode cX0_forget 41 = .ok (.iconst 0, 1) := by decide +kernel
theorem dX0_forget_42 : decode cX0_forget 42 = .ok (.putfield 61, 3) := by decide +kernel
theorem dX0_forget_45 : decode cX0_forget 45 = .ok (.return_, 1) := by decide +kernel
theorem dX0_becomeLike_0 : decode cX0_becomeLike 0 = .ok (.aload_n 0, 1) := by decide +kernel
theorem dX0_becomeLike_1 : decode cX0_becomeLike 1 = .ok (.aload_n 1, 1) := by decide +kernel
theorem dX0_becomeLike_2 : decode cX0_becomeLike 2 = .ok (.getfield 36, 3) := by decide +kernel
theorem dX0_becomeLike_5 : decode cX0_becomeLike 5 = .ok (.putfield 36, 3) := by decide +kernel
theorem dX0_becomeLike_8 : decode cX0_becomeLike 8 = .ok (.aload_n 0, 1) := by decide +kernel
theorem dX0_becomeLike_9 : decode cX0_becomeLike 9 = .ok (.aload_n 1, 1) := by decide +kernel
theorem dX0_becomeLike_10 : decode cX0_becomeLike 10 = .ok (.getfield 40, 3) := by decide +kernel
theorem dX0_becomeLike_13 : decode cX0_becomeLike 13 = .ok (.putfield 40, 3) := by decide +kernel
theorem dX0_becomeLike_16 : decode cX0_becomeLike 16 = .ok (.aload_n 0, 1) := by decide +kernel
theorem dX0_becomeLike_17 : decode cX0_becomeLike 17 = .ok (.aload_n 1, 1) := by decide +kernel
theorem dX0_becomeLike_18 : decode cX0_becomeLike 18 = .ok (.getfield 43, 3) := by decide +kernel
theorem dX0_becomeLike_21 : decode cX0_becomeLike 21 = .ok (.putfield 43, 3) := by decide +kernel
theorem dX0_becomeLike_24 : decode cX0_becomeLike 24 = .ok (.aload_n 0, 1) := by decide +kernel
theorem dX0_becomeLike_25 : decode cX0_becomeLike 25 = .ok (.aload_n 1, 1) := by decide +kernel
theorem dX0_becomeLike_26 : decode cX0_becomeLike 26 = .ok (.getfield 46, 3) := by decide +kernel
theorem dX0_becomeLike_29 : decode cX0_becomeLike 29 = .ok (.putfield 46, 3) := by decide +kernel
theorem dX0_becomeLike_32 : decode cX0_becomeLike 32 = .ok (.aload_n 0, 1) := by decide +kernel
theorem dX0_becomeLike_33 : decode cX0_becomeLike 33 = .ok (.aload_n 1, 1) := by decide +kernel
theorem dX0_becomeLike_34 : decode cX0_becomeLike 34 = .ok (.getfield 49, 3) := by decide +kernel
theorem dX0_becomeLike_37 : decode cX0_becomeLike 37 = .ok (.putfield 49, 3) := by decide +kernel
theorem dX0_becomeLike_40 : decode cX0_becomeLike 40 = .ok (.aload_n 0, 1) := by decide +kernel
theorem dX0_becomeLike_41 : decode cX0_becomeLike 41 = .ok (.aload_n 1, 1) := by decide +kernel
theorem dX0_becomeLike_42 : decode cX0_becomeLike 42 = .ok (.getfield 52, 3) := by decide +kernel
theorem dX0_becomeLike_45 : decode cX0_becomeLike 45 = .ok (.putfield 52, 3) := by decide +kernel
theorem dX0_becomeLike_48 : decode cX0_becomeLike 48 = .ok (.aload_n 0, 1) := by decide +kernel
theorem dX0_becomeLike_49 : decode cX0_becomeLike 49 = .ok (.aload_n 1, 1) := by decide +kernel
theorem dX0_becomeLike_50 : decode cX0_becomeLike 50 = .ok (.getfield 55, 3) := by decide +kernel
theorem dX0_becomeLike_53 : decode cX0_becomeLike 53 = .ok (.putfield 55, 3) := by decide +kernel
theorem dX0_becomeLike_56 : decode cX0_becomeLike 56 = .ok (.aload_n 0, 1) := by decide +kernel
theorem dX0_becomeLike_57 : decode cX0_becomeLike 57 = .ok (.aload_n 1, 1) := by decide +kernel
theorem dX0_becomeLike_58 : decode cX0_becomeLike 58 = .ok (.getfield 58, 3) := by decide +kernel
theorem dX0_becomeLike_61 : decode cX0_becomeLike 61 = .ok (.putfield 58, 3) := by decide +kernel
theorem dX0_becomeLike_64 : decode cX0_becomeLike 64 = .ok (.aload_n 0, 1) := by decide +kernel
theorem dX0_becomeLike_65 : decode cX0_becomeLike 65 = .ok (.aload_n 1, 1) := by decide +kernel
theorem dX0_becomeLike_66 : decode cX0_becomeLike 66 = .ok (.getfield 61, 3) := by decide +kernel
theorem dX0_becomeLike_69 : decode cX0_becomeLike 69 = .ok (.putfield 61, 3) := by decide +kernel
theorem dX0_becomeLike_72 : decode cX0_becomeLike 72 = .ok (.aload_n 1, 1) := by decide +kernel
theorem dX0_becomeLike_73 : decode cX0_becomeLike 73 = .ok (.getfield 9, 3) := by decide +kernel
theorem dX0_becomeLike_76 : decode cX0_becomeLike 76 = .ok (.iconst 0, 1) := by decide +kernel
theorem dX0_becomeLike_77 : decode cX0_becomeLike 77 = .ok (.aload_n 0, 1) := by decide +kernel
theorem dX0_becomeLike_78 : decode cX0_becomeLike 78 = .ok (.getfield 9, 3) := by decide +kernel
theorem dX0_becomeLike_81 : decode cX0_becomeLike 81 = .ok (.iconst 0, 1) := by decide +kernel
theorem dX0_becomeLike_82 : decode cX0_becomeLike 82 = .ok (.bipush 8, 2) := by decide +kernel
theorem dX0_becomeLike_84 : decode cX0_becomeLike 84 = .ok (.invokestatic 64, 3) := by decide +kernel
theorem dX0_becomeLike_87 : decode cX0_becomeLike 87 = .ok (.aload_n 1, 1) := by decide +kernel
theorem dX0_becomeLike_88 : decode cX0_becomeLike 88 = .ok (.getfield 15, 3) := by decide +kernel
theorem dX0_becomeLike_91 : decode cX0_becomeLike 91 = .ok (.iconst 0, 1) := by decide +kernel
theorem dX0_becomeLike_92 : decode cX0_becomeLike 92 = .ok (.aload_n 0, 1) := by decide +kernel
theorem dX0_becomeLike_93 : decode cX0_becomeLike 93 = .ok (.getfield 15, 3) := by decide +kernel
theorem dX0_becomeLike_96 : decode cX0_becomeLike 96 = .ok (.iconst 0, 1) := by decide +kernel
theorem dX0_becomeLike_97 : decode cX0_becomeLike 97 = .ok (.bipush 8, 2) := by decide +kernel
theorem dX0_becomeLike_99 : decode cX0_becomeLike 99 = .ok (.invokestatic 64, 3) := by decide +kernel
theorem dX0_becomeLike_102 : decode cX0_becomeLike 102 = .ok (.aload_n 1, 1) := by decide +kernel
theorem dX0_becomeLike_103 : decode cX0_becomeLike 103 = .ok (.getfield 18, 3) := by decide +kernel
theorem dX0_becomeLike_106 : decode cX0_becomeLike 106 = .ok (.iconst 0, 1) := by decide +kernel
theorem dX0_becomeLike_107 : decode cX0_becomeLike 107 = .ok (.aload_n 0, 1) := by decide +kernel
theorem dX0_becomeLike_108 : decode cX0_becomeLike 108 = .ok (.getfield 18, 3) := by decide +kernel
theorem dX0_becomeLike_111 : decode cX0_becomeLike 111 = .ok (.iconst 0, 1) := by decide +kernel
theorem dX0_becomeLike_112 : decode cX0_becomeLike 112 = .ok (.bipush 8, 2) := by decide +kernel
theorem dX0_becomeLike_114 : decode cX0_becomeLike 114 = .ok (.invokestatic 64, 3) := by decide +kernel
theorem dX0_becomeLike_117 : decode cX0_becomeLike 117 = .ok (.aload_n 1, 1) := by decide +kernel
theorem dX0_becomeLike_118 : decode cX0_becomeLike 118 = .ok (.getfield 21, 3) := by decide +kernel
theorem dX0_becomeLike_121 : decode cX0_becomeLike 121 = .ok (.iconst 0, 1) := by decide +kernel
theorem dX0_becomeLike_122 : decode cX0_becomeLike 122 = .ok (.aload_n 0, 1) := by decide +kernel
theorem dX0_becomeLike_123 : decode cX0_becomeLike 123 = .ok (.getfield 21, 3) := by decide +kernel
theorem dX0_becomeLike_126 : decode cX0_becomeLike 126 = .ok (.iconst 0, 1) := by decide +kernel
theorem dX0_becomeLike_127 : decode cX0_becomeLike 127 = .ok (.bipush 8, 2) := by decide +kernel
theorem dX0_becomeLike_129 : decode cX0_becomeLike 129 = .ok (.invokestatic 64, 3) := by decide +kernel
theorem dX0_becomeLike_132 : decode cX0_becomeLike 132 = .ok (.aload_n 1, 1) := by decide +kernel
theorem dX0_becomeLike_133 : decode cX0_becomeLike 133 = .ok (.getfield 24, 3) := by decide +kernel
theorem dX0_becomeLike_136 : decode cX0_becomeLike 136 = .ok (.iconst 0, 1) := by decide +kernel
theorem dX0_becomeLike_137 : decode cX0_becomeLike 137 = .ok (.aload_n 0, 1) := by decide +kernel
theorem dX0_becomeLike_138 : decode cX0_becomeLike 138 = .ok (.getfield 24, 3) := by decide +kernel
theorem dX0_becomeLike_141 : decode cX0_becomeLike 141 = .ok (.iconst 0, 1) := by decide +kernel
theorem dX0_becomeLike_142 : decode cX0_becomeLike 142 = .ok (.bipush 8, 2) := by decide +kernel
theorem dX0_becomeLike_144 : decode cX0_becomeLike 144 = .ok (.invokestatic 64, 3) := by decide +kernel
theorem dX0_becomeLike_147 : decode cX0_becomeLike 147 = .ok (.aload_n 1, 1) := by decide +kernel
theorem dX0_becomeLike_148 : decode cX0_becomeLike 148 = .ok (.getfield 27, 3) := by decide +kernel
theorem dX0_becomeLike_151 : decode cX0_becomeLike 151 = .ok (.iconst 0, 1) := by decide +kernel
theorem dX0_becomeLike_152 : decode cX0_becomeLike 152 = .ok (.aload_n 0, 1) := by decide +kernel
theorem dX0_becomeLike_153 : decode cX0_becomeLike 153 = .ok (.getfield 27, 3) := by decide +kernel
theorem dX0_becomeLike_156 : decode cX0_becomeLike 156 = .ok (.iconst 0, 1) := by decide +kernel
theorem dX0_becomeLike_157 : decode cX0_becomeLike 157 = .ok (.bipush 8, 2) := by decide +kernel
theorem dX0_becomeLike_159 : decode cX0_becomeLike 159 = .ok (.invokestatic 64, 3) := by decide +kernel
theorem dX0_becomeLike_162 : decode cX0_becomeLike 162 = .ok (.aload_n 1, 1) := by decide +kernel
theorem dX0_becomeLike_163 : decode cX0_becomeLike 163 = .ok (.getfield 30, 3) := by decide +kernel
theorem dX0_becomeLike_166 : decode cX0_becomeLike 166 = .ok (.iconst 0, 1) := by decide +kernel
theorem dX0_becomeLike_167 : decode cX0_becomeLike 167 = .ok (.aload_n 0, 1) := by decide +kernel
theorem dX0_becomeLike_168 : decode cX0_becomeLike 168 = .ok (.getfield 30, 3) := by decide +kernel
theorem dX0_becomeLike_171 : decode cX0_becomeLike 171 = .ok (.iconst 0, 1) := by decide +kernel
theorem dX0_becomeLike_172 : decode cX0_becomeLike 172 = .ok (.bipush 20, 2) := by decide +kernel
theorem dX0_becomeLike_174 : decode cX0_becomeLike 174 = .ok (.invokestatic 64, 3) := by decide +kernel
theorem dX0_becomeLike_177 : decode cX0_becomeLike 177 = .ok (.aload_n 1, 1) := by decide +kernel
theorem dX0_becomeLike_178 : decode cX0_becomeLike 178 = .ok (.getfield 33, 3) := by decide +kernel
theorem dX0_becomeLike_181 : decode cX0_becomeLike 181 = .ok (.iconst 0, 1) := by decide +kernel
theorem dX0_becomeLike_182 : decode cX0_becomeLike 182 = .ok (.aload_n 0, 1) := by decide +kernel
theorem dX0_becomeLike_183 : decode cX0_becomeLike 183 = .ok (.getfield 33, 3) := by decide +kernel
theorem dX0_becomeLike_186 : decode cX0_becomeLike 186 = .ok (.iconst 0, 1) := by decide +kernel
theorem dX0_becomeLike_187 : decode cX0_becomeLike 187 = .ok (.bipush 20, 2) := by decide +kernel
theorem dX0_becomeLike_189 : decode cX0_becomeLike 189 = .ok (.invokestatic 64, 3) := by decide +kernel
theorem dX0_becomeLike_192 : decode cX0_becomeLike 192 = .ok (.return_, 1) := by decide +kernel
theorem dX0_isTold_0 : decode cX0_isTold 0 = .ok (.aload_n 0, 1) := by decide +kernel
theorem dX0_isTold_1 : decode cX0_isTold 1 = .ok (.getfield 36, 3) := by decide +kernel
theorem dX0_isTold_4 : decode cX0_isTold 4 = .ok (.ifCond .le 7, 3) := by decide +kernel
theorem dX0_isTold_7 : decode cX0_isTold 7 = .ok (.iconst 1, 1) := by decide +kernel
theorem dX0_isTold_8 : decode cX0_isTold 8 = .ok (.goto 4, 3) := by decide +kernel
theorem dX0_isTold_11 : decode cX0_isTold 11 = .ok (.iconst 0, 1) := by decide +kernel
theorem dX0_isTold_12 : decode cX0_isTold 12 = .ok (.ireturn, 1) := by decide +kernel
theorem dX0_hasDay_0 : decode cX0_hasDay 0 = .ok (.iload_n 1, 1) := by decide +kernel
theorem dX0_hasDay_1 : decode cX0_hasDay 1 = .ok (.ifCond .lt 15, 3) := by decide +kernel
theorem dX0_hasDay_4 : decode cX0_hasDay 4 = .ok (.iload_n 1, 1) := by decide +kernel
theorem dX0_hasDay_5 : decode cX0_hasDay 5 = .ok (.aload_n 0, 1) := by decide +kernel
theorem dX0_hasDay_6 : decode cX0_hasDay 6 = .ok (.getfield 40, 3) := by decide +kernel
theorem dX0_hasDay_9 : decode cX0_hasDay 9 = .ok (.if_icmp .ge 7, 3) := by decide +kernel
theorem dX0_hasDay_12 : decode cX0_hasDay 12 = .ok (.iconst 1, 1) := by decide +kernel
theorem dX0_hasDay_13 : decode cX0_hasDay 13 = .ok (.goto 4, 3) := by decide +kernel
theorem dX0_hasDay_16 : decode cX0_hasDay 16 = .ok (.iconst 0, 1) := by decide +kernel
theorem dX0_hasDay_17 : decode cX0_hasDay 17 = .ok (.ireturn, 1) := by decide +kernel
theorem dX0_hasSide_0 : decode cX0_hasSide 0 = .ok (.aload_n 0, 1) := by decide +kernel
theorem dX0_hasSide_1 : decode cX0_hasSide 1 = .ok (.invokevirtual 70, 3) := by decide +kernel
theorem dX0_hasSide_4 : decode cX0_hasSide 4 = .ok (.ifCond .eq 14, 3) := by decide +kernel
theorem dX0_hasSide_7 : decode cX0_hasSide 7 = .ok (.iload_n 1, 1) := by decide +kernel
theorem dX0_hasSide_8 : decode cX0_hasSide 8 = .ok (.invokestatic 74, 3) := by decide +kernel
theorem dX0_hasSide_11 : decode cX0_hasSide 11 = .ok (.ifCond .eq 7, 3) := by decide +kernel
theorem dX0_hasSide_14 : decode cX0_hasSide 14 = .ok (.iconst 1, 1) := by decide +kernel
theorem dX0_hasSide_15 : decode cX0_hasSide 15 = .ok (.goto 4, 3) := by decide +kernel
theorem dX0_hasSide_18 : decode cX0_hasSide 18 = .ok (.iconst 0, 1) := by decide +kernel
theorem dX0_hasSide_19 : decode cX0_hasSide 19 = .ok (.ireturn, 1) := by decide +kernel
theorem dX0_hasAugur_0 : decode cX0_hasAugur 0 = .ok (.iload_n 1, 1) := by decide +kernel
theorem dX0_hasAugur_1 : decode cX0_hasAugur 1 = .ok (.ifCond .lt 15, 3) := by decide +kernel
theorem dX0_hasAugur_4 : decode cX0_hasAugur 4 = .ok (.iload_n 1, 1) := by decide +kernel
theorem dX0_hasAugur_5 : decode cX0_hasAugur 5 = .ok (.aload_n 0, 1) := by decide +kernel
theorem dX0_hasAugur_6 : decode cX0_hasAugur 6 = .ok (.getfield 55, 3) := by decide +kernel
theorem dX0_hasAugur_9 : decode cX0_hasAugur 9 = .ok (.if_icmp .ge 7, 3) := by decide +kernel
theorem dX0_hasAugur_12 : decode cX0_hasAugur 12 = .ok (.iconst 1, 1) := by decide +kernel
theorem dX0_hasAugur_13 : decode cX0_hasAugur 13 = .ok (.goto 4, 3) := by decide +kernel
theorem dX0_hasAugur_16 : decode cX0_hasAugur 16 = .ok (.iconst 0, 1) := by decide +kernel
theorem dX0_hasAugur_17 : decode cX0_hasAugur 17 = .ok (.ireturn, 1) := by decide +kernel
theorem dX0_hasBill_0 : decode cX0_hasBill 0 = .ok (.iload_n 1, 1) := by decide +kernel
theorem dX0_hasBill_1 : decode cX0_hasBill 1 = .ok (.ifCond .lt 15, 3) := by decide +kernel
theorem dX0_hasBill_4 : decode cX0_hasBill 4 = .ok (.iload_n 1, 1) := by decide +kernel
theorem dX0_hasBill_5 : decode cX0_hasBill 5 = .ok (.aload_n 0, 1) := by decide +kernel
theorem dX0_hasBill_6 : decode cX0_hasBill 6 = .ok (.getfield 58, 3) := by decide +kernel
theorem dX0_hasBill_9 : decode cX0_hasBill 9 = .ok (.if_icmp .ge 7, 3) := by decide +kernel
theorem dX0_hasBill_12 : decode cX0_hasBill 12 = .ok (.iconst 1, 1) := by decide +kernel
theorem dX0_hasBill_13 : decode cX0_hasBill 13 = .ok (.goto 4, 3) := by decide +kernel
theorem dX0_hasBill_16 : decode cX0_hasBill 16 = .ok (.iconst 0, 1) := by decide +kernel
theorem dX0_hasBill_17 : decode cX0_hasBill 17 = .ok (.ireturn, 1) := by decide +kernel
theorem dX0_allDays_0 : decode cX0_allDays 0 = .ok (.iconst 1, 1) := by decide +kernel
theorem dX0_allDays_1 : decode cX0_allDays 1 = .ok (.aload_n 0, 1) := by decide +kernel
theorem dX0_allDays_2 : decode cX0_allDays 2 = .ok (.getfield 40, 3) := by decide +kernel
theorem dX0_allDays_5 : decode cX0_allDays 5 = .ok (.ishl, 1) := by decide +kernel
theorem dX0_allDays_6 : decode cX0_allDays 6 = .ok (.iconst 1, 1) := by decide +kernel
theorem dX0_allDays_7 : decode cX0_allDays 7 = .ok (.isub, 1) := by decide +kernel
theorem dX0_allDays_8 : decode cX0_allDays 8 = .ok (.ireturn, 1) := by decide +kernel
theorem dX0_allBills_0 : decode cX0_allBills 0 = .ok (.iconst 1, 1) := by decide +kernel
theorem dX0_allBills_1 : decode cX0_allBills 1 = .ok (.aload_n 0, 1) := by decide +kernel
theorem dX0_allBills_2 : decode cX0_allBills 2 = .ok (.getfield 58, 3) := by decide +kernel
theorem dX0_allBills_5 : decode cX0_allBills 5 = .ok (.ishl, 1) := by decide +kernel
theorem dX0_allBills_6 : decode cX0_allBills 6 = .ok (.iconst 1, 1) := by decide +kernel
theorem dX0_allBills_7 : decode cX0_allBills 7 = .ok (.isub, 1) := by decide +kernel
theorem dX0_allBills_8 : decode cX0_allBills 8 = .ok (.ireturn, 1) := by decide +kernel
theorem dX0_augursOf_0 : decode cX0_augursOf 0 = .ok (.iconst 0, 1) := by decide +kernel
theorem dX0_augursOf_1 : decode cX0_augursOf 1 = .ok (.istore_n 2, 1) := by decide +kernel
theorem dX0_augursOf_2 : decode cX0_augursOf 2 = .ok (.iconst 0, 1) := by decide +kernel
theorem dX0_augursOf_3 : decode cX0_augursOf 3 = .ok (.istore_n 3, 1) := by decide +kernel
theorem dX0_augursOf_4 : decode cX0_augursOf 4 = .ok (.iload_n 3, 1) := by decide +kernel
theorem dX0_augursOf_5 : decode cX0_augursOf 5 = .ok (.aload_n 0, 1) := by decide +kernel
theorem dX0_augursOf_6 : decode cX0_augursOf 6 = .ok (.getfield 55, 3) := by decide +kernel
theorem dX0_augursOf_9 : decode cX0_augursOf 9 = .ok (.if_icmp .ge 25, 3) := by decide +kernel
theorem dX0_augursOf_12 : decode cX0_augursOf 12 = .ok (.aload_n 0, 1) := by decide +kernel
theorem dX0_augursOf_13 : decode cX0_augursOf 13 = .ok (.getfield 9, 3) := by decide +kernel
theorem dX0_augursOf_16 : decode cX0_augursOf 16 = .ok (.iload_n 3, 1) := by decide +kernel
theorem dX0_augursOf_17 : decode cX0_augursOf 17 = .ok (.iaload, 1) := by decide +kernel
theorem dX0_augursOf_18 : decode cX0_augursOf 18 = .ok (.iload_n 1, 1) := by decide +kernel
theorem dX0_augursOf_19 : decode cX0_augursOf 19 = .ok (.if_icmp .ne 9, 3) := by decide +kernel
theorem dX0_augursOf_22 : decode cX0_augursOf 22 = .ok (.iload_n 2, 1) := by decide +kernel
theorem dX0_augursOf_23 : decode cX0_augursOf 23 = .ok (.iconst 1, 1) := by decide +kernel
theorem dX0_augursOf_24 : decode cX0_augursOf 24 = .ok (.iload_n 3, 1) := by decide +kernel
theorem dX0_augursOf_25 : decode cX0_augursOf 25 = .ok (.ishl, 1) := by decide +kernel
theorem dX0_augursOf_26 : decode cX0_augursOf 26 = .ok (.ior, 1) := by decide +kernel
theorem dX0_augursOf_27 : decode cX0_augursOf 27 = .ok (.istore_n 2, 1) := by decide +kernel
theorem dX0_augursOf_28 : decode cX0_augursOf 28 = .ok (.iinc 3 1, 3) := by decide +kernel
theorem dX0_augursOf_31 : decode cX0_augursOf 31 = .ok (.goto (-27), 3) := by decide +kernel
theorem dX0_augursOf_34 : decode cX0_augursOf 34 = .ok (.iload_n 2, 1) := by decide +kernel
theorem dX0_augursOf_35 : decode cX0_augursOf 35 = .ok (.ireturn, 1) := by decide +kernel
theorem dX0_billsOf_0 : decode cX0_billsOf 0 = .ok (.iconst 0, 1) := by decide +kernel
theorem dX0_billsOf_1 : decode cX0_billsOf 1 = .ok (.istore_n 2, 1) := by decide +kernel
theorem dX0_billsOf_2 : decode cX0_billsOf 2 = .ok (.iconst 0, 1) := by decide +kernel
theorem dX0_billsOf_3 : decode cX0_billsOf 3 = .ok (.istore_n 3, 1) := by decide +kernel
theorem dX0_billsOf_4 : decode cX0_billsOf 4 = .ok (.iload_n 3, 1) := by decide +kernel
theorem dX0_billsOf_5 : decode cX0_billsOf 5 = .ok (.aload_n 0, 1) := by decide +kernel
theorem dX0_billsOf_6 : decode cX0_billsOf 6 = .ok (.getfield 58, 3) := by decide +kernel
theorem dX0_billsOf_9 : decode cX0_billsOf 9 = .ok (.if_icmp .ge 25, 3) := by decide +kernel
theorem dX0_billsOf_12 : decode cX0_billsOf 12 = .ok (.aload_n 0, 1) := by decide +kernel
theorem dX0_billsOf_13 : decode cX0_billsOf 13 = .ok (.getfield 21, 3) := by decide +kernel
theorem dX0_billsOf_16 : decode cX0_billsOf 16 = .ok (.iload_n 3, 1) := by decide +kernel
theorem dX0_billsOf_17 : decode cX0_billsOf 17 = .ok (.iaload, 1) := by decide +kernel
theorem dX0_billsOf_18 : decode cX0_billsOf 18 = .ok (.iload_n 1, 1) := by decide +kernel
theorem dX0_billsOf_19 : decode cX0_billsOf 19 = .ok (.if_icmp .ne 9, 3) := by decide +kernel
theorem dX0_billsOf_22 : decode cX0_billsOf 22 = .ok (.iload_n 2, 1) := by decide +kernel
theorem dX0_billsOf_23 : decode cX0_billsOf 23 = .ok (.iconst 1, 1) := by decide +kernel
theorem dX0_billsOf_24 : decode cX0_billsOf 24 = .ok (.iload_n 3, 1) := by decide +kernel
theorem dX0_billsOf_25 : decode cX0_billsOf 25 = .ok (.ishl, 1) := by decide +kernel
theorem dX0_billsOf_26 : decode cX0_billsOf 26 = .ok (.ior, 1) := by decide +kernel
theorem dX0_billsOf_27 : decode cX0_billsOf 27 = .ok (.istore_n 2, 1) := by decide +kernel
theorem dX0_billsOf_28 : decode cX0_billsOf 28 = .ok (.iinc 3 1, 3) := by decide +kernel
theorem dX0_billsOf_31 : decode cX0_billsOf 31 = .ok (.goto (-27), 3) := by decide +kernel
theorem dX0_billsOf_34 : decode cX0_billsOf 34 = .ok (.iload_n 2, 1) := by decide +kernel
theorem dX0_billsOf_35 : decode cX0_billsOf 35 = .ok (.ireturn, 1) := by decide +kernel
theorem dX0_daysOfAugur_0 : decode cX0_daysOfAugur 0 = .ok (.iconst 2, 1) := by decide +kernel
theorem dX0_daysOfAugur_1 : decode cX0_daysOfAugur 1 = .ok (.aload_n 0, 1) := by decide +kernel
theorem dX0_daysOfAugur_2 : decode cX0_daysOfAugur 2 = .ok (.getfield 18, 3) := by decide +kernel
theorem dX0_daysOfAugur_5 : decode cX0_daysOfAugur 5 = .ok (.iload_n 1, 1) := by decide +kernel
theorem dX0_daysOfAugur_6 : decode cX0_daysOfAugur 6 = .ok (.iaload, 1) := by decide +kernel
theorem dX0_daysOfAugur_7 : decode cX0_daysOfAugur 7 = .ok (.ishl, 1) := by decide +kernel
theorem dX0_daysOfAugur_8 : decode cX0_daysOfAugur 8 = .ok (.iconst 1, 1) := by decide +kernel
theorem dX0_daysOfAugur_9 : decode cX0_daysOfAugur 9 = .ok (.aload_n 0, 1) := by decide +kernel
theorem dX0_daysOfAugur_10 : decode cX0_daysOfAugur 10 = .ok (.getfield 15, 3) := by decide +kernel
theorem dX0_daysOfAugur_13 : decode cX0_daysOfAugur 13 = .ok (.iload_n 1, 1) := by decide +kernel
theorem dX0_daysOfAugur_14 : decode cX0_daysOfAugur 14 = .ok (.iaload, 1) := by decide +kernel
theorem dX0_daysOfAugur_15 : decode cX0_daysOfAugur 15 = .ok (.ishl, 1) := by decide +kernel
theorem dX0_daysOfAugur_16 : decode cX0_daysOfAugur 16 = .ok (.isub, 1) := by decide +kernel
theorem dX0_daysOfAugur_17 : decode cX0_daysOfAugur 17 = .ok (.ireturn, 1) := by decide +kernel
theorem dX0_skyOf_0 : decode cX0_skyOf 0 = .ok (.iconst 0, 1) := by decide +kernel
theorem dX0_skyOf_1 : decode cX0_skyOf 1 = .ok (.istore_n 2, 1) := by decide +kernel
theorem dX0_skyOf_2 : decode cX0_skyOf 2 = .ok (.iconst 0, 1) := by decide +kernel
theorem dX0_skyOf_3 : decode cX0_skyOf 3 = .ok (.istore_n 3, 1) := by decide +kernel
theorem dX0_skyOf_4 : decode cX0_skyOf 4 = .ok (.iload_n 3, 1) := by decide +kernel
theorem dX0_skyOf_5 : decode cX0_skyOf 5 = .ok (.aload_n 0, 1) := by decide +kernel
theorem dX0_skyOf_6 : decode cX0_skyOf 6 = .ok (.getfield 55, 3) := by decide +kernel
theorem dX0_skyOf_9 : decode cX0_skyOf 9 = .ok (.if_icmp .ge 25, 3) := by decide +kernel
theorem dX0_skyOf_12 : decode cX0_skyOf 12 = .ok (.iload_n 1, 1) := by decide +kernel
theorem dX0_skyOf_13 : decode cX0_skyOf 13 = .ok (.iload_n 3, 1) := by decide +kernel
theorem dX0_skyOf_14 : decode cX0_skyOf 14 = .ok (.invokestatic 78, 3) := by decide +kernel
theorem dX0_skyOf_17 : decode cX0_skyOf 17 = .ok (.ifCond .eq 11, 3) := by decide +kernel
theorem dX0_skyOf_20 : decode cX0_skyOf 20 = .ok (.iload_n 2, 1) := by decide +kernel
theorem dX0_skyOf_21 : decode cX0_skyOf 21 = .ok (.aload_n 0, 1) := by decide +kernel
theorem dX0_skyOf_22 : decode cX0_skyOf 22 = .ok (.iload_n 3, 1) := by decide +kernel
theorem dX0_skyOf_23 : decode cX0_skyOf 23 = .ok (.invokevirtual 82, 3) := by decide +kernel
theorem dX0_skyOf_26 : decode cX0_skyOf 26 = .ok (.ior, 1) := by decide +kernel
theorem dX0_skyOf_27 : decode cX0_skyOf 27 = .ok (.istore_n 2, 1) := by decide +kernel
theorem dX0_skyOf_28 : decode cX0_skyOf 28 = .ok (.iinc 3 1, 3) := by decide +kernel
theorem dX0_skyOf_31 : decode cX0_skyOf 31 = .ok (.goto (-27), 3) := by decide +kernel
theorem dX0_skyOf_34 : decode cX0_skyOf 34 = .ok (.iload_n 2, 1) := by decide +kernel
theorem dX0_skyOf_35 : decode cX0_skyOf 35 = .ok (.ireturn, 1) := by decide +kernel
theorem dX0_augursOn_0 : decode cX0_augursOn 0 = .ok (.iconst 0, 1) := by decide +kernel
theorem dX0_augursOn_1 : decode cX0_augursOn 1 = .ok (.istore_n 2, 1) := by decide +kernel
theorem dX0_augursOn_2 : decode cX0_augursOn 2 = .ok (.iconst 0, 1) := by decide +kernel
theorem dX0_augursOn_3 : decode cX0_augursOn 3 = .ok (.istore_n 3, 1) := by decide +kernel
theorem dX0_augursOn_4 : decode cX0_augursOn 4 = .ok (.iload_n 3, 1) := by decide +kernel
theorem dX0_augursOn_5 : decode cX0_augursOn 5 = .ok (.aload_n 0, 1) := by decide +kernel
theorem dX0_augursOn_6 : decode cX0_augursOn 6 = .ok (.getfield 55, 3) := by decide +kernel
theorem dX0_augursOn_9 : decode cX0_augursOn 9 = .ok (.if_icmp .ge 27, 3) := by decide +kernel
theorem dX0_augursOn_12 : decode cX0_augursOn 12 = .ok (.aload_n 0, 1) := by decide +kernel
theorem dX0_augursOn_13 : decode cX0_augursOn 13 = .ok (.iload_n 3, 1) := by decide +kernel
theorem dX0_augursOn_14 : decode cX0_augursOn 14 = .ok (.invokevirtual 82, 3) := by decide +kernel
theorem dX0_augursOn_17 : decode cX0_augursOn 17 = .ok (.iload_n 1, 1) := by decide +kernel
theorem dX0_augursOn_18 : decode cX0_augursOn 18 = .ok (.invokestatic 78, 3) := by decide +kernel
theorem dX0_augursOn_21 : decode cX0_augursOn 21 = .ok (.ifCond .eq 9, 3) := by decide +kernel
theorem dX0_augursOn_24 : decode cX0_augursOn 24 = .ok (.iload_n 2, 1) := by decide +kernel
theorem dX0_augursOn_25 : decode cX0_augursOn 25 = .ok (.iconst 1, 1) := by decide +kernel
theorem dX0_augursOn_26 : decode cX0_augursOn 26 = .ok (.iload_n 3, 1) := by decide +kernel
theorem dX0_augursOn_27 : decode cX0_augursOn 27 = .ok (.ishl, 1) := by decide +kernel
theorem dX0_augursOn_28 : decode cX0_augursOn 28 = .ok (.ior, 1) := by decide +kernel
theorem dX0_augursOn_29 : decode cX0_augursOn 29 = .ok (.istore_n 2, 1) := by decide +kernel
theorem dX0_augursOn_30 : decode cX0_augursOn 30 = .ok (.iinc 3 1, 3) := by decide +kernel
theorem dX0_augursOn_33 : decode cX0_augursOn 33 = .ok (.goto (-29), 3) := by decide +kernel
theorem dX0_augursOn_36 : decode cX0_augursOn 36 = .ok (.iload_n 2, 1) := by decide +kernel
theorem dX0_augursOn_37 : decode cX0_augursOn 37 = .ok (.ireturn, 1) := by decide +kernel
theorem dX0_clearDays_0 : decode cX0_clearDays 0 = .ok (.aload_n 0, 1) := by decide +kernel
theorem dX0_clearDays_1 : decode cX0_clearDays 1 = .ok (.invokevirtual 86, 3) := by decide +kernel
theorem dX0_clearDays_4 : decode cX0_clearDays 4 = .ok (.aload_n 0, 1) := by decide +kernel
theorem dX0_clearDays_5 : decode cX0_clearDays 5 = .ok (.getfield 52, 3) := by decide +kernel
theorem dX0_clearDays_8 : decode cX0_clearDays 8 = .ok (.iconst (-1), 1) := by decide +kernel
theorem dX0_clearDays_9 : decode cX0_clearDays 9 = .ok (.ixor, 1) := by decide +kernel
theorem dX0_clearDays_10 : decode cX0_clearDays 10 = .ok (.iand, 1) := by decide +kernel
theorem dX0_clearDays_11 : decode cX0_clearDays 11 = .ok (.aload_n 0, 1) := by decide +kernel
theorem dX0_clearDays_12 : decode cX0_clearDays 12 = .ok (.aload_n 0, 1) := by decide +kernel
theorem dX0_clearDays_13 : decode cX0_clearDays 13 = .ok (.iconst 1, 1) := by decide +kernel
theorem dX0_clearDays_14 : decode cX0_clearDays 14 = .ok (.iload_n 1, 1) := by decide +kernel
theorem dX0_clearDays_15 : decode cX0_clearDays 15 = .ok (.isub, 1) := by decide +kernel
theorem dX0_clearDays_16 : decode cX0_clearDays 16 = .ok (.invokevirtual 90, 3) := by decide +kernel
theorem dX0_clearDays_19 : decode cX0_clearDays 19 = .ok (.invokevirtual 93, 3) := by decide +kernel
theorem dX0_clearDays_22 : decode cX0_clearDays 22 = .ok (.iconst (-1), 1) := by decide +kernel
theorem dX0_clearDays_23 : decode cX0_clearDays 23 = .ok (.ixor, 1) := by decide +kernel
theorem dX0_clearDays_24 : decode cX0_clearDays 24 = .ok (.iand, 1) := by decide +kernel
theorem dX0_clearDays_25 : decode cX0_clearDays 25 = .ok (.ireturn, 1) := by decide +kernel
theorem dX0_worthOf_0 : decode cX0_worthOf 0 = .ok (.iconst 0, 1) := by decide +kernel
theorem dX0_worthOf_1 : decode cX0_worthOf 1 = .ok (.istore_n 2, 1) := by decide +kernel
theorem dX0_worthOf_2 : decode cX0_worthOf 2 = .ok (.iconst 0, 1) := by decide +kernel
theorem dX0_worthOf_3 : decode cX0_worthOf 3 = .ok (.istore_n 3, 1) := by decide +kernel
theorem dX0_worthOf_4 : decode cX0_worthOf 4 = .ok (.iload_n 3, 1) := by decide +kernel
theorem dX0_worthOf_5 : decode cX0_worthOf 5 = .ok (.aload_n 0, 1) := by decide +kernel
theorem dX0_worthOf_6 : decode cX0_worthOf 6 = .ok (.getfield 58, 3) := by decide +kernel
theorem dX0_worthOf_9 : decode cX0_worthOf 9 = .ok (.if_icmp .ge 26, 3) := by decide +kernel
theorem dX0_worthOf_12 : decode cX0_worthOf 12 = .ok (.iload_n 1, 1) := by decide +kernel
theorem dX0_worthOf_13 : decode cX0_worthOf 13 = .ok (.iload_n 3, 1) := by decide +kernel
theorem dX0_worthOf_14 : decode cX0_worthOf 14 = .ok (.invokestatic 78, 3) := by decide +kernel
theorem dX0_worthOf_17 : decode cX0_worthOf 17 = .ok (.ifCond .eq 12, 3) := by decide +kernel
theorem dX0_worthOf_20 : decode cX0_worthOf 20 = .ok (.iload_n 2, 1) := by decide +kernel
theorem dX0_worthOf_21 : decode cX0_worthOf 21 = .ok (.aload_n 0, 1) := by decide +kernel
theorem dX0_worthOf_22 : decode cX0_worthOf 22 = .ok (.getfield 24, 3) := by decide +kernel
theorem dX0_worthOf_25 : decode cX0_worthOf 25 = .ok (.iload_n 3, 1) := by decide +kernel
theorem dX0_worthOf_26 : decode cX0_worthOf 26 = .ok (.iaload, 1) := by decide +kernel
theorem dX0_worthOf_27 : decode cX0_worthOf 27 = .ok (.iadd, 1) := by decide +kernel
theorem dX0_worthOf_28 : decode cX0_worthOf 28 = .ok (.istore_n 2, 1) := by decide +kernel
theorem dX0_worthOf_29 : decode cX0_worthOf 29 = .ok (.iinc 3 1, 3) := by decide +kernel
theorem dX0_worthOf_32 : decode cX0_worthOf 32 = .ok (.goto (-28), 3) := by decide +kernel
theorem dX0_worthOf_35 : decode cX0_worthOf 35 = .ok (.iload_n 2, 1) := by decide +kernel
theorem dX0_worthOf_36 : decode cX0_worthOf 36 = .ok (.ireturn, 1) := by decide +kernel
theorem dX0_needsOf_0 : decode cX0_needsOf 0 = .ok (.iconst 0, 1) := by decide +kernel
theorem dX0_needsOf_1 : decode cX0_needsOf 1 = .ok (.istore_n 2, 1) := by decide +kernel
theorem dX0_needsOf_2 : decode cX0_needsOf 2 = .ok (.aload_n 0, 1) := by decide +kernel
theorem dX0_needsOf_3 : decode cX0_needsOf 3 = .ok (.getfield 27, 3) := by decide +kernel
theorem dX0_needsOf_6 : decode cX0_needsOf 6 = .ok (.iload_n 1, 1) := by decide +kernel
theorem dX0_needsOf_7 : decode cX0_needsOf 7 = .ok (.iaload, 1) := by decide +kernel
theorem dX0_needsOf_8 : decode cX0_needsOf 8 = .ok (.istore_n 3, 1) := by decide +kernel
theorem dX0_needsOf_9 : decode cX0_needsOf 9 = .ok (.iload_n 1, 1) := by decide +kernel
theorem dX0_needsOf_10 : decode cX0_needsOf 10 = .ok (.iconst 1, 1) := by decide +kernel
theorem dX0_needsOf_11 : decode cX0_needsOf 11 = .ok (.isub, 1) := by decide +kernel
theorem dX0_needsOf_12 : decode cX0_needsOf 12 = .ok (.istore 4, 2) := by decide +kernel
theorem dX0_needsOf_14 : decode cX0_needsOf 14 = .ok (.iload 4, 2) := by decide +kernel
theorem dX0_needsOf_16 : decode cX0_needsOf 16 = .ok (.ifCond .lt 30, 3) := by decide +kernel
theorem dX0_needsOf_19 : decode cX0_needsOf 19 = .ok (.iload 4, 2) := by decide +kernel
theorem dX0_needsOf_21 : decode cX0_needsOf 21 = .ok (.iload_n 3, 1) := by decide +kernel
theorem dX0_needsOf_22 : decode cX0_needsOf 22 = .ok (.if_icmp .ne 18, 3) := by decide +kernel
theorem dX0_needsOf_25 : decode cX0_needsOf 25 = .ok (.iload_n 2, 1) := by decide +kernel
theorem dX0_needsOf_26 : decode cX0_needsOf 26 = .ok (.iconst 1, 1) := by decide +kernel
theorem dX0_needsOf_27 : decode cX0_needsOf 27 = .ok (.iload 4, 2) := by decide +kernel
theorem dX0_needsOf_29 : decode cX0_needsOf 29 = .ok (.ishl, 1) := by decide +kernel
theorem dX0_needsOf_30 : decode cX0_needsOf 30 = .ok (.ior, 1) := by decide +kernel
theorem dX0_needsOf_31 : decode cX0_needsOf 31 = .ok (.istore_n 2, 1) := by decide +kernel
theorem dX0_needsOf_32 : decode cX0_needsOf 32 = .ok (.aload_n 0, 1) := by decide +kernel
theorem dX0_needsOf_33 : decode cX0_needsOf 33 = .ok (.getfield 27, 3) := by decide +kernel
theorem dX0_needsOf_36 : decode cX0_needsOf 36 = .ok (.iload 4, 2) := by decide +kernel
theorem dX0_needsOf_38 : decode cX0_needsOf 38 = .ok (.iaload, 1) := by decide +kernel
theorem dX0_needsOf_39 : decode cX0_needsOf 39 = .ok (.istore_n 3, 1) := by decide +kernel
theorem dX0_needsOf_40 : decode cX0_needsOf 40 = .ok (.iinc 4 (-1), 3) := by decide +kernel
theorem dX0_needsOf_43 : decode cX0_needsOf 43 = .ok (.goto (-29), 3) := by decide +kernel
theorem dX0_needsOf_46 : decode cX0_needsOf 46 = .ok (.iload_n 2, 1) := by decide +kernel
theorem dX0_needsOf_47 : decode cX0_needsOf 47 = .ok (.ireturn, 1) := by decide +kernel
theorem dX0_heirsOf_0 : decode cX0_heirsOf 0 = .ok (.iconst 0, 1) := by decide +kernel
theorem dX0_heirsOf_1 : decode cX0_heirsOf 1 = .ok (.istore_n 2, 1) := by decide +kernel
theorem dX0_heirsOf_2 : decode cX0_heirsOf 2 = .ok (.iload_n 1, 1) := by decide +kernel
theorem dX0_heirsOf_3 : decode cX0_heirsOf 3 = .ok (.iconst 1, 1) := by decide +kernel
theorem dX0_heirsOf_4 : decode cX0_heirsOf 4 = .ok (.iadd, 1) := by decide +kernel
theorem dX0_heirsOf_5 : decode cX0_heirsOf 5 = .ok (.istore_n 3, 1) := by decide +kernel
theorem dX0_heirsOf_6 : decode cX0_heirsOf 6 = .ok (.iload_n 3, 1) := by decide +kernel
theorem dX0_heirsOf_7 : decode cX0_heirsOf 7 = .ok (.aload_n 0, 1) := by decide +kernel
theorem dX0_heirsOf_8 : decode cX0_heirsOf 8 = .ok (.getfield 58, 3) := by decide +kernel
theorem dX0_heirsOf_11 : decode cX0_heirsOf 11 = .ok (.if_icmp .ge 27, 3) := by decide +kernel
theorem dX0_heirsOf_14 : decode cX0_heirsOf 14 = .ok (.aload_n 0, 1) := by decide +kernel
theorem dX0_heirsOf_15 : decode cX0_heirsOf 15 = .ok (.iload_n 3, 1) := by decide +kernel
theorem dX0_heirsOf_16 : decode cX0_heirsOf 16 = .ok (.invokevirtual 96, 3) := by decide +kernel
theorem dX0_heirsOf_19 : decode cX0_heirsOf 19 = .ok (.iload_n 1, 1) := by decide +kernel
theorem dX0_heirsOf_20 : decode cX0_heirsOf 20 = .ok (.invokestatic 78, 3) := by decide +kernel
theorem dX0_heirsOf_23 : decode cX0_heirsOf 23 = .ok (.ifCond .eq 9, 3) := by decide +kernel
theorem dX0_heirsOf_26 : decode cX0_heirsOf 26 = .ok (.iload_n 2, 1) := by decide +kernel
theorem dX0_heirsOf_27 : decode cX0_heirsOf 27 = .ok (.iconst 1, 1) := by decide +kernel
theorem dX0_heirsOf_28 : decode cX0_heirsOf 28 = .ok (.iload_n 3, 1) := by decide +kernel
theorem dX0_heirsOf_29 : decode cX0_heirsOf 29 = .ok (.ishl, 1) := by decide +kernel
theorem dX0_heirsOf_30 : decode cX0_heirsOf 30 = .ok (.ior, 1) := by decide +kernel
theorem dX0_heirsOf_31 : decode cX0_heirsOf 31 = .ok (.istore_n 2, 1) := by decide +kernel
theorem dX0_heirsOf_32 : decode cX0_heirsOf 32 = .ok (.iinc 3 1, 3) := by decide +kernel
theorem dX0_heirsOf_35 : decode cX0_heirsOf 35 = .ok (.goto (-29), 3) := by decide +kernel
theorem dX0_heirsOf_38 : decode cX0_heirsOf 38 = .ok (.iload_n 2, 1) := by decide +kernel
theorem dX0_heirsOf_39 : decode cX0_heirsOf 39 = .ok (.ireturn, 1) := by decide +kernel
theorem dX0_firstHungryDay_0 : decode cX0_firstHungryDay 0 = .ok (.aload_n 0, 1) := by decide +kernel
theorem dX0_firstHungryDay_1 : decode cX0_firstHungryDay 1 = .ok (.getfield 40, 3) := by decide +kernel
theorem dX0_firstHungryDay_4 : decode cX0_firstHungryDay 4 = .ok (.iconst 0, 1) := by decide +kernel
theorem dX0_firstHungryDay_5 : decode cX0_firstHungryDay 5 = .ok (.aload_n 0, 1) := by decide +kernel
theorem dX0_firstHungryDay_6 : decode cX0_firstHungryDay 6 = .ok (.getfield 46, 3) := by decide +kernel
theorem dX0_firstHungryDay_9 : decode cX0_firstHungryDay 9 = .ok (.aload_n 0, 1) := by decide +kernel
theorem dX0_firstHungryDay_10 : decode cX0_firstHungryDay 10 = .ok (.getfield 43, 3) := by decide +kernel
theorem dX0_firstHungryDay_13 : decode cX0_firstHungryDay 13 = .ok (.isub, 1) := by decide +kernel
theorem dX0_firstHungryDay_14 : decode cX0_firstHungryDay 14 = .ok (.invokestatic 99, 3) := by decide +kernel
theorem dX0_firstHungryDay_17 : decode cX0_firstHungryDay 17 = .ok (.invokestatic 105, 3) := by decide +kernel
theorem dX0_firstHungryDay_20 : decode cX0_firstHungryDay 20 = .ok (.ireturn, 1) := by decide +kernel
theorem dX0_fedDays_0 : decode cX0_fedDays 0 = .ok (.iconst 0, 1) := by decide +kernel
theorem dX0_fedDays_1 : decode cX0_fedDays 1 = .ok (.istore_n 1, 1) := by decide +kernel
theorem dX0_fedDays_2 : decode cX0_fedDays 2 = .ok (.iconst 0, 1) := by decide +kernel
theorem dX0_fedDays_3 : decode cX0_fedDays 3 = .ok (.istore_n 2, 1) := by decide +kernel
theorem dX0_fedDays_4 : decode cX0_fedDays 4 = .ok (.iload_n 2, 1) := by decide +kernel
theorem dX0_fedDays_5 : decode cX0_fedDays 5 = .ok (.aload_n 0, 1) := by decide +kernel
theorem dX0_fedDays_6 : decode cX0_fedDays 6 = .ok (.getfield 61, 3) := by decide +kernel
theorem dX0_fedDays_9 : decode cX0_fedDays 9 = .ok (.if_icmp .ge 30, 3) := by decide +kernel
theorem dX0_fedDays_12 : decode cX0_fedDays 12 = .ok (.aload_n 0, 1) := by decide +kernel
theorem dX0_fedDays_13 : decode cX0_fedDays 13 = .ok (.getfield 33, 3) := by decide +kernel
theorem dX0_fedDays_16 : decode cX0_fedDays 16 = .ok (.iload_n 2, 1) := by decide +kernel
theorem dX0_fedDays_17 : decode cX0_fedDays 17 = .ok (.iaload, 1) := by decide +kernel
theorem dX0_fedDays_18 : decode cX0_fedDays 18 = .ok (.iconst (-1), 1) := by decide +kernel
theorem dX0_fedDays_19 : decode cX0_fedDays 19 = .ok (.if_icmp .ne 14, 3) := by decide +kernel
theorem dX0_fedDays_22 : decode cX0_fedDays 22 = .ok (.iload_n 1, 1) := by decide +kernel
theorem dX0_fedDays_23 : decode cX0_fedDays 23 = .ok (.iconst 1, 1) := by decide +kernel
theorem dX0_fedDays_24 : decode cX0_fedDays 24 = .ok (.aload_n 0, 1) := by decide +kernel
theorem dX0_fedDays_25 : decode cX0_fedDays 25 = .ok (.getfield 30, 3) := by decide +kernel
theorem dX0_fedDays_28 : decode cX0_fedDays 28 = .ok (.iload_n 2, 1) := by decide +kernel
theorem dX0_fedDays_29 : decode cX0_fedDays 29 = .ok (.iaload, 1) := by decide +kernel
theorem dX0_fedDays_30 : decode cX0_fedDays 30 = .ok (.ishl, 1) := by decide +kernel
theorem dX0_fedDays_31 : decode cX0_fedDays 31 = .ok (.ior, 1) := by decide +kernel
theorem dX0_fedDays_32 : decode cX0_fedDays 32 = .ok (.istore_n 1, 1) := by decide +kernel
theorem dX0_fedDays_33 : decode cX0_fedDays 33 = .ok (.iinc 2 1, 3) := by decide +kernel
theorem dX0_fedDays_36 : decode cX0_fedDays 36 = .ok (.goto (-32), 3) := by decide +kernel
theorem dX0_fedDays_39 : decode cX0_fedDays 39 = .ok (.iload_n 1, 1) := by decide +kernel
theorem dX0_fedDays_40 : decode cX0_fedDays 40 = .ok (.ireturn, 1) := by decide +kernel
theorem dX0_askedDays_0 : decode cX0_askedDays 0 = .ok (.iconst 0, 1) := by decide +kernel
theorem dX0_askedDays_1 : decode cX0_askedDays 1 = .ok (.istore_n 1, 1) := by decide +kernel
theorem dX0_askedDays_2 : decode cX0_askedDays 2 = .ok (.iconst 0, 1) := by decide +kernel
theorem dX0_askedDays_3 : decode cX0_askedDays 3 = .ok (.istore_n 2, 1) := by decide +kernel
theorem dX0_askedDays_4 : decode cX0_askedDays 4 = .ok (.iload_n 2, 1) := by decide +kernel
theorem dX0_askedDays_5 : decode cX0_askedDays 5 = .ok (.aload_n 0, 1) := by decide +kernel
theorem dX0_askedDays_6 : decode cX0_askedDays 6 = .ok (.getfield 61, 3) := by decide +kernel
theorem dX0_askedDays_9 : decode cX0_askedDays 9 = .ok (.if_icmp .ge 30, 3) := by decide +kernel
theorem dX0_askedDays_12 : decode cX0_askedDays 12 = .ok (.aload_n 0, 1) := by decide +kernel
theorem dX0_askedDays_13 : decode cX0_askedDays 13 = .ok (.getfield 33, 3) := by decide +kernel
theorem dX0_askedDays_16 : decode cX0_askedDays 16 = .ok (.iload_n 2, 1) := by decide +kernel
theorem dX0_askedDays_17 : decode cX0_askedDays 17 = .ok (.iaload, 1) := by decide +kernel
theorem dX0_askedDays_18 : decode cX0_askedDays 18 = .ok (.iconst (-1), 1) := by decide +kernel
theorem dX0_askedDays_19 : decode cX0_askedDays 19 = .ok (.if_icmp .eq 14, 3) := by decide +kernel
theorem dX0_askedDays_22 : decode cX0_askedDays 22 = .ok (.iload_n 1, 1) := by decide +kernel
theorem dX0_askedDays_23 : decode cX0_askedDays 23 = .ok (.iconst 1, 1) := by decide +kernel
theorem dX0_askedDays_24 : decode cX0_askedDays 24 = .ok (.aload_n 0, 1) := by decide +kernel
theorem dX0_askedDays_25 : decode cX0_askedDays 25 = .ok (.getfield 30, 3) := by decide +kernel
theorem dX0_askedDays_28 : decode cX0_askedDays 28 = .ok (.iload_n 2, 1) := by decide +kernel
theorem dX0_askedDays_29 : decode cX0_askedDays 29 = .ok (.iaload, 1) := by decide +kernel
theorem dX0_askedDays_30 : decode cX0_askedDays 30 = .ok (.ishl, 1) := by decide +kernel
theorem dX0_askedDays_31 : decode cX0_askedDays 31 = .ok (.ior, 1) := by decide +kernel
theorem dX0_askedDays_32 : decode cX0_askedDays 32 = .ok (.istore_n 1, 1) := by decide +kernel
theorem dX0_askedDays_33 : decode cX0_askedDays 33 = .ok (.iinc 2 1, 3) := by decide +kernel
theorem dX0_askedDays_36 : decode cX0_askedDays 36 = .ok (.goto (-32), 3) := by decide +kernel
theorem dX0_askedDays_39 : decode cX0_askedDays 39 = .ok (.iload_n 1, 1) := by decide +kernel
theorem dX0_askedDays_40 : decode cX0_askedDays 40 = .ok (.ireturn, 1) := by decide +kernel
theorem dX0_isFree_0 : decode cX0_isFree 0 = .ok (.aload_n 0, 1) := by decide +kernel
theorem dX0_isFree_1 : decode cX0_isFree 1 = .ok (.invokevirtual 108, 3) := by decide +kernel
theorem dX0_isFree_4 : decode cX0_isFree 4 = .ok (.aload_n 0, 1) := by decide +kernel
theorem dX0_isFree_5 : decode cX0_isFree 5 = .ok (.invokevirtual 111, 3) := by decide +kernel
theorem dX0_isFree_8 : decode cX0_isFree 8 = .ok (.ior, 1) := by decide +kernel
theorem dX0_isFree_9 : decode cX0_isFree 9 = .ok (.iload_n 1, 1) := by decide +kernel
theorem dX0_isFree_10 : decode cX0_isFree 10 = .ok (.invokestatic 78, 3) := by decide +kernel
theorem dX0_isFree_13 : decode cX0_isFree 13 = .ok (.ifCond .ne 7, 3) := by decide +kernel
theorem dX0_isFree_16 : decode cX0_isFree 16 = .ok (.iconst 1, 1) := by decide +kernel
theorem dX0_isFree_17 : decode cX0_isFree 17 = .ok (.goto 4, 3) := by decide +kernel
theorem dX0_isFree_20 : decode cX0_isFree 20 = .ok (.iconst 0, 1) := by decide +kernel
theorem dX0_isFree_21 : decode cX0_isFree 21 = .ok (.ireturn, 1) := by decide +kernel
theorem dX0_isAskedFor_0 : decode cX0_isAskedFor 0 = .ok (.iconst 0, 1) := by decide +kernel
theorem dX0_isAskedFor_1 : decode cX0_isAskedFor 1 = .ok (.istore_n 2, 1) := by decide +kernel
theorem dX0_isAskedFor_2 : decode cX0_isAskedFor 2 = .ok (.iload_n 2, 1) := by decide +kernel
theorem dX0_isAskedFor_3 : decode cX0_isAskedFor 3 = .ok (.aload_n 0, 1) := by decide +kernel
theorem dX0_isAskedFor_4 : decode cX0_isAskedFor 4 = .ok (.getfield 61, 3) := by decide +kernel
theorem dX0_isAskedFor_7 : decode cX0_isAskedFor 7 = .ok (.if_icmp .ge 21, 3) := by decide +kernel
theorem dX0_isAskedFor_10 : decode cX0_isAskedFor 10 = .ok (.aload_n 0, 1) := by decide +kernel
theorem dX0_isAskedFor_11 : decode cX0_isAskedFor 11 = .ok (.getfield 33, 3) := by decide +kernel
theorem dX0_isAskedFor_14 : decode cX0_isAskedFor 14 = .ok (.iload_n 2, 1) := by decide +kernel
theorem dX0_isAskedFor_15 : decode cX0_isAskedFor 15 = .ok (.iaload, 1) := by decide +kernel
theorem dX0_isAskedFor_16 : decode cX0_isAskedFor 16 = .ok (.iload_n 1, 1) := by decide +kernel
theorem dX0_isAskedFor_17 : decode cX0_isAskedFor 17 = .ok (.if_icmp .ne 5, 3) := by decide +kernel
theorem dX0_isAskedFor_20 : decode cX0_isAskedFor 20 = .ok (.iconst 1, 1) := by decide +kernel
theorem dX0_isAskedFor_21 : decode cX0_isAskedFor 21 = .ok (.ireturn, 1) := by decide +kernel
theorem dX0_isAskedFor_22 : decode cX0_isAskedFor 22 = .ok (.iinc 2 1, 3) := by decide +kernel
theorem dX0_isAskedFor_25 : decode cX0_isAskedFor 25 = .ok (.goto (-23), 3) := by decide +kernel
theorem dX0_isAskedFor_28 : decode cX0_isAskedFor 28 = .ok (.iconst 0, 1) := by decide +kernel
theorem dX0_isAskedFor_29 : decode cX0_isAskedFor 29 = .ok (.ireturn, 1) := by decide +kernel
theorem dX0_act_0 : decode cX0_act 0 = .ok (.aload_n 0, 1) := by decide +kernel
theorem dX0_act_1 : decode cX0_act 1 = .ok (.getfield 61, 3) := by decide +kernel
theorem dX0_act_4 : decode cX0_act 4 = .ok (.bipush 20, 2) := by decide +kernel
theorem dX0_act_6 : decode cX0_act 6 = .ok (.if_icmp .ge 33, 3) := by decide +kernel
theorem dX0_act_9 : decode cX0_act 9 = .ok (.aload_n 0, 1) := by decide +kernel
theorem dX0_act_10 : decode cX0_act 10 = .ok (.getfield 30, 3) := by decide +kernel
theorem dX0_act_13 : decode cX0_act 13 = .ok (.aload_n 0, 1) := by decide +kernel
theorem dX0_act_14 : decode cX0_act 14 = .ok (.getfield 61, 3) := by decide +kernel
theorem dX0_act_17 : decode cX0_act 17 = .ok (.iload_n 1, 1) := by decide +kernel
theorem dX0_act_18 : decode cX0_act 18 = .ok (.iastore, 1) := by decide +kernel
theorem dX0_act_19 : decode cX0_act 19 = .ok (.aload_n 0, 1) := by decide +kernel
theorem dX0_act_20 : decode cX0_act 20 = .ok (.getfield 33, 3) := by decide +kernel
theorem dX0_act_23 : decode cX0_act 23 = .ok (.aload_n 0, 1) := by decide +kernel
theorem dX0_act_24 : decode cX0_act 24 = .ok (.getfield 61, 3) := by decide +kernel
theorem dX0_act_27 : decode cX0_act 27 = .ok (.iload_n 2, 1) := by decide +kernel
theorem dX0_act_28 : decode cX0_act 28 = .ok (.iastore, 1) := by decide +kernel
theorem dX0_act_29 : decode cX0_act 29 = .ok (.aload_n 0, 1) := by decide +kernel
theorem dX0_act_30 : decode cX0_act 30 = .ok (.dup, 1) := by decide +kernel
theorem dX0_act_31 : decode cX0_act 31 = .ok (.getfield 61, 3) := by decide +kernel
theorem dX0_act_34 : decode cX0_act 34 = .ok (.iconst 1, 1) := by decide +kernel
theorem dX0_act_35 : decode cX0_act 35 = .ok (.iadd, 1) := by decide +kernel
theorem dX0_act_36 : decode cX0_act 36 = .ok (.putfield 61, 3) := by decide +kernel
theorem dX0_act_39 : decode cX0_act 39 = .ok (.return_, 1) := by decide +kernel
theorem dX1_soonestDay_0 : decode cX1_soonestDay 0 = .ok (.aload_n 0, 1) := by decide +kernel
theorem dX1_soonestDay_1 : decode cX1_soonestDay 1 = .ok (.aload_n 1, 1) := by decide +kernel
theorem dX1_soonestDay_2 : decode cX1_soonestDay 2 = .ok (.iload_n 2, 1) := by decide +kernel
theorem dX1_soonestDay_3 : decode cX1_soonestDay 3 = .ok (.invokevirtual 15, 3) := by decide +kernel
theorem dX1_soonestDay_6 : decode cX1_soonestDay 6 = .ok (.istore_n 3, 1) := by decide +kernel
theorem dX1_soonestDay_7 : decode cX1_soonestDay 7 = .ok (.iload_n 3, 1) := by decide +kernel
theorem dX1_soonestDay_8 : decode cX1_soonestDay 8 = .ok (.ifCond .ne 7, 3) := by decide +kernel
theorem dX1_soonestDay_11 : decode cX1_soonestDay 11 = .ok (.iconst (-1), 1) := by decide +kernel
theorem dX1_soonestDay_12 : decode cX1_soonestDay 12 = .ok (.goto 19, 3) := by decide +kernel
theorem dX1_soonestDay_15 : decode cX1_soonestDay 15 = .ok (.aload_n 0, 1) := by decide +kernel
theorem dX1_soonestDay_16 : decode cX1_soonestDay 16 = .ok (.aload_n 1, 1) := by decide +kernel
theorem dX1_soonestDay_17 : decode cX1_soonestDay 17 = .ok (.aload_n 1, 1) := by decide +kernel
theorem dX1_soonestDay_18 : decode cX1_soonestDay 18 = .ok (.aload_n 1, 1) := by decide +kernel
theorem dX1_soonestDay_19 : decode cX1_soonestDay 19 = .ok (.getfield 19, 3) := by decide +kernel
theorem dX1_soonestDay_22 : decode cX1_soonestDay 22 = .ok (.iload_n 2, 1) := by decide +kernel
theorem dX1_soonestDay_23 : decode cX1_soonestDay 23 = .ok (.iaload, 1) := by decide +kernel
theorem dX1_soonestDay_24 : decode cX1_soonestDay 24 = .ok (.invokevirtual 24, 3) := by decide +kernel
theorem dX1_soonestDay_27 : decode cX1_soonestDay 27 = .ok (.iload_n 3, 1) := by decide +kernel
theorem dX1_soonestDay_28 : decode cX1_soonestDay 28 = .ok (.invokevirtual 28, 3) := by decide +kernel
theorem dX1_soonestDay_31 : decode cX1_soonestDay 31 = .ok (.ireturn, 1) := by decide +kernel
theorem dX1_latestDay_0 : decode cX1_latestDay 0 = .ok (.aload_n 0, 1) := by decide +kernel
theorem dX1_latestDay_1 : decode cX1_latestDay 1 = .ok (.aload_n 1, 1) := by decide +kernel
theorem dX1_latestDay_2 : decode cX1_latestDay 2 = .ok (.iload_n 2, 1) := by decide +kernel
theorem dX1_latestDay_3 : decode cX1_latestDay 3 = .ok (.invokevirtual 32, 3) := by decide +kernel
theorem dX1_latestDay_6 : decode cX1_latestDay 6 = .ok (.istore_n 3, 1) := by decide +kernel
theorem dX1_latestDay_7 : decode cX1_latestDay 7 = .ok (.iload_n 3, 1) := by decide +kernel
theorem dX1_latestDay_8 : decode cX1_latestDay 8 = .ok (.iconst (-1), 1) := by decide +kernel
theorem dX1_latestDay_9 : decode cX1_latestDay 9 = .ok (.if_icmp .ne 5, 3) := by decide +kernel
theorem dX1_latestDay_12 : decode cX1_latestDay 12 = .ok (.iconst (-1), 1) := by decide +kernel
theorem dX1_latestDay_13 : decode cX1_latestDay 13 = .ok (.ireturn, 1) := by decide +kernel
theorem dX1_latestDay_14 : decode cX1_latestDay 14 = .ok (.aload_n 1, 1) := by decide +kernel
theorem dX1_latestDay_15 : decode cX1_latestDay 15 = .ok (.aload_n 1, 1) := by decide +kernel
theorem dX1_latestDay_16 : decode cX1_latestDay 16 = .ok (.getfield 19, 3) := by decide +kernel
theorem dX1_latestDay_19 : decode cX1_latestDay 19 = .ok (.iload_n 2, 1) := by decide +kernel
theorem dX1_latestDay_20 : decode cX1_latestDay 20 = .ok (.iaload, 1) := by decide +kernel
theorem dX1_latestDay_21 : decode cX1_latestDay 21 = .ok (.invokevirtual 24, 3) := by decide +kernel
theorem dX1_latestDay_24 : decode cX1_latestDay 24 = .ok (.istore 4, 2) := by decide +kernel
theorem dX1_latestDay_26 : decode cX1_latestDay 26 = .ok (.iload_n 3, 1) := by decide +kernel
theorem dX1_latestDay_27 : decode cX1_latestDay 27 = .ok (.istore 5, 2) := by decide +kernel
theorem dX1_latestDay_29 : decode cX1_latestDay 29 = .ok (.iload_n 3, 1) := by decide +kernel
theorem dX1_latestDay_30 : decode cX1_latestDay 30 = .ok (.istore 6, 2) := by decide +kernel
theorem dX1_latestDay_32 : decode cX1_latestDay 32 = .ok (.iload 6, 2) := by decide +kernel
theorem dX1_latestDay_34 : decode cX1_latestDay 34 = .ok (.aload_n 1, 1) := by decide +kernel
theorem dX1_latestDay_35 : decode cX1_latestDay 35 = .ok (.getfield 35, 3) := by decide +kernel
theorem dX1_latestDay_38 : decode cX1_latestDay 38 = .ok (.if_icmp .ge 23, 3) := by decide +kernel
theorem dX1_latestDay_41 : decode cX1_latestDay 41 = .ok (.iload 4, 2) := by decide +kernel
theorem dX1_latestDay_43 : decode cX1_latestDay 43 = .ok (.iload 6, 2) := by decide +kernel
theorem dX1_latestDay_45 : decode cX1_latestDay 45 = .ok (.invokestatic 39, 3) := by decide +kernel
theorem dX1_latestDay_48 : decode cX1_latestDay 48 = .ok (.ifCond .eq 7, 3) := by decide +kernel
theorem dX1_latestDay_51 : decode cX1_latestDay 51 = .ok (.iload 6, 2) := by decide +kernel
theorem dX1_latestDay_53 : decode cX1_latestDay 53 = .ok (.istore 5, 2) := by decide +kernel
theorem dX1_latestDay_55 : decode cX1_latestDay 55 = .ok (.iinc 6 1, 3) := by decide +kernel
theorem dX1_latestDay_58 : decode cX1_latestDay 58 = .ok (.goto (-26), 3) := by decide +kernel
theorem dX1_latestDay_61 : decode cX1_latestDay 61 = .ok (.iload 5, 2) := by decide +kernel
theorem dX1_latestDay_63 : decode cX1_latestDay 63 = .ok (.ireturn, 1) := by decide +kernel
theorem dX1_fewestToStop_0 : decode cX1_fewestToStop 0 = .ok (.aload_n 0, 1) := by decide +kernel
theorem dX1_fewestToStop_1 : decode cX1_fewestToStop 1 = .ok (.aload_n 1, 1) := by decide +kernel
theorem dX1_fewestToStop_2 : decode cX1_fewestToStop 2 = .ok (.iload_n 2, 1) := by decide +kernel
theorem dX1_fewestToStop_3 : decode cX1_fewestToStop 3 = .ok (.invokevirtual 43, 3) := by decide +kernel
theorem dX1_fewestToStop_6 : decode cX1_fewestToStop 6 = .ok (.bipush 14, 2) := by decide +kernel
theorem dX1_fewestToStop_8 : decode cX1_fewestToStop 8 = .ok (.ishr, 1) := by decide +kernel
theorem dX1_fewestToStop_9 : decode cX1_fewestToStop 9 = .ok (.ireturn, 1) := by decide +kernel
theorem dX1_daysToStop_0 : decode cX1_daysToStop 0 = .ok (.aload_n 0, 1) := by decide +kernel
theorem dX1_daysToStop_1 : decode cX1_daysToStop 1 = .ok (.aload_n 1, 1) := by decide +kernel
theorem dX1_daysToStop_2 : decode cX1_daysToStop 2 = .ok (.iload_n 2, 1) := by decide +kernel
theorem dX1_daysToStop_3 : decode cX1_daysToStop 3 = .ok (.invokevirtual 43, 3) := by decide +kernel
theorem dX1_daysToStop_6 : decode cX1_daysToStop 6 = .ok (.sipush 16383, 3) := by decide +kernel
theorem dX1_daysToStop_9 : decode cX1_daysToStop 9 = .ok (.iand, 1) := by decide +kernel
theorem dX1_daysToStop_10 : decode cX1_daysToStop 10 = .ok (.ireturn, 1) := by decide +kernel
theorem dX1_lengthOf_0 : decode cX1_lengthOf 0 = .ok (.aload_n 1, 1) := by decide +kernel
theorem dX1_lengthOf_1 : decode cX1_lengthOf 1 = .ok (.iload_n 2, 1) := by decide +kernel
theorem dX1_lengthOf_2 : decode cX1_lengthOf 2 = .ok (.invokevirtual 46, 3) := by decide +kernel
theorem dX1_lengthOf_5 : decode cX1_lengthOf 5 = .ok (.istore_n 3, 1) := by decide +kernel
theorem dX1_lengthOf_6 : decode cX1_lengthOf 6 = .ok (.aload_n 1, 1) := by decide +kernel
theorem dX1_lengthOf_7 : decode cX1_lengthOf 7 = .ok (.aload_n 1, 1) := by decide +kernel
theorem dX1_lengthOf_8 : decode cX1_lengthOf 8 = .ok (.getfield 19, 3) := by decide +kernel
theorem dX1_lengthOf_11 : decode cX1_lengthOf 11 = .ok (.iload_n 2, 1) := by decide +kernel
theorem dX1_lengthOf_12 : decode cX1_lengthOf 12 = .ok (.iaload, 1) := by decide +kernel
theorem dX1_lengthOf_13 : decode cX1_lengthOf 13 = .ok (.invokevirtual 49, 3) := by decide +kernel
theorem dX1_lengthOf_16 : decode cX1_lengthOf 16 = .ok (.istore 4, 2) := by decide +kernel
theorem dX1_lengthOf_18 : decode cX1_lengthOf 18 = .ok (.iload_n 3, 1) := by decide +kernel
theorem dX1_lengthOf_19 : decode cX1_lengthOf 19 = .ok (.iload 4, 2) := by decide +kernel
theorem dX1_lengthOf_21 : decode cX1_lengthOf 21 = .ok (.iand, 1) := by decide +kernel
theorem dX1_lengthOf_22 : decode cX1_lengthOf 22 = .ok (.iload_n 3, 1) := by decide +kernel
theorem dX1_lengthOf_23 : decode cX1_lengthOf 23 = .ok (.if_icmp .ne 12, 3) := by decide +kernel
theorem dX1_lengthOf_26 : decode cX1_lengthOf 26 = .ok (.iload_n 3, 1) := by decide +kernel
theorem dX1_lengthOf_27 : decode cX1_lengthOf 27 = .ok (.invokestatic 52, 3) := by decide +kernel
theorem dX1_lengthOf_30 : decode cX1_lengthOf 30 = .ok (.iconst 1, 1) := by decide +kernel
theorem dX1_lengthOf_31 : decode cX1_lengthOf 31 = .ok (.iadd, 1) := by decide +kernel
theorem dX1_lengthOf_32 : decode cX1_lengthOf 32 = .ok (.goto 4, 3) := by decide +kernel
theorem dX1_lengthOf_35 : decode cX1_lengthOf 35 = .ok (.iconst 0, 1) := by decide +kernel
theorem dX1_lengthOf_36 : decode cX1_lengthOf 36 = .ok (.ireturn, 1) := by decide +kernel
theorem dX1_dayOfPass_0 : decode cX1_dayOfPass 0 = .ok (.aload_n 1, 1) := by decide +kernel
theorem dX1_dayOfPass_1 : decode cX1_dayOfPass 1 = .ok (.invokevirtual 57, 3) := by decide +kernel
theorem dX1_dayOfPass_4 : decode cX1_dayOfPass 4 = .ok (.istore 4, 2) := by decide +kernel
theorem dX1_dayOfPass_6 : decode cX1_dayOfPass 6 = .ok (.iconst 0, 1) := by decide +kernel
theorem dX1_dayOfPass_7 : decode cX1_dayOfPass 7 = .ok (.istore 5, 2) := by decide +kernel
theorem dX1_dayOfPass_9 : decode cX1_dayOfPass 9 = .ok (.iconst 0, 1) := by decide +kernel
theorem dX1_dayOfPass_10 : decode cX1_dayOfPass 10 = .ok (.istore 6, 2) := by decide +kernel
theorem dX1_dayOfPass_12 : decode cX1_dayOfPass 12 = .ok (.iload 6, 2) := by decide +kernel
theorem dX1_dayOfPass_14 : decode cX1_dayOfPass 14 = .ok (.aload_n 1, 1) := by decide +kernel
theorem dX1_dayOfPass_15 : decode cX1_dayOfPass 15 = .ok (.getfield 35, 3) := by decide +kernel
theorem dX1_dayOfPass_18 : decode cX1_dayOfPass 18 = .ok (.if_icmp .ge 46, 3) := by decide +kernel
theorem dX1_dayOfPass_21 : decode cX1_dayOfPass 21 = .ok (.iload 6, 2) := by decide +kernel
theorem dX1_dayOfPass_23 : decode cX1_dayOfPass 23 = .ok (.iload 4, 2) := by decide +kernel
theorem dX1_dayOfPass_25 : decode cX1_dayOfPass 25 = .ok (.if_icmp .lt 33, 3) := by decide +kernel
theorem dX1_dayOfPass_28 : decode cX1_dayOfPass 28 = .ok (.iload_n 2, 1) := by decide +kernel
theorem dX1_dayOfPass_29 : decode cX1_dayOfPass 29 = .ok (.iload 6, 2) := by decide +kernel
theorem dX1_dayOfPass_31 : decode cX1_dayOfPass 31 = .ok (.invokestatic 39, 3) := by decide +kernel
theorem dX1_dayOfPass_34 : decode cX1_dayOfPass 34 = .ok (.ifCond .eq 24, 3) := by decide +kernel
theorem dX1_dayOfPass_37 : decode cX1_dayOfPass 37 = .ok (.iinc 5 1, 3) := by decide +kernel
theorem dX1_dayOfPass_40 : decode cX1_dayOfPass 40 = .ok (.iload 6, 2) := by decide +kernel
theorem dX1_dayOfPass_42 : decode cX1_dayOfPass 42 = .ok (.aload_n 1, 1) := by decide +kernel
theorem dX1_dayOfPass_43 : decode cX1_dayOfPass 43 = .ok (.getfield 61, 3) := by decide +kernel
theorem dX1_dayOfPass_46 : decode cX1_dayOfPass 46 = .ok (.iadd, 1) := by decide +kernel
theorem dX1_dayOfPass_47 : decode cX1_dayOfPass 47 = .ok (.istore 4, 2) := by decide +kernel
theorem dX1_dayOfPass_49 : decode cX1_dayOfPass 49 = .ok (.iload 5, 2) := by decide +kernel
theorem dX1_dayOfPass_51 : decode cX1_dayOfPass 51 = .ok (.iload_n 3, 1) := by decide +kernel
theorem dX1_dayOfPass_52 : decode cX1_dayOfPass 52 = .ok (.if_icmp .ne 6, 3) := by decide +kernel
theorem dX1_dayOfPass_55 : decode cX1_dayOfPass 55 = .ok (.iload 6, 2) := by decide +kernel
theorem dX1_dayOfPass_57 : decode cX1_dayOfPass 57 = .ok (.ireturn, 1) := by decide +kernel
theorem dX1_dayOfPass_58 : decode cX1_dayOfPass 58 = .ok (.iinc 6 1, 3) := by decide +kernel
theorem dX1_dayOfPass_61 : decode cX1_dayOfPass 61 = .ok (.goto (-49), 3) := by decide +kernel
theorem dX1_dayOfPass_64 : decode cX1_dayOfPass 64 = .ok (.iconst (-1), 1) := by decide +kernel
theorem dX1_dayOfPass_65 : decode cX1_dayOfPass 65 = .ok (.ireturn, 1) := by decide +kernel
theorem dX1_leastCost_0 : decode cX1_leastCost 0 = .ok (.aload_n 0, 1) := by decide +kernel
theorem dX1_leastCost_1 : decode cX1_leastCost 1 = .ok (.aload_n 1, 1) := by decide +kernel
theorem dX1_leastCost_2 : decode cX1_leastCost 2 = .ok (.iload_n 2, 1) := by decide +kernel
theorem dX1_leastCost_3 : decode cX1_leastCost 3 = .ok (.invokevirtual 15, 3) := by decide +kernel
theorem dX1_leastCost_6 : decode cX1_leastCost 6 = .ok (.istore_n 3, 1) := by decide +kernel
theorem dX1_leastCost_7 : decode cX1_leastCost 7 = .ok (.iload_n 3, 1) := by decide +kernel
theorem dX1_leastCost_8 : decode cX1_leastCost 8 = .ok (.ifCond .ne 5, 3) := by decide +kernel
theorem dX1_leastCost_11 : decode cX1_leastCost 11 = .ok (.iconst 0, 1) := by decide +kernel
theorem dX1_leastCost_12 : decode cX1_leastCost 12 = .ok (.ireturn, 1) := by decide +kernel
theorem dX1_leastCost_13 : decode cX1_leastCost 13 = .ok (.aload_n 1, 1) := by decide +kernel
theorem dX1_leastCost_14 : decode cX1_leastCost 14 = .ok (.aload_n 1, 1) := by decide +kernel
theorem dX1_leastCost_15 : decode cX1_leastCost 15 = .ok (.getfield 19, 3) := by decide +kernel
theorem dX1_leastCost_18 : decode cX1_leastCost 18 = .ok (.iload_n 2, 1) := by decide +kernel
theorem dX1_leastCost_19 : decode cX1_leastCost 19 = .ok (.iaload, 1) := by decide +kernel
theorem dX1_leastCost_20 : decode cX1_leastCost 20 = .ok (.invokevirtual 24, 3) := by decide +kernel
theorem dX1_leastCost_23 : decode cX1_leastCost 23 = .ok (.istore 4, 2) := by decide +kernel
theorem dX1_leastCost_25 : decode cX1_leastCost 25 = .ok (.iconst 0, 1) := by decide +kernel
theorem dX1_leastCost_26 : decode cX1_leastCost 26 = .ok (.istore 5, 2) := by decide +kernel
theorem dX1_leastCost_28 : decode cX1_leastCost 28 = .ok (.iload 5, 2) := by decide +kernel
theorem dX1_leastCost_30 : decode cX1_leastCost 30 = .ok (.bipush 15, 2) := by decide +kernel
theorem dX1_leastCost_32 : decode cX1_leastCost 32 = .ok (.if_icmp .ge 18, 3) := by decide +kernel
theorem dX1_leastCost_35 : decode cX1_leastCost 35 = .ok (.aload_n 0, 1) := by decide +kernel
theorem dX1_leastCost_36 : decode cX1_leastCost 36 = .ok (.getfield 11, 3) := by decide +kernel
theorem dX1_leastCost_39 : decode cX1_leastCost 39 = .ok (.iload 5, 2) := by decide +kernel
theorem dX1_leastCost_41 : decode cX1_leastCost 41 = .ok (.ldc 64, 2) := by decide +kernel
theorem dX1_leastCost_43 : decode cX1_leastCost 43 = .ok (.iastore, 1) := by decide +kernel
theorem dX1_leastCost_44 : decode cX1_leastCost 44 = .ok (.iinc 5 1, 3) := by decide +kernel
theorem dX1_leastCost_47 : decode cX1_leastCost 47 = .ok (.goto (-19), 3) := by decide +kernel
theorem dX1_leastCost_50 : decode cX1_leastCost 50 = .ok (.iconst 1, 1) := by decide +kernel
theorem dX1_leastCost_51 : decode cX1_leastCost 51 = .ok (.istore 5, 2) := by decide +kernel
theorem dX1_leastCost_53 : decode cX1_leastCost 53 = .ok (.iload 5, 2) := by decide +kernel
theorem dX1_leastCost_55 : decode cX1_leastCost 55 = .ok (.iload_n 3, 1) := by decide +kernel
theorem dX1_leastCost_56 : decode cX1_leastCost 56 = .ok (.if_icmp .gt 129, 3) := by decide +kernel
theorem dX1_leastCost_59 : decode cX1_leastCost 59 = .ok (.iload 5, 2) := by decide +kernel
theorem dX1_leastCost_61 : decode cX1_leastCost 61 = .ok (.bipush 15, 2) := by decide +kernel
theorem dX1_leastCost_63 : decode cX1_leastCost 63 = .ok (.imul, 1) := by decide +kernel
theorem dX1_leastCost_64 : decode cX1_leastCost 64 = .ok (.istore 6, 2) := by decide +kernel
theorem dX1_leastCost_66 : decode cX1_leastCost 66 = .ok (.aload_n 0, 1) := by decide +kernel
theorem dX1_leastCost_67 : decode cX1_leastCost 67 = .ok (.getfield 11, 3) := by decide +kernel
theorem dX1_leastCost_70 : decode cX1_leastCost 70 = .ok (.iload 6, 2) := by decide +kernel
theorem dX1_leastCost_72 : decode cX1_leastCost 72 = .ok (.aload_n 1, 1) := by decide +kernel
theorem dX1_leastCost_73 : decode cX1_leastCost 73 = .ok (.getfield 35, 3) := by decide +kernel
theorem dX1_leastCost_76 : decode cX1_leastCost 76 = .ok (.iadd, 1) := by decide +kernel
theorem dX1_leastCost_77 : decode cX1_leastCost 77 = .ok (.iconst 0, 1) := by decide +kernel
theorem dX1_leastCost_78 : decode cX1_leastCost 78 = .ok (.iastore, 1) := by decide +kernel
theorem dX1_leastCost_79 : decode cX1_leastCost 79 = .ok (.aload_n 1, 1) := by decide +kernel
theorem dX1_leastCost_80 : decode cX1_leastCost 80 = .ok (.getfield 35, 3) := by decide +kernel
theorem dX1_leastCost_83 : decode cX1_leastCost 83 = .ok (.iconst 1, 1) := by decide +kernel
theorem dX1_leastCost_84 : decode cX1_leastCost 84 = .ok (.isub, 1) := by decide +kernel
theorem dX1_leastCost_85 : decode cX1_leastCost 85 = .ok (.istore 7, 2) := by decide +kernel
theorem dX1_leastCost_87 : decode cX1_leastCost 87 = .ok (.iload 7, 2) := by decide +kernel
theorem dX1_leastCost_89 : decode cX1_leastCost 89 = .ok (.ifCond .lt 90, 3) := by decide +kernel
theorem dX1_leastCost_92 : decode cX1_leastCost 92 = .ok (.aload_n 0, 1) := by decide +kernel
theorem dX1_leastCost_93 : decode cX1_leastCost 93 = .ok (.getfield 11, 3) := by decide +kernel
theorem dX1_leastCost_96 : decode cX1_leastCost 96 = .ok (.iload 6, 2) := by decide +kernel
theorem dX1_leastCost_98 : decode cX1_leastCost 98 = .ok (.iload 7, 2) := by decide +kernel
theorem dX1_leastCost_100 : decode cX1_leastCost 100 = .ok (.iadd, 1) := by decide +kernel
theorem dX1_leastCost_101 : decode cX1_leastCost 101 = .ok (.iconst 1, 1) := by decide +kernel
theorem dX1_leastCost_102 : decode cX1_leastCost 102 = .ok (.iadd, 1) := by decide +kernel
theorem dX1_leastCost_103 : decode cX1_leastCost 103 = .ok (.iaload, 1) := by decide +kernel
theorem dX1_leastCost_104 : decode cX1_leastCost 104 = .ok (.istore 8, 2) := by decide +kernel
theorem dX1_leastCost_106 : decode cX1_leastCost 106 = .ok (.iload 4, 2) := by decide +kernel
theorem dX1_leastCost_108 : decode cX1_leastCost 108 = .ok (.iload 7, 2) := by decide +kernel
theorem dX1_leastCost_110 : decode cX1_leastCost 110 = .ok (.invokestatic 39, 3) := by decide +kernel
theorem dX1_leastCost_113 : decode cX1_leastCost 113 = .ok (.ifCond .eq 48, 3) := by decide +kernel
theorem dX1_leastCost_116 : decode cX1_leastCost 116 = .ok (.aload_n 0, 1) := by decide +kernel
theorem dX1_leastCost_117 : decode cX1_leastCost 117 = .ok (.getfield 11, 3) := by decide +kernel
theorem dX1_leastCost_120 : decode cX1_leastCost 120 = .ok (.iload 6, 2) := by decide +kernel
theorem dX1_leastCost_122 : decode cX1_leastCost 122 = .ok (.bipush 15, 2) := by decide +kernel
theorem dX1_leastCost_124 : decode cX1_leastCost 124 = .ok (.isub, 1) := by decide +kernel
theorem dX1_leastCost_125 : decode cX1_leastCost 125 = .ok (.aload_n 1, 1) := by decide +kernel
theorem dX1_leastCost_126 : decode cX1_leastCost 126 = .ok (.getfield 35, 3) := by decide +kernel
theorem dX1_leastCost_129 : decode cX1_leastCost 129 = .ok (.iload 7, 2) := by decide +kernel
theorem dX1_leastCost_131 : decode cX1_leastCost 131 = .ok (.aload_n 1, 1) := by decide +kernel
theorem dX1_leastCost_132 : decode cX1_leastCost 132 = .ok (.getfield 61, 3) := by decide +kernel
theorem dX1_leastCost_135 : decode cX1_leastCost 135 = .ok (.iadd, 1) := by decide +kernel
theorem dX1_leastCost_136 : decode cX1_leastCost 136 = .ok (.invokestatic 65, 3) := by decide +kernel
theorem dX1_leastCost_139 : decode cX1_leastCost 139 = .ok (.iadd, 1) := by decide +kernel
theorem dX1_leastCost_140 : decode cX1_leastCost 140 = .ok (.iaload, 1) := by decide +kernel
theorem dX1_leastCost_141 : decode cX1_leastCost 141 = .ok (.istore 9, 2) := by decide +kernel
theorem dX1_leastCost_143 : decode cX1_leastCost 143 = .ok (.iload 9, 2) := by decide +kernel
theorem dX1_leastCost_145 : decode cX1_leastCost 145 = .ok (.iload 8, 2) := by decide +kernel
theorem dX1_leastCost_147 : decode cX1_leastCost 147 = .ok (.sipush 16384, 3) := by decide +kernel
theorem dX1_leastCost_150 : decode cX1_leastCost 150 = .ok (.iconst 1, 1) := by decide +kernel
theorem dX1_leastCost_151 : decode cX1_leastCost 151 = .ok (.iload 7, 2) := by decide +kernel
theorem dX1_leastCost_153 : decode cX1_leastCost 153 = .ok (.ishl, 1) := by decide +kernel
theorem dX1_leastCost_154 : decode cX1_leastCost 154 = .ok (.ior, 1) := by decide +kernel
theorem dX1_leastCost_155 : decode cX1_leastCost 155 = .ok (.iadd, 1) := by decide +kernel
theorem dX1_leastCost_156 : decode cX1_leastCost 156 = .ok (.invokestatic 65, 3) := by decide +kernel
theorem dX1_leastCost_159 : decode cX1_leastCost 159 = .ok (.istore 8, 2) := by decide +kernel
theorem dX1_leastCost_161 : decode cX1_leastCost 161 = .ok (.aload_n 0, 1) := by decide +kernel
theorem dX1_leastCost_162 : decode cX1_leastCost 162 = .ok (.getfield 11, 3) := by decide +kernel
theorem dX1_leastCost_165 : decode cX1_leastCost 165 = .ok (.iload 6, 2) := by decide +kernel
theorem dX1_leastCost_167 : decode cX1_leastCost 167 = .ok (.iload 7, 2) := by decide +kernel
theorem dX1_leastCost_169 : decode cX1_leastCost 169 = .ok (.iadd, 1) := by decide +kernel
theorem dX1_leastCost_170 : decode cX1_leastCost 170 = .ok (.iload 8, 2) := by decide +kernel
theorem dX1_leastCost_172 : decode cX1_leastCost 172 = .ok (.iastore, 1) := by decide +kernel
theorem dX1_leastCost_173 : decode cX1_leastCost 173 = .ok (.iinc 7 (-1), 3) := by decide +kernel
theorem dX1_leastCost_176 : decode cX1_leastCost 176 = .ok (.goto (-89), 3) := by decide +kernel
theorem dX1_leastCost_179 : decode cX1_leastCost 179 = .ok (.iinc 5 1, 3) := by decide +kernel
theorem dX1_leastCost_182 : decode cX1_leastCost 182 = .ok (.goto (-129), 3) := by decide +kernel
theorem dX1_leastCost_185 : decode cX1_leastCost 185 = .ok (.aload_n 0, 1) := by decide +kernel
theorem dX1_leastCost_186 : decode cX1_leastCost 186 = .ok (.getfield 11, 3) := by decide +kernel
theorem dX1_leastCost_189 : decode cX1_leastCost 189 = .ok (.iload_n 3, 1) := by decide +kernel
theorem dX1_leastCost_190 : decode cX1_leastCost 190 = .ok (.bipush 15, 2) := by decide +kernel
theorem dX1_leastCost_192 : decode cX1_leastCost 192 = .ok (.imul, 1) := by decide +kernel
theorem dX1_leastCost_193 : decode cX1_leastCost 193 = .ok (.aload_n 1, 1) := by decide +kernel
theorem dX1_leastCost_194 : decode cX1_leastCost 194 = .ok (.invokevirtual 57, 3) := by decide +kernel
theorem dX1_leastCost_197 : decode cX1_leastCost 197 = .ok (.iadd, 1) := by decide +kernel
theorem dX1_leastCost_198 : decode cX1_leastCost 198 = .ok (.iaload, 1) := by decide +kernel
theorem dX1_leastCost_199 : decode cX1_leastCost 199 = .ok (.ireturn, 1) := by decide +kernel
theorem dX2_look_0 : decode cX2_look 0 = .ok (.aload_n 0, 1) := by decide +kernel
theorem dX2_look_1 : decode cX2_look 1 = .ok (.aload_n 1, 1) := by decide +kernel
theorem dX2_look_2 : decode cX2_look 2 = .ok (.aload_n 2, 1) := by decide +kernel
theorem dX2_look_3 : decode cX2_look 3 = .ok (.invokevirtual 15, 3) := by decide +kernel
theorem dX2_look_6 : decode cX2_look 6 = .ok (.ifCond .ne 5, 3) := by decide +kernel
theorem dX2_look_9 : decode cX2_look 9 = .ok (.iconst 0, 1) := by decide +kernel
theorem dX2_look_10 : decode cX2_look 10 = .ok (.ireturn, 1) := by decide +kernel
theorem dX2_look_11 : decode cX2_look 11 = .ok (.aload_n 0, 1) := by decide +kernel
theorem dX2_look_12 : decode cX2_look 12 = .ok (.iconst 0, 1) := by decide +kernel
theorem dX2_look_13 : decode cX2_look 13 = .ok (.putfield 19, 3) := by decide +kernel
theorem dX2_look_16 : decode cX2_look 16 = .ok (.aload_n 0, 1) := by decide +kernel
theorem dX2_look_17 : decode cX2_look 17 = .ok (.iconst 0, 1) := by decide +kernel
theorem dX2_look_18 : decode cX2_look 18 = .ok (.putfield 23, 3) := by decide +kernel
theorem dX2_look_21 : decode cX2_look 21 = .ok (.aload_n 0, 1) := by decide +kernel
theorem dX2_look_22 : decode cX2_look 22 = .ok (.iconst 0, 1) := by decide +kernel
theorem dX2_look_23 : decode cX2_look 23 = .ok (.putfield 26, 3) := by decide +kernel
theorem dX2_look_26 : decode cX2_look 26 = .ok (.aload_n 0, 1) := by decide +kernel
theorem dX2_look_27 : decode cX2_look 27 = .ok (.iconst (-1), 1) := by decide +kernel
theorem dX2_look_28 : decode cX2_look 28 = .ok (.putfield 29, 3) := by decide +kernel
theorem dX2_look_31 : decode cX2_look 31 = .ok (.iconst 0, 1) := by decide +kernel
theorem dX2_look_32 : decode cX2_look 32 = .ok (.istore_n 3, 1) := by decide +kernel
theorem dX2_look_33 : decode cX2_look 33 = .ok (.iload_n 3, 1) := by decide +kernel
theorem dX2_look_34 : decode cX2_look 34 = .ok (.bipush 14, 2) := by decide +kernel
theorem dX2_look_36 : decode cX2_look 36 = .ok (.if_icmp .ge 16, 3) := by decide +kernel
theorem dX2_look_39 : decode cX2_look 39 = .ok (.aload_n 0, 1) := by decide +kernel
theorem dX2_look_40 : decode cX2_look 40 = .ok (.getfield 9, 3) := by decide +kernel
theorem dX2_look_43 : decode cX2_look 43 = .ok (.iload_n 3, 1) := by decide +kernel
theorem dX2_look_44 : decode cX2_look 44 = .ok (.iconst 0, 1) := by decide +kernel
theorem dX2_look_45 : decode cX2_look 45 = .ok (.iastore, 1) := by decide +kernel
theorem dX2_look_46 : decode cX2_look 46 = .ok (.iinc 3 1, 3) := by decide +kernel
theorem dX2_look_49 : decode cX2_look 49 = .ok (.goto (-16), 3) := by decide +kernel
theorem dX2_look_52 : decode cX2_look 52 = .ok (.iconst 0, 1) := by decide +kernel
theorem dX2_look_53 : decode cX2_look 53 = .ok (.istore_n 3, 1) := by decide +kernel
theorem dX2_look_54 : decode cX2_look 54 = .ok (.iload_n 3, 1) := by decide +kernel
theorem dX2_look_55 : decode cX2_look 55 = .ok (.bipush 9, 2) := by decide +kernel
theorem dX2_look_57 : decode cX2_look 57 = .ok (.if_icmp .gt 35, 3) := by decide +kernel
theorem dX2_look_60 : decode cX2_look 60 = .ok (.iconst (-1), 1) := by decide +kernel
theorem dX2_look_61 : decode cX2_look 61 = .ok (.istore 4, 2) := by decide +kernel
theorem dX2_look_63 : decode cX2_look 63 = .ok (.iload 4, 2) := by decide +kernel
theorem dX2_look_65 : decode cX2_look 65 = .ok (.aload_n 1, 1) := by decide +kernel
theorem dX2_look_66 : decode cX2_look 66 = .ok (.getfield 32, 3) := by decide +kernel
theorem dX2_look_69 : decode cX2_look 69 = .ok (.if_icmp .ge 17, 3) := by decide +kernel
theorem dX2_look_72 : decode cX2_look 72 = .ok (.aload_n 0, 1) := by decide +kernel
theorem dX2_look_73 : decode cX2_look 73 = .ok (.aload_n 1, 1) := by decide +kernel
theorem dX2_look_74 : decode cX2_look 74 = .ok (.iload_n 3, 1) := by decide +kernel
theorem dX2_look_75 : decode cX2_look 75 = .ok (.iload 4, 2) := by decide +kernel
theorem dX2_look_77 : decode cX2_look 77 = .ok (.invokevirtual 37, 3) := by decide +kernel
theorem dX2_look_80 : decode cX2_look 80 = .ok (.iinc 4 1, 3) := by decide +kernel
theorem dX2_look_83 : decode cX2_look 83 = .ok (.goto (-20), 3) := by decide +kernel
theorem dX2_look_86 : decode cX2_look 86 = .ok (.iinc 3 1, 3) := by decide +kernel
theorem dX2_look_89 : decode cX2_look 89 = .ok (.goto (-35), 3) := by decide +kernel
theorem dX2_look_92 : decode cX2_look 92 = .ok (.iconst 1, 1) := by decide +kernel
theorem dX2_look_93 : decode cX2_look 93 = .ok (.ireturn, 1) := by decide +kernel
theorem dX2_readRow_0 : decode cX2_readRow 0 = .ok (.aload_n 0, 1) := by decide +kernel
theorem dX2_readRow_1 : decode cX2_readRow 1 = .ok (.iconst 0, 1) := by decide +kernel
theorem dX2_readRow_2 : decode cX2_readRow 2 = .ok (.putfield 41, 3) := by decide +kernel
theorem dX2_readRow_5 : decode cX2_readRow 5 = .ok (.aload_n 0, 1) := by decide +kernel
theorem dX2_readRow_6 : decode cX2_readRow 6 = .ok (.iconst 0, 1) := by decide +kernel
theorem dX2_readRow_7 : decode cX2_readRow 7 = .ok (.putfield 44, 3) := by decide +kernel
theorem dX2_readRow_10 : decode cX2_readRow 10 = .ok (.aload_n 2, 1) := by decide +kernel
theorem dX2_readRow_11 : decode cX2_readRow 11 = .ok (.getfield 47, 3) := by decide +kernel
theorem dX2_readRow_14 : decode cX2_readRow 14 = .ok (.iconst 2, 1) := by decide +kernel
theorem dX2_readRow_15 : decode cX2_readRow 15 = .ok (.irem, 1) := by decide +kernel
theorem dX2_readRow_16 : decode cX2_readRow 16 = .ok (.ifCond .eq 5, 3) := by decide +kernel
theorem dX2_readRow_19 : decode cX2_readRow 19 = .ok (.iconst 0, 1) := by decide +kernel
theorem dX2_readRow_20 : decode cX2_readRow 20 = .ok (.ireturn, 1) := by decide +kernel
theorem dX2_readRow_21 : decode cX2_readRow 21 = .ok (.iconst 0, 1) := by decide +kernel
theorem dX2_readRow_22 : decode cX2_readRow 22 = .ok (.istore_n 3, 1) := by decide +kernel
theorem dX2_readRow_23 : decode cX2_readRow 23 = .ok (.iload_n 3, 1) := by decide +kernel
theorem dX2_readRow_24 : decode cX2_readRow 24 = .ok (.iconst 1, 1) := by decide +kernel
theorem dX2_readRow_25 : decode cX2_readRow 25 = .ok (.iadd, 1) := by decide +kernel
theorem dX2_readRow_26 : decode cX2_readRow 26 = .ok (.aload_n 2, 1) := by decide +kernel
theorem dX2_readRow_27 : decode cX2_readRow 27 = .ok (.getfield 47, 3) := by decide +kernel
theorem dX2_readRow_30 : decode cX2_readRow 30 = .ok (.if_icmp .ge 99, 3) := by decide +kernel
theorem dX2_readRow_33 : decode cX2_readRow 33 = .ok (.aload_n 2, 1) := by decide +kernel
theorem dX2_readRow_34 : decode cX2_readRow 34 = .ok (.getfield 52, 3) := by decide +kernel
theorem dX2_readRow_37 : decode cX2_readRow 37 = .ok (.iload_n 3, 1) := by decide +kernel
theorem dX2_readRow_38 : decode cX2_readRow 38 = .ok (.laload, 1) := by decide +kernel
theorem dX2_readRow_39 : decode cX2_readRow 39 = .ok (.lstore 4, 2) := by decide +kernel
theorem dX2_readRow_41 : decode cX2_readRow 41 = .ok (.aload_n 2, 1) := by decide +kernel
theorem dX2_readRow_42 : decode cX2_readRow 42 = .ok (.getfield 52, 3) := by decide +kernel
theorem dX2_readRow_45 : decode cX2_readRow 45 = .ok (.iload_n 3, 1) := by decide +kernel
theorem dX2_readRow_46 : decode cX2_readRow 46 = .ok (.iconst 1, 1) := by decide +kernel
theorem dX2_readRow_47 : decode cX2_readRow 47 = .ok (.iadd, 1) := by decide +kernel
theorem dX2_readRow_48 : decode cX2_readRow 48 = .ok (.laload, 1) := by decide +kernel
theorem dX2_readRow_49 : decode cX2_readRow 49 = .ok (.lstore 6, 2) := by decide +kernel
theorem dX2_readRow_51 : decode cX2_readRow 51 = .ok (.lload 4, 2) := by decide +kernel
theorem dX2_readRow_53 : decode cX2_readRow 53 = .ok (.lconst 0, 1) := by decide +kernel
theorem dX2_readRow_54 : decode cX2_readRow 54 = .ok (.lcmp, 1) := by decide +kernel
theorem dX2_readRow_55 : decode cX2_readRow 55 = .ok (.ifCond .lt 28, 3) := by decide +kernel
theorem dX2_readRow_58 : decode cX2_readRow 58 = .ok (.lload 4, 2) := by decide +kernel
theorem dX2_readRow_60 : decode cX2_readRow 60 = .ok (.aload_n 1, 1) := by decide +kernel
theorem dX2_readRow_61 : decode cX2_readRow 61 = .ok (.getfield 32, 3) := by decide +kernel
theorem dX2_readRow_64 : decode cX2_readRow 64 = .ok (.i2l, 1) := by decide +kernel
theorem dX2_readRow_65 : decode cX2_readRow 65 = .ok (.lcmp, 1) := by decide +kernel
theorem dX2_readRow_66 : decode cX2_readRow 66 = .ok (.ifCond .ge 17, 3) := by decide +kernel
theorem dX2_readRow_69 : decode cX2_readRow 69 = .ok (.lload 6, 2) := by decide +kernel
theorem dX2_readRow_71 : decode cX2_readRow 71 = .ok (.lconst 0, 1) := by decide +kernel
theorem dX2_readRow_72 : decode cX2_readRow 72 = .ok (.lcmp, 1) := by decide +kernel
theorem dX2_readRow_73 : decode cX2_readRow 73 = .ok (.ifCond .lt 10, 3) := by decide +kernel
theorem dX2_readRow_76 : decode cX2_readRow 76 = .ok (.lload 6, 2) := by decide +kernel
theorem dX2_readRow_78 : decode cX2_readRow 78 = .ok (.lconst 1, 1) := by decide +kernel
theorem dX2_readRow_79 : decode cX2_readRow 79 = .ok (.lcmp, 1) := by decide +kernel
theorem dX2_readRow_80 : decode cX2_readRow 80 = .ok (.ifCond .le 5, 3) := by decide +kernel
theorem dX2_readRow_83 : decode cX2_readRow 83 = .ok (.iconst 0, 1) := by decide +kernel
theorem dX2_readRow_84 : decode cX2_readRow 84 = .ok (.ireturn, 1) := by decide +kernel
theorem dX2_readRow_85 : decode cX2_readRow 85 = .ok (.lload 6, 2) := by decide +kernel
theorem dX2_readRow_87 : decode cX2_readRow 87 = .ok (.lconst 1, 1) := by decide +kernel
theorem dX2_readRow_88 : decode cX2_readRow 88 = .ok (.lcmp, 1) := by decide +kernel
theorem dX2_readRow_89 : decode cX2_readRow 89 = .ok (.ifCond .ne 20, 3) := by decide +kernel
theorem dX2_readRow_92 : decode cX2_readRow 92 = .ok (.aload_n 0, 1) := by decide +kernel
theorem dX2_readRow_93 : decode cX2_readRow 93 = .ok (.dup, 1) := by decide +kernel
theorem dX2_readRow_94 : decode cX2_readRow 94 = .ok (.getfield 41, 3) := by decide +kernel
theorem dX2_readRow_97 : decode cX2_readRow 97 = .ok (.iconst 1, 1) := by decide +kernel
theorem dX2_readRow_98 : decode cX2_readRow 98 = .ok (.lload 4, 2) := by decide +kernel
theorem dX2_readRow_100 : decode cX2_readRow 100 = .ok (.l2i, 1) := by decide +kernel
theorem dX2_readRow_101 : decode cX2_readRow 101 = .ok (.ishl, 1) := by decide +kernel
theorem dX2_readRow_102 : decode cX2_readRow 102 = .ok (.ior, 1) := by decide +kernel
theorem dX2_readRow_103 : decode cX2_readRow 103 = .ok (.putfield 41, 3) := by decide +kernel
theorem dX2_readRow_106 : decode cX2_readRow 106 = .ok (.goto 17, 3) := by decide +kernel
theorem dX2_readRow_109 : decode cX2_readRow 109 = .ok (.aload_n 0, 1) := by decide +kernel
theorem dX2_readRow_110 : decode cX2_readRow 110 = .ok (.dup, 1) := by decide +kernel
theorem dX2_readRow_111 : decode cX2_readRow 111 = .ok (.getfield 44, 3) := by decide +kernel
theorem dX2_readRow_114 : decode cX2_readRow 114 = .ok (.iconst 1, 1) := by decide +kernel
theorem dX2_readRow_115 : decode cX2_readRow 115 = .ok (.lload 4, 2) := by decide +kernel
theorem dX2_readRow_117 : decode cX2_readRow 117 = .ok (.l2i, 1) := by decide +kernel
theorem dX2_readRow_118 : decode cX2_readRow 118 = .ok (.ishl, 1) := by decide +kernel
theorem dX2_readRow_119 : decode cX2_readRow 119 = .ok (.ior, 1) := by decide +kernel
theorem dX2_readRow_120 : decode cX2_readRow 120 = .ok (.putfield 44, 3) := by decide +kernel
theorem dX2_readRow_123 : decode cX2_readRow 123 = .ok (.iinc 3 2, 3) := by decide +kernel
theorem dX2_readRow_126 : decode cX2_readRow 126 = .ok (.goto (-103), 3) := by decide +kernel
theorem dX2_readRow_129 : decode cX2_readRow 129 = .ok (.iconst 1, 1) := by decide +kernel
theorem dX2_readRow_130 : decode cX2_readRow 130 = .ok (.ireturn, 1) := by decide +kernel
theorem dX2_weigh_0 : decode cX2_weigh 0 = .ok (.aload_n 1, 1) := by decide +kernel
theorem dX2_weigh_1 : decode cX2_weigh 1 = .ok (.iload_n 2, 1) := by decide +kernel
theorem dX2_weigh_2 : decode cX2_weigh 2 = .ok (.iload_n 3, 1) := by decide +kernel
theorem dX2_weigh_3 : decode cX2_weigh 3 = .ok (.invokestatic 56, 3) := by decide +kernel
theorem dX2_weigh_6 : decode cX2_weigh 6 = .ok (.istore 4, 2) := by decide +kernel
theorem dX2_weigh_8 : decode cX2_weigh 8 = .ok (.iload 4, 2) := by decide +kernel
theorem dX2_weigh_10 : decode cX2_weigh 10 = .ok (.aload_n 0, 1) := by decide +kernel
theorem dX2_weigh_11 : decode cX2_weigh 11 = .ok (.getfield 41, 3) := by decide +kernel
theorem dX2_weigh_14 : decode cX2_weigh 14 = .ok (.iand, 1) := by decide +kernel
theorem dX2_weigh_15 : decode cX2_weigh 15 = .ok (.aload_n 0, 1) := by decide +kernel
theorem dX2_weigh_16 : decode cX2_weigh 16 = .ok (.getfield 41, 3) := by decide +kernel
theorem dX2_weigh_19 : decode cX2_weigh 19 = .ok (.if_icmp .ne 13, 3) := by decide +kernel
theorem dX2_weigh_22 : decode cX2_weigh 22 = .ok (.iload 4, 2) := by decide +kernel
theorem dX2_weigh_24 : decode cX2_weigh 24 = .ok (.aload_n 0, 1) := by decide +kernel
theorem dX2_weigh_25 : decode cX2_weigh 25 = .ok (.getfield 44, 3) := by decide +kernel
theorem dX2_weigh_28 : decode cX2_weigh 28 = .ok (.iand, 1) := by decide +kernel
theorem dX2_weigh_29 : decode cX2_weigh 29 = .ok (.ifCond .eq 4, 3) := by decide +kernel
theorem dX2_weigh_32 : decode cX2_weigh 32 = .ok (.return_, 1) := by decide +kernel
theorem dX2_weigh_33 : decode cX2_weigh 33 = .ok (.aload_n 0, 1) := by decide +kernel
theorem dX2_weigh_34 : decode cX2_weigh 34 = .ok (.dup, 1) := by decide +kernel
theorem dX2_weigh_35 : decode cX2_weigh 35 = .ok (.getfield 19, 3) := by decide +kernel
theorem dX2_weigh_38 : decode cX2_weigh 38 = .ok (.iconst 1, 1) := by decide +kernel
theorem dX2_weigh_39 : decode cX2_weigh 39 = .ok (.iadd, 1) := by decide +kernel
theorem dX2_weigh_40 : decode cX2_weigh 40 = .ok (.putfield 19, 3) := by decide +kernel
theorem dX2_weigh_43 : decode cX2_weigh 43 = .ok (.iload_n 3, 1) := by decide +kernel
theorem dX2_weigh_44 : decode cX2_weigh 44 = .ok (.iconst (-1), 1) := by decide +kernel
theorem dX2_weigh_45 : decode cX2_weigh 45 = .ok (.if_icmp .ne 11, 3) := by decide +kernel
theorem dX2_weigh_48 : decode cX2_weigh 48 = .ok (.aload_n 0, 1) := by decide +kernel
theorem dX2_weigh_49 : decode cX2_weigh 49 = .ok (.iconst 1, 1) := by decide +kernel
theorem dX2_weigh_50 : decode cX2_weigh 50 = .ok (.putfield 26, 3) := by decide +kernel
theorem dX2_weigh_53 : decode cX2_weigh 53 = .ok (.goto 15, 3) := by decide +kernel
theorem dX2_weigh_56 : decode cX2_weigh 56 = .ok (.aload_n 0, 1) := by decide +kernel
theorem dX2_weigh_57 : decode cX2_weigh 57 = .ok (.dup, 1) := by decide +kernel
theorem dX2_weigh_58 : decode cX2_weigh 58 = .ok (.getfield 23, 3) := by decide +kernel
theorem dX2_weigh_61 : decode cX2_weigh 61 = .ok (.iconst 1, 1) := by decide +kernel
theorem dX2_weigh_62 : decode cX2_weigh 62 = .ok (.iload_n 3, 1) := by decide +kernel
theorem dX2_weigh_63 : decode cX2_weigh 63 = .ok (.ishl, 1) := by decide +kernel
theorem dX2_weigh_64 : decode cX2_weigh 64 = .ok (.ior, 1) := by decide +kernel
theorem dX2_weigh_65 : decode cX2_weigh 65 = .ok (.putfield 23, 3) := by decide +kernel
theorem dX2_weigh_68 : decode cX2_weigh 68 = .ok (.aload_n 0, 1) := by decide +kernel
theorem dX2_weigh_69 : decode cX2_weigh 69 = .ok (.getfield 29, 3) := by decide +kernel
theorem dX2_weigh_72 : decode cX2_weigh 72 = .ok (.iconst (-1), 1) := by decide +kernel
theorem dX2_weigh_73 : decode cX2_weigh 73 = .ok (.if_icmp .ne 8, 3) := by decide +kernel
theorem dX2_weigh_76 : decode cX2_weigh 76 = .ok (.aload_n 0, 1) := by decide +kernel
theorem dX2_weigh_77 : decode cX2_weigh 77 = .ok (.iload_n 2, 1) := by decide +kernel
theorem dX2_weigh_78 : decode cX2_weigh 78 = .ok (.putfield 29, 3) := by decide +kernel
theorem dX2_weigh_81 : decode cX2_weigh 81 = .ok (.iconst 0, 1) := by decide +kernel
theorem dX2_weigh_82 : decode cX2_weigh 82 = .ok (.istore 5, 2) := by decide +kernel
theorem dX2_weigh_84 : decode cX2_weigh 84 = .ok (.iload 5, 2) := by decide +kernel
theorem dX2_weigh_86 : decode cX2_weigh 86 = .ok (.aload_n 1, 1) := by decide +kernel
theorem dX2_weigh_87 : decode cX2_weigh 87 = .ok (.getfield 32, 3) := by decide +kernel
theorem dX2_weigh_90 : decode cX2_weigh 90 = .ok (.if_icmp .ge 26, 3) := by decide +kernel
theorem dX2_weigh_93 : decode cX2_weigh 93 = .ok (.aload_n 0, 1) := by decide +kernel
theorem dX2_weigh_94 : decode cX2_weigh 94 = .ok (.getfield 9, 3) := by decide +kernel
theorem dX2_weigh_97 : decode cX2_weigh 97 = .ok (.iload 5, 2) := by decide +kernel
theorem dX2_weigh_99 : decode cX2_weigh 99 = .ok (.dup2, 1) := by decide +kernel
theorem dX2_weigh_100 : decode cX2_weigh 100 = .ok (.iaload, 1) := by decide +kernel
theorem dX2_weigh_101 : decode cX2_weigh 101 = .ok (.iload 4, 2) := by decide +kernel
theorem dX2_weigh_103 : decode cX2_weigh 103 = .ok (.iload 5, 2) := by decide +kernel
theorem dX2_weigh_105 : decode cX2_weigh 105 = .ok (.ishr, 1) := by decide +kernel
theorem dX2_weigh_106 : decode cX2_weigh 106 = .ok (.iconst 1, 1) := by decide +kernel
theorem dX2_weigh_107 : decode cX2_weigh 107 = .ok (.iand, 1) := by decide +kernel
theorem dX2_weigh_108 : decode cX2_weigh 108 = .ok (.iadd, 1) := by decide +kernel
theorem dX2_weigh_109 : decode cX2_weigh 109 = .ok (.iastore, 1) := by decide +kernel
theorem dX2_weigh_110 : decode cX2_weigh 110 = .ok (.iinc 5 1, 3) := by decide +kernel
theorem dX2_weigh_113 : decode cX2_weigh 113 = .ok (.goto (-29), 3) := by decide +kernel
theorem dX2_weigh_116 : decode cX2_weigh 116 = .ok (.return_, 1) := by decide +kernel
theorem dX2_eatingDays_0 : decode cX2_eatingDays 0 = .ok (.iconst 0, 1) := by decide +kernel
theorem dX2_eatingDays_1 : decode cX2_eatingDays 1 = .ok (.istore_n 3, 1) := by decide +kernel
theorem dX2_eatingDays_2 : decode cX2_eatingDays 2 = .ok (.iconst 0, 1) := by decide +kernel
theorem dX2_eatingDays_3 : decode cX2_eatingDays 3 = .ok (.istore 4, 2) := by decide +kernel
theorem dX2_eatingDays_5 : decode cX2_eatingDays 5 = .ok (.iload 4, 2) := by decide +kernel
theorem dX2_eatingDays_7 : decode cX2_eatingDays 7 = .ok (.aload_n 0, 1) := by decide +kernel
theorem dX2_eatingDays_8 : decode cX2_eatingDays 8 = .ok (.getfield 32, 3) := by decide +kernel
theorem dX2_eatingDays_11 : decode cX2_eatingDays 11 = .ok (.if_icmp .ge 49, 3) := by decide +kernel
theorem dX2_eatingDays_14 : decode cX2_eatingDays 14 = .ok (.iload_n 2, 1) := by decide +kernel
theorem dX2_eatingDays_15 : decode cX2_eatingDays 15 = .ok (.iconst (-1), 1) := by decide +kernel
theorem dX2_eatingDays_16 : decode cX2_eatingDays 16 = .ok (.if_icmp .eq 9, 3) := by decide +kernel
theorem dX2_eatingDays_19 : decode cX2_eatingDays 19 = .ok (.iload 4, 2) := by decide +kernel
theorem dX2_eatingDays_21 : decode cX2_eatingDays 21 = .ok (.iload_n 2, 1) := by decide +kernel
theorem dX2_eatingDays_22 : decode cX2_eatingDays 22 = .ok (.if_icmp .gt 10, 3) := by decide +kernel
theorem dX2_eatingDays_25 : decode cX2_eatingDays 25 = .ok (.iload_n 1, 1) := by decide +kernel
theorem dX2_eatingDays_26 : decode cX2_eatingDays 26 = .ok (.iload 4, 2) := by decide +kernel
theorem dX2_eatingDays_28 : decode cX2_eatingDays 28 = .ok (.iadd, 1) := by decide +kernel
theorem dX2_eatingDays_29 : decode cX2_eatingDays 29 = .ok (.goto 7, 3) := by decide +kernel
theorem dX2_eatingDays_32 : decode cX2_eatingDays 32 = .ok (.iload 4, 2) := by decide +kernel
theorem dX2_eatingDays_34 : decode cX2_eatingDays 34 = .ok (.iload_n 2, 1) := by decide +kernel
theorem dX2_eatingDays_35 : decode cX2_eatingDays 35 = .ok (.isub, 1) := by decide +kernel
theorem dX2_eatingDays_36 : decode cX2_eatingDays 36 = .ok (.istore 5, 2) := by decide +kernel
theorem dX2_eatingDays_38 : decode cX2_eatingDays 38 = .ok (.iload 5, 2) := by decide +kernel
theorem dX2_eatingDays_40 : decode cX2_eatingDays 40 = .ok (.aload_n 0, 1) := by decide +kernel
theorem dX2_eatingDays_41 : decode cX2_eatingDays 41 = .ok (.getfield 60, 3) := by decide +kernel
theorem dX2_eatingDays_44 : decode cX2_eatingDays 44 = .ok (.if_icmp .lt 10, 3) := by decide +kernel
theorem dX2_eatingDays_47 : decode cX2_eatingDays 47 = .ok (.iload_n 3, 1) := by decide +kernel
theorem dX2_eatingDays_48 : decode cX2_eatingDays 48 = .ok (.iconst 1, 1) := by decide +kernel
theorem dX2_eatingDays_49 : decode cX2_eatingDays 49 = .ok (.iload 4, 2) := by decide +kernel
theorem dX2_eatingDays_51 : decode cX2_eatingDays 51 = .ok (.ishl, 1) := by decide +kernel
theorem dX2_eatingDays_52 : decode cX2_eatingDays 52 = .ok (.ior, 1) := by decide +kernel
theorem dX2_eatingDays_53 : decode cX2_eatingDays 53 = .ok (.istore_n 3, 1) := by decide +kernel
theorem dX2_eatingDays_54 : decode cX2_eatingDays 54 = .ok (.iinc 4 1, 3) := by decide +kernel
theorem dX2_eatingDays_57 : decode cX2_eatingDays 57 = .ok (.goto (-52), 3) := by decide +kernel
theorem dX2_eatingDays_60 : decode cX2_eatingDays 60 = .ok (.iload_n 3, 1) := by decide +kernel
theorem dX2_eatingDays_61 : decode cX2_eatingDays 61 = .ok (.ireturn, 1) := by decide +kernel
theorem dX2_leftAtWorst_0 : decode cX2_leftAtWorst 0 = .ok (.iload_n 1, 1) := by decide +kernel
theorem dX2_leftAtWorst_1 : decode cX2_leftAtWorst 1 = .ok (.ifCond .lt 9, 3) := by decide +kernel
theorem dX2_leftAtWorst_4 : decode cX2_leftAtWorst 4 = .ok (.iload_n 1, 1) := by decide +kernel
theorem dX2_leftAtWorst_5 : decode cX2_leftAtWorst 5 = .ok (.bipush 14, 2) := by decide +kernel
theorem dX2_leftAtWorst_7 : decode cX2_leftAtWorst 7 = .ok (.if_icmp .lt 8, 3) := by decide +kernel
theorem dX2_leftAtWorst_10 : decode cX2_leftAtWorst 10 = .ok (.aload_n 0, 1) := by decide +kernel
theorem dX2_leftAtWorst_11 : decode cX2_leftAtWorst 11 = .ok (.getfield 19, 3) := by decide +kernel
theorem dX2_leftAtWorst_14 : decode cX2_leftAtWorst 14 = .ok (.ireturn, 1) := by decide +kernel
theorem dX2_leftAtWorst_15 : decode cX2_leftAtWorst 15 = .ok (.aload_n 0, 1) := by decide +kernel
theorem dX2_leftAtWorst_16 : decode cX2_leftAtWorst 16 = .ok (.getfield 9, 3) := by decide +kernel
theorem dX2_leftAtWorst_19 : decode cX2_leftAtWorst 19 = .ok (.iload_n 1, 1) := by decide +kernel
theorem dX2_leftAtWorst_20 : decode cX2_leftAtWorst 20 = .ok (.iaload, 1) := by decide +kernel
theorem dX2_leftAtWorst_21 : decode cX2_leftAtWorst 21 = .ok (.aload_n 0, 1) := by decide +kernel
theorem dX2_leftAtWorst_22 : decode cX2_leftAtWorst 22 = .ok (.getfield 19, 3) := by decide +kernel
theorem dX2_leftAtWorst_25 : decode cX2_leftAtWorst 25 = .ok (.aload_n 0, 1) := by decide +kernel
theorem dX2_leftAtWorst_26 : decode cX2_leftAtWorst 26 = .ok (.getfield 9, 3) := by decide +kernel
theorem dX2_leftAtWorst_29 : decode cX2_leftAtWorst 29 = .ok (.iload_n 1, 1) := by decide +kernel
theorem dX2_leftAtWorst_30 : decode cX2_leftAtWorst 30 = .ok (.iaload, 1) := by decide +kernel
theorem dX2_leftAtWorst_31 : decode cX2_leftAtWorst 31 = .ok (.isub, 1) := by decide +kernel
theorem dX2_leftAtWorst_32 : decode cX2_leftAtWorst 32 = .ok (.invokestatic 63, 3) := by decide +kernel
theorem dX2_leftAtWorst_35 : decode cX2_leftAtWorst 35 = .ok (.ireturn, 1) := by decide +kernel
theorem dX2_dayToKnow_0 : decode cX2_dayToKnow 0 = .ok (.iconst (-1), 1) := by decide +kernel
theorem dX2_dayToKnow_1 : decode cX2_dayToKnow 1 = .ok (.istore_n 2, 1) := by decide +kernel
theorem dX2_dayToKnow_2 : decode cX2_dayToKnow 2 = .ok (.aload_n 0, 1) := by decide +kernel
theorem dX2_dayToKnow_3 : decode cX2_dayToKnow 3 = .ok (.getfield 19, 3) := by decide +kernel
theorem dX2_dayToKnow_6 : decode cX2_dayToKnow 6 = .ok (.istore_n 3, 1) := by decide +kernel
theorem dX2_dayToKnow_7 : decode cX2_dayToKnow 7 = .ok (.iconst 0, 1) := by decide +kernel
theorem dX2_dayToKnow_8 : decode cX2_dayToKnow 8 = .ok (.istore 4, 2) := by decide +kernel
theorem dX2_dayToKnow_10 : decode cX2_dayToKnow 10 = .ok (.iload 4, 2) := by decide +kernel
theorem dX2_dayToKnow_12 : decode cX2_dayToKnow 12 = .ok (.iload_n 1, 1) := by decide +kernel
theorem dX2_dayToKnow_13 : decode cX2_dayToKnow 13 = .ok (.if_icmp .ge 29, 3) := by decide +kernel
theorem dX2_dayToKnow_16 : decode cX2_dayToKnow 16 = .ok (.aload_n 0, 1) := by decide +kernel
theorem dX2_dayToKnow_17 : decode cX2_dayToKnow 17 = .ok (.iload 4, 2) := by decide +kernel
theorem dX2_dayToKnow_19 : decode cX2_dayToKnow 19 = .ok (.invokevirtual 69, 3) := by decide +kernel
theorem dX2_dayToKnow_22 : decode cX2_dayToKnow 22 = .ok (.iload_n 3, 1) := by decide +kernel
theorem dX2_dayToKnow_23 : decode cX2_dayToKnow 23 = .ok (.if_icmp .ge 13, 3) := by decide +kernel
theorem dX2_dayToKnow_26 : decode cX2_dayToKnow 26 = .ok (.aload_n 0, 1) := by decide +kernel
theorem dX2_dayToKnow_27 : decode cX2_dayToKnow 27 = .ok (.iload 4, 2) := by decide +kernel
theorem dX2_dayToKnow_29 : decode cX2_dayToKnow 29 = .ok (.invokevirtual 69, 3) := by decide +kernel
theorem dX2_dayToKnow_32 : decode cX2_dayToKnow 32 = .ok (.istore_n 3, 1) := by decide +kernel
theorem dX2_dayToKnow_33 : decode cX2_dayToKnow 33 = .ok (.iload 4, 2) := by decide +kernel
theorem dX2_dayToKnow_35 : decode cX2_dayToKnow 35 = .ok (.istore_n 2, 1) := by decide +kernel
theorem dX2_dayToKnow_36 : decode cX2_dayToKnow 36 = .ok (.iinc 4 1, 3) := by decide +kernel
theorem dX2_dayToKnow_39 : decode cX2_dayToKnow 39 = .ok (.goto (-29), 3) := by decide +kernel
theorem dX2_dayToKnow_42 : decode cX2_dayToKnow 42 = .ok (.iload_n 2, 1) := by decide +kernel
theorem dX2_dayToKnow_43 : decode cX2_dayToKnow 43 = .ok (.ireturn, 1) := by decide +kernel
theorem dX3_billsByWorth_0 : decode cX3_billsByWorth 0 = .ok (.iconst 0, 1) := by decide +kernel
theorem dX3_billsByWorth_1 : decode cX3_billsByWorth 1 = .ok (.istore_n 2, 1) := by decide +kernel
theorem dX3_billsByWorth_2 : decode cX3_billsByWorth 2 = .ok (.iload_n 2, 1) := by decide +kernel
theorem dX3_billsByWorth_3 : decode cX3_billsByWorth 3 = .ok (.aload_n 1, 1) := by decide +kernel
theorem dX3_billsByWorth_4 : decode cX3_billsByWorth 4 = .ok (.getfield 27, 3) := by decide +kernel
theorem dX3_billsByWorth_7 : decode cX3_billsByWorth 7 = .ok (.if_icmp .ge 21, 3) := by decide +kernel
theorem dX3_billsByWorth_10 : decode cX3_billsByWorth 10 = .ok (.aload_n 0, 1) := by decide +kernel
theorem dX3_billsByWorth_11 : decode cX3_billsByWorth 11 = .ok (.getfield 18, 3) := by decide +kernel
theorem dX3_billsByWorth_14 : decode cX3_billsByWorth 14 = .ok (.iload_n 2, 1) := by decide +kernel
theorem dX3_billsByWorth_15 : decode cX3_billsByWorth 15 = .ok (.aload_n 1, 1) := by decide +kernel
theorem dX3_billsByWorth_16 : decode cX3_billsByWorth 16 = .ok (.getfield 33, 3) := by decide +kernel
theorem dX3_billsByWorth_19 : decode cX3_billsByWorth 19 = .ok (.iload_n 2, 1) := by decide +kernel
theorem dX3_billsByWorth_20 : decode cX3_billsByWorth 20 = .ok (.iaload, 1) := by decide +kernel
theorem dX3_billsByWorth_21 : decode cX3_billsByWorth 21 = .ok (.iastore, 1) := by decide +kernel
theorem dX3_billsByWorth_22 : decode cX3_billsByWorth 22 = .ok (.iinc 2 1, 3) := by decide +kernel
theorem dX3_billsByWorth_25 : decode cX3_billsByWorth 25 = .ok (.goto (-23), 3) := by decide +kernel
theorem dX3_billsByWorth_28 : decode cX3_billsByWorth 28 = .ok (.return_, 1) := by decide +kernel
theorem dX3_billsAlike_0 : decode cX3_billsAlike 0 = .ok (.iconst 0, 1) := by decide +kernel
theorem dX3_billsAlike_1 : decode cX3_billsAlike 1 = .ok (.istore_n 2, 1) := by decide +kernel
theorem dX3_billsAlike_2 : decode cX3_billsAlike 2 = .ok (.iload_n 2, 1) := by decide +kernel
theorem dX3_billsAlike_3 : decode cX3_billsAlike 3 = .ok (.aload_n 1, 1) := by decide +kernel
theorem dX3_billsAlike_4 : decode cX3_billsAlike 4 = .ok (.getfield 27, 3) := by decide +kernel
theorem dX3_billsAlike_7 : decode cX3_billsAlike 7 = .ok (.if_icmp .ge 16, 3) := by decide +kernel
theorem dX3_billsAlike_10 : decode cX3_billsAlike 10 = .ok (.aload_n 0, 1) := by decide +kernel
theorem dX3_billsAlike_11 : decode cX3_billsAlike 11 = .ok (.getfield 18, 3) := by decide +kernel
theorem dX3_billsAlike_14 : decode cX3_billsAlike 14 = .ok (.iload_n 2, 1) := by decide +kernel
theorem dX3_billsAlike_15 : decode cX3_billsAlike 15 = .ok (.iconst 1, 1) := by decide +kernel
theorem dX3_billsAlike_16 : decode cX3_billsAlike 16 = .ok (.iastore, 1) := by decide +kernel
theorem dX3_billsAlike_17 : decode cX3_billsAlike 17 = .ok (.iinc 2 1, 3) := by decide +kernel
theorem dX3_billsAlike_20 : decode cX3_billsAlike 20 = .ok (.goto (-18), 3) := by decide +kernel
theorem dX3_billsAlike_23 : decode cX3_billsAlike 23 = .ok (.return_, 1) := by decide +kernel
theorem dX3_solve_0 : decode cX3_solve 0 = .ok (.aload_n 0, 1) := by decide +kernel
theorem dX3_solve_1 : decode cX3_solve 1 = .ok (.aload_n 1, 1) := by decide +kernel
theorem dX3_solve_2 : decode cX3_solve 2 = .ok (.invokevirtual 36, 3) := by decide +kernel
theorem dX3_solve_5 : decode cX3_solve 5 = .ok (.putfield 40, 3) := by decide +kernel
theorem dX3_solve_8 : decode cX3_solve 8 = .ok (.aload_n 0, 1) := by decide +kernel
theorem dX3_solve_9 : decode cX3_solve 9 = .ok (.aload_n 1, 1) := by decide +kernel
theorem dX3_solve_10 : decode cX3_solve 10 = .ok (.getfield 43, 3) := by decide +kernel
theorem dX3_solve_13 : decode cX3_solve 13 = .ok (.putfield 46, 3) := by decide +kernel
theorem dX3_solve_16 : decode cX3_solve 16 = .ok (.aload_n 0, 1) := by decide +kernel
theorem dX3_solve_17 : decode cX3_solve 17 = .ok (.iconst 1, 1) := by decide +kernel
theorem dX3_solve_18 : decode cX3_solve 18 = .ok (.aload_n 1, 1) := by decide +kernel
theorem dX3_solve_19 : decode cX3_solve 19 = .ok (.getfield 47, 3) := by decide +kernel
theorem dX3_solve_22 : decode cX3_solve 22 = .ok (.invokestatic 50, 3) := by decide +kernel
theorem dX3_solve_25 : decode cX3_solve 25 = .ok (.putfield 56, 3) := by decide +kernel
theorem dX3_solve_28 : decode cX3_solve 28 = .ok (.iconst 0, 1) := by decide +kernel
theorem dX3_solve_29 : decode cX3_solve 29 = .ok (.istore 6, 2) := by decide +kernel
theorem dX3_solve_31 : decode cX3_solve 31 = .ok (.iload 6, 2) := by decide +kernel
theorem dX3_solve_33 : decode cX3_solve 33 = .ok (.bipush 14, 2) := by decide +kernel
theorem dX3_solve_35 : decode cX3_solve 35 = .ok (.if_icmp .ge 17, 3) := by decide +kernel
theorem dX3_solve_38 : decode cX3_solve 38 = .ok (.aload_n 0, 1) := by decide +kernel
theorem dX3_solve_39 : decode cX3_solve 39 = .ok (.getfield 24, 3) := by decide +kernel
theorem dX3_solve_42 : decode cX3_solve 42 = .ok (.iload 6, 2) := by decide +kernel
theorem dX3_solve_44 : decode cX3_solve 44 = .ok (.iconst 0, 1) := by decide +kernel
theorem dX3_solve_45 : decode cX3_solve 45 = .ok (.iastore, 1) := by decide +kernel
theorem dX3_solve_46 : decode cX3_solve 46 = .ok (.iinc 6 1, 3) := by decide +kernel
theorem dX3_solve_49 : decode cX3_solve 49 = .ok (.goto (-18), 3) := by decide +kernel
theorem dX3_solve_52 : decode cX3_solve 52 = .ok (.iconst 0, 1) := by decide +kernel
theorem dX3_solve_53 : decode cX3_solve 53 = .ok (.istore 6, 2) := by decide +kernel
theorem dX3_solve_55 : decode cX3_solve 55 = .ok (.iload 6, 2) := by decide +kernel
theorem dX3_solve_57 : decode cX3_solve 57 = .ok (.aload_n 1, 1) := by decide +kernel
theorem dX3_solve_58 : decode cX3_solve 58 = .ok (.getfield 27, 3) := by decide +kernel
theorem dX3_solve_61 : decode cX3_solve 61 = .ok (.if_icmp .ge 94, 3) := by decide +kernel
theorem dX3_solve_64 : decode cX3_solve 64 = .ok (.aload_n 1, 1) := by decide +kernel
theorem dX3_solve_65 : decode cX3_solve 65 = .ok (.getfield 59, 3) := by decide +kernel
theorem dX3_solve_68 : decode cX3_solve 68 = .ok (.iload 6, 2) := by decide +kernel
theorem dX3_solve_70 : decode cX3_solve 70 = .ok (.iaload, 1) := by decide +kernel
theorem dX3_solve_71 : decode cX3_solve 71 = .ok (.istore 7, 2) := by decide +kernel
theorem dX3_solve_73 : decode cX3_solve 73 = .ok (.aload_n 0, 1) := by decide +kernel
theorem dX3_solve_74 : decode cX3_solve 74 = .ok (.getfield 21, 3) := by decide +kernel
theorem dX3_solve_77 : decode cX3_solve 77 = .ok (.iload 6, 2) := by decide +kernel
theorem dX3_solve_79 : decode cX3_solve 79 = .ok (.iload 7, 2) := by decide +kernel
theorem dX3_solve_81 : decode cX3_solve 81 = .ok (.iconst (-1), 1) := by decide +kernel
theorem dX3_solve_82 : decode cX3_solve 82 = .ok (.if_icmp .ne 7, 3) := by decide +kernel
theorem dX3_solve_85 : decode cX3_solve 85 = .ok (.iconst 0, 1) := by decide +kernel
theorem dX3_solve_86 : decode cX3_solve 86 = .ok (.goto 7, 3) := by decide +kernel
theorem dX3_solve_89 : decode cX3_solve 89 = .ok (.iconst 1, 1) := by decide +kernel
theorem dX3_solve_90 : decode cX3_solve 90 = .ok (.iload 7, 2) := by decide +kernel
theorem dX3_solve_92 : decode cX3_solve 92 = .ok (.ishl, 1) := by decide +kernel
theorem dX3_solve_93 : decode cX3_solve 93 = .ok (.iastore, 1) := by decide +kernel
theorem dX3_solve_94 : decode cX3_solve 94 = .ok (.iload_n 2, 1) := by decide +kernel
theorem dX3_solve_95 : decode cX3_solve 95 = .ok (.iload 6, 2) := by decide +kernel
theorem dX3_solve_97 : decode cX3_solve 97 = .ok (.invokestatic 62, 3) := by decide +kernel
theorem dX3_solve_100 : decode cX3_solve 100 = .ok (.ifCond .eq 49, 3) := by decide +kernel
theorem dX3_solve_103 : decode cX3_solve 103 = .ok (.aload_n 1, 1) := by decide +kernel
theorem dX3_solve_104 : decode cX3_solve 104 = .ok (.iload 4, 2) := by decide +kernel
theorem dX3_solve_106 : decode cX3_solve 106 = .ok (.aload_n 1, 1) := by decide +kernel
theorem dX3_solve_107 : decode cX3_solve 107 = .ok (.iconst 1, 1) := by decide +kernel
theorem dX3_solve_108 : decode cX3_solve 108 = .ok (.aload_n 1, 1) := by decide +kernel
theorem dX3_solve_109 : decode cX3_solve 109 = .ok (.getfield 66, 3) := by decide +kernel
theorem dX3_solve_112 : decode cX3_solve 112 = .ok (.iload 6, 2) := by decide +kernel
theorem dX3_solve_114 : decode cX3_solve 114 = .ok (.iaload, 1) := by decide +kernel
theorem dX3_solve_115 : decode cX3_solve 115 = .ok (.isub, 1) := by decide +kernel
theorem dX3_solve_116 : decode cX3_solve 116 = .ok (.invokevirtual 69, 3) := by decide +kernel
theorem dX3_solve_119 : decode cX3_solve 119 = .ok (.iand, 1) := by decide +kernel
theorem dX3_solve_120 : decode cX3_solve 120 = .ok (.invokevirtual 73, 3) := by decide +kernel
theorem dX3_solve_123 : decode cX3_solve 123 = .ok (.istore 8, 2) := by decide +kernel
theorem dX3_solve_125 : decode cX3_solve 125 = .ok (.aload_n 0, 1) := by decide +kernel
theorem dX3_solve_126 : decode cX3_solve 126 = .ok (.iload 6, 2) := by decide +kernel
theorem dX3_solve_128 : decode cX3_solve 128 = .ok (.aload_n 1, 1) := by decide +kernel
theorem dX3_solve_129 : decode cX3_solve 129 = .ok (.invokevirtual 76, 3) := by decide +kernel
theorem dX3_solve_132 : decode cX3_solve 132 = .ok (.iload_n 3, 1) := by decide +kernel
theorem dX3_solve_133 : decode cX3_solve 133 = .ok (.iconst (-1), 1) := by decide +kernel
theorem dX3_solve_134 : decode cX3_solve 134 = .ok (.ixor, 1) := by decide +kernel
theorem dX3_solve_135 : decode cX3_solve 135 = .ok (.iand, 1) := by decide +kernel
theorem dX3_solve_136 : decode cX3_solve 136 = .ok (.iload 8, 2) := by decide +kernel
theorem dX3_solve_138 : decode cX3_solve 138 = .ok (.iconst (-1), 1) := by decide +kernel
theorem dX3_solve_139 : decode cX3_solve 139 = .ok (.ixor, 1) := by decide +kernel
theorem dX3_solve_140 : decode cX3_solve 140 = .ok (.iand, 1) := by decide +kernel
theorem dX3_solve_141 : decode cX3_solve 141 = .ok (.iload 5, 2) := by decide +kernel
theorem dX3_solve_143 : decode cX3_solve 143 = .ok (.iconst (-1), 1) := by decide +kernel
theorem dX3_solve_144 : decode cX3_solve 144 = .ok (.ixor, 1) := by decide +kernel
theorem dX3_solve_145 : decode cX3_solve 145 = .ok (.iand, 1) := by decide +kernel
theorem dX3_solve_146 : decode cX3_solve 146 = .ok (.invokevirtual 79, 3) := by decide +kernel
theorem dX3_solve_149 : decode cX3_solve 149 = .ok (.iinc 6 1, 3) := by decide +kernel
theorem dX3_solve_152 : decode cX3_solve 152 = .ok (.goto (-97), 3) := by decide +kernel
theorem dX3_solve_155 : decode cX3_solve 155 = .ok (.aload_n 0, 1) := by decide +kernel
theorem dX3_solve_156 : decode cX3_solve 156 = .ok (.iload_n 2, 1) := by decide +kernel
theorem dX3_solve_157 : decode cX3_solve 157 = .ok (.invokevirtual 83, 3) := by decide +kernel
theorem dX3_solve_160 : decode cX3_solve 160 = .ok (.aload_n 0, 1) := by decide +kernel
theorem dX3_solve_161 : decode cX3_solve 161 = .ok (.getfield 9, 3) := by decide +kernel
theorem dX3_solve_164 : decode cX3_solve 164 = .ok (.aload_n 0, 1) := by decide +kernel
theorem dX3_solve_165 : decode cX3_solve 165 = .ok (.getfield 40, 3) := by decide +kernel
theorem dX3_solve_168 : decode cX3_solve 168 = .ok (.sipush 256, 3) := by decide +kernel
theorem dX3_solve_171 : decode cX3_solve 171 = .ok (.imul, 1) := by decide +kernel
theorem dX3_solve_172 : decode cX3_solve 172 = .ok (.iaload, 1) := by decide +kernel
theorem dX3_solve_173 : decode cX3_solve 173 = .ok (.ireturn, 1) := by decide +kernel
theorem dX3_openBill_0 : decode cX3_openBill 0 = .ok (.iconst 0, 1) := by decide +kernel
theorem dX3_openBill_1 : decode cX3_openBill 1 = .ok (.istore_n 3, 1) := by decide +kernel
theorem dX3_openBill_2 : decode cX3_openBill 2 = .ok (.iload_n 3, 1) := by decide +kernel
theorem dX3_openBill_3 : decode cX3_openBill 3 = .ok (.bipush 14, 2) := by decide +kernel
theorem dX3_openBill_5 : decode cX3_openBill 5 = .ok (.if_icmp .ge 29, 3) := by decide +kernel
theorem dX3_openBill_8 : decode cX3_openBill 8 = .ok (.iload_n 2, 1) := by decide +kernel
theorem dX3_openBill_9 : decode cX3_openBill 9 = .ok (.iload_n 3, 1) := by decide +kernel
theorem dX3_openBill_10 : decode cX3_openBill 10 = .ok (.invokestatic 62, 3) := by decide +kernel
theorem dX3_openBill_13 : decode cX3_openBill 13 = .ok (.ifCond .eq 15, 3) := by decide +kernel
theorem dX3_openBill_16 : decode cX3_openBill 16 = .ok (.aload_n 0, 1) := by decide +kernel
theorem dX3_openBill_17 : decode cX3_openBill 17 = .ok (.getfield 24, 3) := by decide +kernel
theorem dX3_openBill_20 : decode cX3_openBill 20 = .ok (.iload_n 3, 1) := by decide +kernel
theorem dX3_openBill_21 : decode cX3_openBill 21 = .ok (.dup2, 1) := by decide +kernel
theorem dX3_openBill_22 : decode cX3_openBill 22 = .ok (.iaload, 1) := by decide +kernel
theorem dX3_openBill_23 : decode cX3_openBill 23 = .ok (.iconst 1, 1) := by decide +kernel
theorem dX3_openBill_24 : decode cX3_openBill 24 = .ok (.iload_n 1, 1) := by decide +kernel
theorem dX3_openBill_25 : decode cX3_openBill 25 = .ok (.ishl, 1) := by decide +kernel
theorem dX3_openBill_26 : decode cX3_openBill 26 = .ok (.ior, 1) := by decide +kernel
theorem dX3_openBill_27 : decode cX3_openBill 27 = .ok (.iastore, 1) := by decide +kernel
theorem dX3_openBill_28 : decode cX3_openBill 28 = .ok (.iinc 3 1, 3) := by decide +kernel
theorem dX3_openBill_31 : decode cX3_openBill 31 = .ok (.goto (-29), 3) := by decide +kernel
theorem dX3_openBill_34 : decode cX3_openBill 34 = .ok (.return_, 1) := by decide +kernel
theorem dX3_goBack_0 : decode cX3_goBack 0 = .ok (.iconst 0, 1) := by decide +kernel
theorem dX3_goBack_1 : decode cX3_goBack 1 = .ok (.istore_n 2, 1) := by decide +kernel
theorem dX3_goBack_2 : decode cX3_goBack 2 = .ok (.iload_n 2, 1) := by decide +kernel
theorem dX3_goBack_3 : decode cX3_goBack 3 = .ok (.sipush 256, 3) := by decide +kernel
theorem dX3_goBack_6 : decode cX3_goBack 6 = .ok (.if_icmp .ge 41, 3) := by decide +kernel
theorem dX3_goBack_9 : decode cX3_goBack 9 = .ok (.aload_n 0, 1) := by decide +kernel
theorem dX3_goBack_10 : decode cX3_goBack 10 = .ok (.getfield 9, 3) := by decide +kernel
theorem dX3_goBack_13 : decode cX3_goBack 13 = .ok (.aload_n 0, 1) := by decide +kernel
theorem dX3_goBack_14 : decode cX3_goBack 14 = .ok (.getfield 46, 3) := by decide +kernel
theorem dX3_goBack_17 : decode cX3_goBack 17 = .ok (.sipush 256, 3) := by decide +kernel
theorem dX3_goBack_20 : decode cX3_goBack 20 = .ok (.imul, 1) := by decide +kernel
theorem dX3_goBack_21 : decode cX3_goBack 21 = .ok (.iload_n 2, 1) := by decide +kernel
theorem dX3_goBack_22 : decode cX3_goBack 22 = .ok (.iadd, 1) := by decide +kernel
theorem dX3_goBack_23 : decode cX3_goBack 23 = .ok (.iconst 0, 1) := by decide +kernel
theorem dX3_goBack_24 : decode cX3_goBack 24 = .ok (.iastore, 1) := by decide +kernel
theorem dX3_goBack_25 : decode cX3_goBack 25 = .ok (.aload_n 0, 1) := by decide +kernel
theorem dX3_goBack_26 : decode cX3_goBack 26 = .ok (.getfield 15, 3) := by decide +kernel
theorem dX3_goBack_29 : decode cX3_goBack 29 = .ok (.aload_n 0, 1) := by decide +kernel
theorem dX3_goBack_30 : decode cX3_goBack 30 = .ok (.getfield 46, 3) := by decide +kernel
theorem dX3_goBack_33 : decode cX3_goBack 33 = .ok (.sipush 256, 3) := by decide +kernel
theorem dX3_goBack_36 : decode cX3_goBack 36 = .ok (.imul, 1) := by decide +kernel
theorem dX3_goBack_37 : decode cX3_goBack 37 = .ok (.iload_n 2, 1) := by decide +kernel
theorem dX3_goBack_38 : decode cX3_goBack 38 = .ok (.iadd, 1) := by decide +kernel
theorem dX3_goBack_39 : decode cX3_goBack 39 = .ok (.iconst 1, 1) := by decide +kernel
theorem dX3_goBack_40 : decode cX3_goBack 40 = .ok (.iastore, 1) := by decide +kernel
theorem dX3_goBack_41 : decode cX3_goBack 41 = .ok (.iinc 2 1, 3) := by decide +kernel
theorem dX3_goBack_44 : decode cX3_goBack 44 = .ok (.goto (-42), 3) := by decide +kernel
theorem dX3_goBack_47 : decode cX3_goBack 47 = .ok (.aload_n 0, 1) := by decide +kernel
theorem dX3_goBack_48 : decode cX3_goBack 48 = .ok (.getfield 46, 3) := by decide +kernel
theorem dX3_goBack_51 : decode cX3_goBack 51 = .ok (.iconst 1, 1) := by decide +kernel
theorem dX3_goBack_52 : decode cX3_goBack 52 = .ok (.isub, 1) := by decide +kernel
theorem dX3_goBack_53 : decode cX3_goBack 53 = .ok (.istore_n 2, 1) := by decide +kernel
theorem dX3_goBack_54 : decode cX3_goBack 54 = .ok (.iload_n 2, 1) := by decide +kernel
theorem dX3_goBack_55 : decode cX3_goBack 55 = .ok (.aload_n 0, 1) := by decide +kernel
theorem dX3_goBack_56 : decode cX3_goBack 56 = .ok (.getfield 40, 3) := by decide +kernel
theorem dX3_goBack_59 : decode cX3_goBack 59 = .ok (.if_icmp .lt 55, 3) := by decide +kernel
theorem dX3_goBack_62 : decode cX3_goBack 62 = .ok (.iconst 0, 1) := by decide +kernel
theorem dX3_goBack_63 : decode cX3_goBack 63 = .ok (.istore_n 3, 1) := by decide +kernel
theorem dX3_goBack_64 : decode cX3_goBack 64 = .ok (.iload_n 3, 1) := by decide +kernel
theorem dX3_goBack_65 : decode cX3_goBack 65 = .ok (.sipush 256, 3) := by decide +kernel
theorem dX3_goBack_68 : decode cX3_goBack 68 = .ok (.if_icmp .ge 40, 3) := by decide +kernel
theorem dX3_goBack_71 : decode cX3_goBack 71 = .ok (.iload_n 3, 1) := by decide +kernel
theorem dX3_goBack_72 : decode cX3_goBack 72 = .ok (.iload_n 1, 1) := by decide +kernel
theorem dX3_goBack_73 : decode cX3_goBack 73 = .ok (.iand, 1) := by decide +kernel
theorem dX3_goBack_74 : decode cX3_goBack 74 = .ok (.iload_n 3, 1) := by decide +kernel
theorem dX3_goBack_75 : decode cX3_goBack 75 = .ok (.if_icmp .ne 27, 3) := by decide +kernel
theorem dX3_goBack_78 : decode cX3_goBack 78 = .ok (.iload_n 3, 1) := by decide +kernel
theorem dX3_goBack_79 : decode cX3_goBack 79 = .ok (.invokestatic 87, 3) := by decide +kernel
theorem dX3_goBack_82 : decode cX3_goBack 82 = .ok (.aload_n 0, 1) := by decide +kernel
theorem dX3_goBack_83 : decode cX3_goBack 83 = .ok (.getfield 56, 3) := by decide +kernel
theorem dX3_goBack_86 : decode cX3_goBack 86 = .ok (.imul, 1) := by decide +kernel
theorem dX3_goBack_87 : decode cX3_goBack 87 = .ok (.iload_n 2, 1) := by decide +kernel
theorem dX3_goBack_88 : decode cX3_goBack 88 = .ok (.aload_n 0, 1) := by decide +kernel
theorem dX3_goBack_89 : decode cX3_goBack 89 = .ok (.getfield 40, 3) := by decide +kernel
theorem dX3_goBack_92 : decode cX3_goBack 92 = .ok (.isub, 1) := by decide +kernel
theorem dX3_goBack_93 : decode cX3_goBack 93 = .ok (.if_icmp .gt 9, 3) := by decide +kernel
theorem dX3_goBack_96 : decode cX3_goBack 96 = .ok (.aload_n 0, 1) := by decide +kernel
theorem dX3_goBack_97 : decode cX3_goBack 97 = .ok (.iload_n 2, 1) := by decide +kernel
theorem dX3_goBack_98 : decode cX3_goBack 98 = .ok (.iload_n 3, 1) := by decide +kernel
theorem dX3_goBack_99 : decode cX3_goBack 99 = .ok (.invokevirtual 92, 3) := by decide +kernel
theorem dX3_goBack_102 : decode cX3_goBack 102 = .ok (.iinc 3 1, 3) := by decide +kernel
theorem dX3_goBack_105 : decode cX3_goBack 105 = .ok (.goto (-41), 3) := by decide +kernel
theorem dX3_goBack_108 : decode cX3_goBack 108 = .ok (.iinc 2 (-1), 3) := by decide +kernel
theorem dX3_goBack_111 : decode cX3_goBack 111 = .ok (.goto (-57), 3) := by decide +kernel
theorem dX3_goBack_114 : decode cX3_goBack 114 = .ok (.return_, 1) := by decide +kernel
theorem dX3_settle_0 : decode cX3_settle 0 = .ok (.iload_n 1, 1) := by decide +kernel
theorem dX3_settle_1 : decode cX3_settle 1 = .ok (.sipush 256, 3) := by decide +kernel
theorem dX3_settle_4 : decode cX3_settle 4 = .ok (.imul, 1) := by decide +kernel
theorem dX3_settle_5 : decode cX3_settle 5 = .ok (.iload_n 2, 1) := by decide +kernel
theorem dX3_settle_6 : decode cX3_settle 6 = .ok (.iadd, 1) := by decide +kernel
theorem dX3_settle_7 : decode cX3_settle 7 = .ok (.istore_n 3, 1) := by decide +kernel
theorem dX3_settle_8 : decode cX3_settle 8 = .ok (.aload_n 0, 1) := by decide +kernel
theorem dX3_settle_9 : decode cX3_settle 9 = .ok (.getfield 46, 3) := by decide +kernel
theorem dX3_settle_12 : decode cX3_settle 12 = .ok (.iload_n 1, 1) := by decide +kernel
theorem dX3_settle_13 : decode cX3_settle 13 = .ok (.aload_n 0, 1) := by decide +kernel
theorem dX3_settle_14 : decode cX3_settle 14 = .ok (.getfield 56, 3) := by decide +kernel
theorem dX3_settle_17 : decode cX3_settle 17 = .ok (.iadd, 1) := by decide +kernel
theorem dX3_settle_18 : decode cX3_settle 18 = .ok (.invokestatic 95, 3) := by decide +kernel
theorem dX3_settle_21 : decode cX3_settle 21 = .ok (.sipush 256, 3) := by decide +kernel
theorem dX3_settle_24 : decode cX3_settle 24 = .ok (.imul, 1) := by decide +kernel
theorem dX3_settle_25 : decode cX3_settle 25 = .ok (.istore 4, 2) := by decide +kernel
theorem dX3_settle_27 : decode cX3_settle 27 = .ok (.aload_n 0, 1) := by decide +kernel
theorem dX3_settle_28 : decode cX3_settle 28 = .ok (.getfield 9, 3) := by decide +kernel
theorem dX3_settle_31 : decode cX3_settle 31 = .ok (.iload_n 3, 1) := by decide +kernel
theorem dX3_settle_32 : decode cX3_settle 32 = .ok (.sipush 256, 3) := by decide +kernel
theorem dX3_settle_35 : decode cX3_settle 35 = .ok (.iadd, 1) := by decide +kernel
theorem dX3_settle_36 : decode cX3_settle 36 = .ok (.iaload, 1) := by decide +kernel
theorem dX3_settle_37 : decode cX3_settle 37 = .ok (.istore 5, 2) := by decide +kernel
theorem dX3_settle_39 : decode cX3_settle 39 = .ok (.aload_n 0, 1) := by decide +kernel
theorem dX3_settle_40 : decode cX3_settle 40 = .ok (.getfield 15, 3) := by decide +kernel
theorem dX3_settle_43 : decode cX3_settle 43 = .ok (.iload_n 3, 1) := by decide +kernel
theorem dX3_settle_44 : decode cX3_settle 44 = .ok (.sipush 256, 3) := by decide +kernel
theorem dX3_settle_47 : decode cX3_settle 47 = .ok (.iadd, 1) := by decide +kernel
theorem dX3_settle_48 : decode cX3_settle 48 = .ok (.iaload, 1) := by decide +kernel
theorem dX3_settle_49 : decode cX3_settle 49 = .ok (.istore 6, 2) := by decide +kernel
theorem dX3_settle_51 : decode cX3_settle 51 = .ok (.aload_n 0, 1) := by decide +kernel
theorem dX3_settle_52 : decode cX3_settle 52 = .ok (.getfield 24, 3) := by decide +kernel
theorem dX3_settle_55 : decode cX3_settle 55 = .ok (.iload_n 1, 1) := by decide +kernel
theorem dX3_settle_56 : decode cX3_settle 56 = .ok (.iaload, 1) := by decide +kernel
theorem dX3_settle_57 : decode cX3_settle 57 = .ok (.iload_n 2, 1) := by decide +kernel
theorem dX3_settle_58 : decode cX3_settle 58 = .ok (.iconst (-1), 1) := by decide +kernel
theorem dX3_settle_59 : decode cX3_settle 59 = .ok (.ixor, 1) := by decide +kernel
theorem dX3_settle_60 : decode cX3_settle 60 = .ok (.iand, 1) := by decide +kernel
theorem dX3_settle_61 : decode cX3_settle 61 = .ok (.istore 7, 2) := by decide +kernel
theorem dX3_settle_63 : decode cX3_settle 63 = .ok (.iconst 0, 1) := by decide +kernel
theorem dX3_settle_64 : decode cX3_settle 64 = .ok (.istore 8, 2) := by decide +kernel
theorem dX3_settle_66 : decode cX3_settle 66 = .ok (.iload 8, 2) := by decide +kernel
theorem dX3_settle_68 : decode cX3_settle 68 = .ok (.bipush 8, 2) := by decide +kernel
theorem dX3_settle_70 : decode cX3_settle 70 = .ok (.if_icmp .ge 102, 3) := by decide +kernel
theorem dX3_settle_73 : decode cX3_settle 73 = .ok (.iload 7, 2) := by decide +kernel
theorem dX3_settle_75 : decode cX3_settle 75 = .ok (.ifCond .eq 97, 3) := by decide +kernel
theorem dX3_settle_78 : decode cX3_settle 78 = .ok (.iload 7, 2) := by decide +kernel
theorem dX3_settle_80 : decode cX3_settle 80 = .ok (.iload 8, 2) := by decide +kernel
theorem dX3_settle_82 : decode cX3_settle 82 = .ok (.ishr, 1) := by decide +kernel
theorem dX3_settle_83 : decode cX3_settle 83 = .ok (.iconst 1, 1) := by decide +kernel
theorem dX3_settle_84 : decode cX3_settle 84 = .ok (.iand, 1) := by decide +kernel
theorem dX3_settle_85 : decode cX3_settle 85 = .ok (.ifCond .eq 81, 3) := by decide +kernel
theorem dX3_settle_88 : decode cX3_settle 88 = .ok (.aload_n 0, 1) := by decide +kernel
theorem dX3_settle_89 : decode cX3_settle 89 = .ok (.getfield 21, 3) := by decide +kernel
theorem dX3_settle_92 : decode cX3_settle 92 = .ok (.iload 8, 2) := by decide +kernel
theorem dX3_settle_94 : decode cX3_settle 94 = .ok (.iaload, 1) := by decide +kernel
theorem dX3_settle_95 : decode cX3_settle 95 = .ok (.iload_n 2, 1) := by decide +kernel
theorem dX3_settle_96 : decode cX3_settle 96 = .ok (.iconst (-1), 1) := by decide +kernel
theorem dX3_settle_97 : decode cX3_settle 97 = .ok (.ixor, 1) := by decide +kernel
theorem dX3_settle_98 : decode cX3_settle 98 = .ok (.iand, 1) := by decide +kernel
theorem dX3_settle_99 : decode cX3_settle 99 = .ok (.ifCond .eq 6, 3) := by decide +kernel
theorem dX3_settle_102 : decode cX3_settle 102 = .ok (.goto 64, 3) := by decide +kernel
theorem dX3_settle_105 : decode cX3_settle 105 = .ok (.iload 4, 2) := by decide +kernel
theorem dX3_settle_107 : decode cX3_settle 107 = .ok (.iload_n 2, 1) := by decide +kernel
theorem dX3_settle_108 : decode cX3_settle 108 = .ok (.iconst 1, 1) := by decide +kernel
theorem dX3_settle_109 : decode cX3_settle 109 = .ok (.iload 8, 2) := by decide +kernel
theorem dX3_settle_111 : decode cX3_settle 111 = .ok (.ishl, 1) := by decide +kernel
theorem dX3_settle_112 : decode cX3_settle 112 = .ok (.ior, 1) := by decide +kernel
theorem dX3_settle_113 : decode cX3_settle 113 = .ok (.iadd, 1) := by decide +kernel
theorem dX3_settle_114 : decode cX3_settle 114 = .ok (.istore 9, 2) := by decide +kernel
theorem dX3_settle_116 : decode cX3_settle 116 = .ok (.aload_n 0, 1) := by decide +kernel
theorem dX3_settle_117 : decode cX3_settle 117 = .ok (.getfield 18, 3) := by decide +kernel
theorem dX3_settle_120 : decode cX3_settle 120 = .ok (.iload 8, 2) := by decide +kernel
theorem dX3_settle_122 : decode cX3_settle 122 = .ok (.iaload, 1) := by decide +kernel
theorem dX3_settle_123 : decode cX3_settle 123 = .ok (.aload_n 0, 1) := by decide +kernel
theorem dX3_settle_124 : decode cX3_settle 124 = .ok (.getfield 9, 3) := by decide +kernel
theorem dX3_settle_127 : decode cX3_settle 127 = .ok (.iload 9, 2) := by decide +kernel
theorem dX3_settle_129 : decode cX3_settle 129 = .ok (.iaload, 1) := by decide +kernel
theorem dX3_settle_130 : decode cX3_settle 130 = .ok (.iadd, 1) := by decide +kernel
theorem dX3_settle_131 : decode cX3_settle 131 = .ok (.istore 10, 2) := by decide +kernel
theorem dX3_settle_133 : decode cX3_settle 133 = .ok (.iload 10, 2) := by decide +kernel
theorem dX3_settle_135 : decode cX3_settle 135 = .ok (.iload 5, 2) := by decide +kernel
theorem dX3_settle_137 : decode cX3_settle 137 = .ok (.if_icmp .le 10, 3) := by decide +kernel
theorem dX3_settle_140 : decode cX3_settle 140 = .ok (.iload 10, 2) := by decide +kernel
theorem dX3_settle_142 : decode cX3_settle 142 = .ok (.istore 5, 2) := by decide +kernel
theorem dX3_settle_144 : decode cX3_settle 144 = .ok (.iconst 0, 1) := by decide +kernel
theorem dX3_settle_145 : decode cX3_settle 145 = .ok (.istore 6, 2) := by decide +kernel
theorem dX3_settle_147 : decode cX3_settle 147 = .ok (.iload 10, 2) := by decide +kernel
theorem dX3_settle_149 : decode cX3_settle 149 = .ok (.iload 5, 2) := by decide +kernel
theorem dX3_settle_151 : decode cX3_settle 151 = .ok (.if_icmp .ne 15, 3) := by decide +kernel
theorem dX3_settle_154 : decode cX3_settle 154 = .ok (.iload 6, 2) := by decide +kernel
theorem dX3_settle_156 : decode cX3_settle 156 = .ok (.aload_n 0, 1) := by decide +kernel
theorem dX3_settle_157 : decode cX3_settle 157 = .ok (.getfield 15, 3) := by decide +kernel
theorem dX3_settle_160 : decode cX3_settle 160 = .ok (.iload 9, 2) := by decide +kernel
theorem dX3_settle_162 : decode cX3_settle 162 = .ok (.iaload, 1) := by decide +kernel
theorem dX3_settle_163 : decode cX3_settle 163 = .ok (.iadd, 1) := by decide +kernel
theorem dX3_settle_164 : decode cX3_settle 164 = .ok (.istore 6, 2) := by decide +kernel
theorem dX3_settle_166 : decode cX3_settle 166 = .ok (.iinc 8 1, 3) := by decide +kernel
theorem dX3_settle_169 : decode cX3_settle 169 = .ok (.goto (-103), 3) := by decide +kernel
theorem dX3_settle_172 : decode cX3_settle 172 = .ok (.aload_n 0, 1) := by decide +kernel
theorem dX3_settle_173 : decode cX3_settle 173 = .ok (.getfield 9, 3) := by decide +kernel
theorem dX3_settle_176 : decode cX3_settle 176 = .ok (.iload_n 3, 1) := by decide +kernel
theorem dX3_settle_177 : decode cX3_settle 177 = .ok (.iload 5, 2) := by decide +kernel
theorem dX3_settle_179 : decode cX3_settle 179 = .ok (.iastore, 1) := by decide +kernel
theorem dX3_settle_180 : decode cX3_settle 180 = .ok (.aload_n 0, 1) := by decide +kernel
theorem dX3_settle_181 : decode cX3_settle 181 = .ok (.getfield 15, 3) := by decide +kernel
theorem dX3_settle_184 : decode cX3_settle 184 = .ok (.iload_n 3, 1) := by decide +kernel
theorem dX3_settle_185 : decode cX3_settle 185 = .ok (.iload 6, 2) := by decide +kernel
theorem dX3_settle_187 : decode cX3_settle 187 = .ok (.iastore, 1) := by decide +kernel
theorem dX3_settle_188 : decode cX3_settle 188 = .ok (.return_, 1) := by decide +kernel
theorem dX3_howManyPlans_0 : decode cX3_howManyPlans 0 = .ok (.aload_n 0, 1) := by decide +kernel
theorem dX3_howManyPlans_1 : decode cX3_howManyPlans 1 = .ok (.getfield 15, 3) := by decide +kernel
theorem dX3_howManyPlans_4 : decode cX3_howManyPlans 4 = .ok (.aload_n 0, 1) := by decide +kernel
theorem dX3_howManyPlans_5 : decode cX3_howManyPlans 5 = .ok (.getfield 40, 3) := by decide +kernel
theorem dX3_howManyPlans_8 : decode cX3_howManyPlans 8 = .ok (.sipush 256, 3) := by decide +kernel
theorem dX3_howManyPlans_11 : decode cX3_howManyPlans 11 = .ok (.imul, 1) := by decide +kernel
theorem dX3_howManyPlans_12 : decode cX3_howManyPlans 12 = .ok (.iaload, 1) := by decide +kernel
theorem dX3_howManyPlans_13 : decode cX3_howManyPlans 13 = .ok (.ireturn, 1) := by decide +kernel
theorem dX3_daysOfFirstPlan_0 : decode cX3_daysOfFirstPlan 0 = .ok (.iconst 0, 1) := by decide +kernel
theorem dX3_daysOfFirstPlan_1 : decode cX3_daysOfFirstPlan 1 = .ok (.istore_n 1, 1) := by decide +kernel
theorem dX3_daysOfFirstPlan_2 : decode cX3_daysOfFirstPlan 2 = .ok (.iconst 0, 1) := by decide +kernel
theorem dX3_daysOfFirstPlan_3 : decode cX3_daysOfFirstPlan 3 = .ok (.istore_n 2, 1) := by decide +kernel
theorem dX3_daysOfFirstPlan_4 : decode cX3_daysOfFirstPlan 4 = .ok (.iload_n 2, 1) := by decide +kernel
theorem dX3_daysOfFirstPlan_5 : decode cX3_daysOfFirstPlan 5 = .ok (.aload_n 0, 1) := by decide +kernel
theorem dX3_daysOfFirstPlan_6 : decode cX3_daysOfFirstPlan 6 = .ok (.getfield 46, 3) := by decide +kernel
theorem dX3_daysOfFirstPlan_9 : decode cX3_daysOfFirstPlan 9 = .ok (.if_icmp .ge 24, 3) := by decide +kernel
theorem dX3_daysOfFirstPlan_12 : decode cX3_daysOfFirstPlan 12 = .ok (.aload_n 0, 1) := by decide +kernel
theorem dX3_daysOfFirstPlan_13 : decode cX3_daysOfFirstPlan 13 = .ok (.iload_n 2, 1) := by decide +kernel
theorem dX3_daysOfFirstPlan_14 : decode cX3_daysOfFirstPlan 14 = .ok (.invokevirtual 98, 3) := by decide +kernel
theorem dX3_daysOfFirstPlan_17 : decode cX3_daysOfFirstPlan 17 = .ok (.iconst (-1), 1) := by decide +kernel
theorem dX3_daysOfFirstPlan_18 : decode cX3_daysOfFirstPlan 18 = .ok (.if_icmp .eq 9, 3) := by decide +kernel
theorem dX3_daysOfFirstPlan_21 : decode cX3_daysOfFirstPlan 21 = .ok (.iload_n 1, 1) := by decide +kernel
theorem dX3_daysOfFirstPlan_22 : decode cX3_daysOfFirstPlan 22 = .ok (.iconst 1, 1) := by decide +kernel
theorem dX3_daysOfFirstPlan_23 : decode cX3_daysOfFirstPlan 23 = .ok (.iload_n 2, 1) := by decide +kernel
theorem dX3_daysOfFirstPlan_24 : decode cX3_daysOfFirstPlan 24 = .ok (.ishl, 1) := by decide +kernel
theorem dX3_daysOfFirstPlan_25 : decode cX3_daysOfFirstPlan 25 = .ok (.ior, 1) := by decide +kernel
theorem dX3_daysOfFirstPlan_26 : decode cX3_daysOfFirstPlan 26 = .ok (.istore_n 1, 1) := by decide +kernel
theorem dX3_daysOfFirstPlan_27 : decode cX3_daysOfFirstPlan 27 = .ok (.iinc 2 1, 3) := by decide +kernel
theorem dX3_daysOfFirstPlan_30 : decode cX3_daysOfFirstPlan 30 = .ok (.goto (-26), 3) := by decide +kernel
theorem dX3_daysOfFirstPlan_33 : decode cX3_daysOfFirstPlan 33 = .ok (.iload_n 1, 1) := by decide +kernel
theorem dX3_daysOfFirstPlan_34 : decode cX3_daysOfFirstPlan 34 = .ok (.ireturn, 1) := by decide +kernel
theorem dX3_billInFirstPlan_0 : decode cX3_billInFirstPlan 0 = .ok (.iconst 0, 1) := by decide +kernel
theorem dX3_billInFirstPlan_1 : decode cX3_billInFirstPlan 1 = .ok (.istore_n 2, 1) := by decide +kernel
theorem dX3_billInFirstPlan_2 : decode cX3_billInFirstPlan 2 = .ok (.aload_n 0, 1) := by decide +kernel
theorem dX3_billInFirstPlan_3 : decode cX3_billInFirstPlan 3 = .ok (.getfield 40, 3) := by decide +kernel
theorem dX3_billInFirstPlan_6 : decode cX3_billInFirstPlan 6 = .ok (.istore_n 3, 1) := by decide +kernel
theorem dX3_billInFirstPlan_7 : decode cX3_billInFirstPlan 7 = .ok (.iconst 0, 1) := by decide +kernel
theorem dX3_billInFirstPlan_8 : decode cX3_billInFirstPlan 8 = .ok (.istore 4, 2) := by decide +kernel
theorem dX3_billInFirstPlan_10 : decode cX3_billInFirstPlan 10 = .ok (.iload 4, 2) := by decide +kernel
theorem dX3_billInFirstPlan_12 : decode cX3_billInFirstPlan 12 = .ok (.bipush 14, 2) := by decide +kernel
theorem dX3_billInFirstPlan_14 : decode cX3_billInFirstPlan 14 = .ok (.if_icmp .ge 48, 3) := by decide +kernel
theorem dX3_billInFirstPlan_17 : decode cX3_billInFirstPlan 17 = .ok (.iload_n 3, 1) := by decide +kernel
theorem dX3_billInFirstPlan_18 : decode cX3_billInFirstPlan 18 = .ok (.iload_n 1, 1) := by decide +kernel
theorem dX3_billInFirstPlan_19 : decode cX3_billInFirstPlan 19 = .ok (.if_icmp .ge 43, 3) := by decide +kernel
theorem dX3_billInFirstPlan_22 : decode cX3_billInFirstPlan 22 = .ok (.aload_n 0, 1) := by decide +kernel
theorem dX3_billInFirstPlan_23 : decode cX3_billInFirstPlan 23 = .ok (.iload_n 3, 1) := by decide +kernel
theorem dX3_billInFirstPlan_24 : decode cX3_billInFirstPlan 24 = .ok (.iload_n 2, 1) := by decide +kernel
theorem dX3_billInFirstPlan_25 : decode cX3_billInFirstPlan 25 = .ok (.invokevirtual 101, 3) := by decide +kernel
theorem dX3_billInFirstPlan_28 : decode cX3_billInFirstPlan 28 = .ok (.istore 5, 2) := by decide +kernel
theorem dX3_billInFirstPlan_30 : decode cX3_billInFirstPlan 30 = .ok (.iload 5, 2) := by decide +kernel
theorem dX3_billInFirstPlan_32 : decode cX3_billInFirstPlan 32 = .ok (.iconst (-1), 1) := by decide +kernel
theorem dX3_billInFirstPlan_33 : decode cX3_billInFirstPlan 33 = .ok (.if_icmp .ne 9, 3) := by decide +kernel
theorem dX3_billInFirstPlan_36 : decode cX3_billInFirstPlan 36 = .ok (.iinc 3 1, 3) := by decide +kernel
theorem dX3_billInFirstPlan_39 : decode cX3_billInFirstPlan 39 = .ok (.goto 17, 3) := by decide +kernel
theorem dX3_billInFirstPlan_42 : decode cX3_billInFirstPlan 42 = .ok (.iload_n 2, 1) := by decide +kernel
theorem dX3_billInFirstPlan_43 : decode cX3_billInFirstPlan 43 = .ok (.iconst 1, 1) := by decide +kernel
theorem dX3_billInFirstPlan_44 : decode cX3_billInFirstPlan 44 = .ok (.iload 5, 2) := by decide +kernel
theorem dX3_billInFirstPlan_46 : decode cX3_billInFirstPlan 46 = .ok (.ishl, 1) := by decide +kernel
theorem dX3_billInFirstPlan_47 : decode cX3_billInFirstPlan 47 = .ok (.ior, 1) := by decide +kernel
theorem dX3_billInFirstPlan_48 : decode cX3_billInFirstPlan 48 = .ok (.istore_n 2, 1) := by decide +kernel
theorem dX3_billInFirstPlan_49 : decode cX3_billInFirstPlan 49 = .ok (.iload_n 3, 1) := by decide +kernel
theorem dX3_billInFirstPlan_50 : decode cX3_billInFirstPlan 50 = .ok (.aload_n 0, 1) := by decide +kernel
theorem dX3_billInFirstPlan_51 : decode cX3_billInFirstPlan 51 = .ok (.getfield 56, 3) := by decide +kernel
theorem dX3_billInFirstPlan_54 : decode cX3_billInFirstPlan 54 = .ok (.iadd, 1) := by decide +kernel
theorem dX3_billInFirstPlan_55 : decode cX3_billInFirstPlan 55 = .ok (.istore_n 3, 1) := by decide +kernel
theorem dX3_billInFirstPlan_56 : decode cX3_billInFirstPlan 56 = .ok (.iinc 4 1, 3) := by decide +kernel
theorem dX3_billInFirstPlan_59 : decode cX3_billInFirstPlan 59 = .ok (.goto (-49), 3) := by decide +kernel
theorem dX3_billInFirstPlan_62 : decode cX3_billInFirstPlan 62 = .ok (.iload_n 3, 1) := by decide +kernel
theorem dX3_billInFirstPlan_63 : decode cX3_billInFirstPlan 63 = .ok (.iload_n 1, 1) := by decide +kernel
theorem dX3_billInFirstPlan_64 : decode cX3_billInFirstPlan 64 = .ok (.if_icmp .ne 12, 3) := by decide +kernel
theorem dX3_billInFirstPlan_67 : decode cX3_billInFirstPlan 67 = .ok (.aload_n 0, 1) := by decide +kernel
theorem dX3_billInFirstPlan_68 : decode cX3_billInFirstPlan 68 = .ok (.iload_n 3, 1) := by decide +kernel
theorem dX3_billInFirstPlan_69 : decode cX3_billInFirstPlan 69 = .ok (.iload_n 2, 1) := by decide +kernel
theorem dX3_billInFirstPlan_70 : decode cX3_billInFirstPlan 70 = .ok (.invokevirtual 101, 3) := by decide +kernel
theorem dX3_billInFirstPlan_73 : decode cX3_billInFirstPlan 73 = .ok (.goto 4, 3) := by decide +kernel
theorem dX3_billInFirstPlan_76 : decode cX3_billInFirstPlan 76 = .ok (.iconst (-1), 1) := by decide +kernel
theorem dX3_billInFirstPlan_77 : decode cX3_billInFirstPlan 77 = .ok (.ireturn, 1) := by decide +kernel
theorem dX3_firstBill_0 : decode cX3_firstBill 0 = .ok (.iload_n 1, 1) := by decide +kernel
theorem dX3_firstBill_1 : decode cX3_firstBill 1 = .ok (.ifCond .lt 11, 3) := by decide +kernel
theorem dX3_firstBill_4 : decode cX3_firstBill 4 = .ok (.iload_n 1, 1) := by decide +kernel
theorem dX3_firstBill_5 : decode cX3_firstBill 5 = .ok (.aload_n 0, 1) := by decide +kernel
theorem dX3_firstBill_6 : decode cX3_firstBill 6 = .ok (.getfield 46, 3) := by decide +kernel
theorem dX3_firstBill_9 : decode cX3_firstBill 9 = .ok (.if_icmp .lt 5, 3) := by decide +kernel
theorem dX3_firstBill_12 : decode cX3_firstBill 12 = .ok (.iconst (-1), 1) := by decide +kernel
theorem dX3_firstBill_13 : decode cX3_firstBill 13 = .ok (.ireturn, 1) := by decide +kernel
theorem dX3_firstBill_14 : decode cX3_firstBill 14 = .ok (.iload_n 1, 1) := by decide +kernel
theorem dX3_firstBill_15 : decode cX3_firstBill 15 = .ok (.sipush 256, 3) := by decide +kernel
theorem dX3_firstBill_18 : decode cX3_firstBill 18 = .ok (.imul, 1) := by decide +kernel
theorem dX3_firstBill_19 : decode cX3_firstBill 19 = .ok (.iload_n 2, 1) := by decide +kernel
theorem dX3_firstBill_20 : decode cX3_firstBill 20 = .ok (.iadd, 1) := by decide +kernel
theorem dX3_firstBill_21 : decode cX3_firstBill 21 = .ok (.istore_n 3, 1) := by decide +kernel
theorem dX3_firstBill_22 : decode cX3_firstBill 22 = .ok (.aload_n 0, 1) := by decide +kernel
theorem dX3_firstBill_23 : decode cX3_firstBill 23 = .ok (.getfield 9, 3) := by decide +kernel
theorem dX3_firstBill_26 : decode cX3_firstBill 26 = .ok (.iload_n 3, 1) := by decide +kernel
theorem dX3_firstBill_27 : decode cX3_firstBill 27 = .ok (.sipush 256, 3) := by decide +kernel
theorem dX3_firstBill_30 : decode cX3_firstBill 30 = .ok (.iadd, 1) := by decide +kernel
theorem dX3_firstBill_31 : decode cX3_firstBill 31 = .ok (.iaload, 1) := by decide +kernel
theorem dX3_firstBill_32 : decode cX3_firstBill 32 = .ok (.aload_n 0, 1) := by decide +kernel
theorem dX3_firstBill_33 : decode cX3_firstBill 33 = .ok (.getfield 9, 3) := by decide +kernel
theorem dX3_firstBill_36 : decode cX3_firstBill 36 = .ok (.iload_n 3, 1) := by decide +kernel
theorem dX3_firstBill_37 : decode cX3_firstBill 37 = .ok (.iaload, 1) := by decide +kernel
theorem dX3_firstBill_38 : decode cX3_firstBill 38 = .ok (.if_icmp .ne 5, 3) := by decide +kernel
theorem dX3_firstBill_41 : decode cX3_firstBill 41 = .ok (.iconst (-1), 1) := by decide +kernel
theorem dX3_firstBill_42 : decode cX3_firstBill 42 = .ok (.ireturn, 1) := by decide +kernel
theorem dX3_firstBill_43 : decode cX3_firstBill 43 = .ok (.aload_n 0, 1) := by decide +kernel
theorem dX3_firstBill_44 : decode cX3_firstBill 44 = .ok (.getfield 46, 3) := by decide +kernel
theorem dX3_firstBill_47 : decode cX3_firstBill 47 = .ok (.iload_n 1, 1) := by decide +kernel
theorem dX3_firstBill_48 : decode cX3_firstBill 48 = .ok (.aload_n 0, 1) := by decide +kernel
theorem dX3_firstBill_49 : decode cX3_firstBill 49 = .ok (.getfield 56, 3) := by decide +kernel
theorem dX3_firstBill_52 : decode cX3_firstBill 52 = .ok (.iadd, 1) := by decide +kernel
theorem dX3_firstBill_53 : decode cX3_firstBill 53 = .ok (.invokestatic 95, 3) := by decide +kernel
theorem dX3_firstBill_56 : decode cX3_firstBill 56 = .ok (.sipush 256, 3) := by decide +kernel
theorem dX3_firstBill_59 : decode cX3_firstBill 59 = .ok (.imul, 1) := by decide +kernel
theorem dX3_firstBill_60 : decode cX3_firstBill 60 = .ok (.istore 4, 2) := by decide +kernel
theorem dX3_firstBill_62 : decode cX3_firstBill 62 = .ok (.aload_n 0, 1) := by decide +kernel
theorem dX3_firstBill_63 : decode cX3_firstBill 63 = .ok (.getfield 24, 3) := by decide +kernel
theorem dX3_firstBill_66 : decode cX3_firstBill 66 = .ok (.iload_n 1, 1) := by decide +kernel
theorem dX3_firstBill_67 : decode cX3_firstBill 67 = .ok (.iaload, 1) := by decide +kernel
theorem dX3_firstBill_68 : decode cX3_firstBill 68 = .ok (.iload_n 2, 1) := by decide +kernel
theorem dX3_firstBill_69 : decode cX3_firstBill 69 = .ok (.iconst (-1), 1) := by decide +kernel
theorem dX3_firstBill_70 : decode cX3_firstBill 70 = .ok (.ixor, 1) := by decide +kernel
theorem dX3_firstBill_71 : decode cX3_firstBill 71 = .ok (.iand, 1) := by decide +kernel
theorem dX3_firstBill_72 : decode cX3_firstBill 72 = .ok (.istore 5, 2) := by decide +kernel
theorem dX3_firstBill_74 : decode cX3_firstBill 74 = .ok (.iconst 0, 1) := by decide +kernel
theorem dX3_firstBill_75 : decode cX3_firstBill 75 = .ok (.istore 6, 2) := by decide +kernel
theorem dX3_firstBill_77 : decode cX3_firstBill 77 = .ok (.iload 6, 2) := by decide +kernel
theorem dX3_firstBill_79 : decode cX3_firstBill 79 = .ok (.bipush 8, 2) := by decide +kernel
theorem dX3_firstBill_81 : decode cX3_firstBill 81 = .ok (.if_icmp .ge 79, 3) := by decide +kernel
theorem dX3_firstBill_84 : decode cX3_firstBill 84 = .ok (.iload 5, 2) := by decide +kernel
theorem dX3_firstBill_86 : decode cX3_firstBill 86 = .ok (.iload 6, 2) := by decide +kernel
theorem dX3_firstBill_88 : decode cX3_firstBill 88 = .ok (.invokestatic 62, 3) := by decide +kernel
theorem dX3_firstBill_91 : decode cX3_firstBill 91 = .ok (.ifCond .eq 21, 3) := by decide +kernel
theorem dX3_firstBill_94 : decode cX3_firstBill 94 = .ok (.aload_n 0, 1) := by decide +kernel
theorem dX3_firstBill_95 : decode cX3_firstBill 95 = .ok (.getfield 21, 3) := by decide +kernel
theorem dX3_firstBill_98 : decode cX3_firstBill 98 = .ok (.iload 6, 2) := by decide +kernel
theorem dX3_firstBill_100 : decode cX3_firstBill 100 = .ok (.iaload, 1) := by decide +kernel
theorem dX3_firstBill_101 : decode cX3_firstBill 101 = .ok (.iload_n 2, 1) := by decide +kernel
theorem dX3_firstBill_102 : decode cX3_firstBill 102 = .ok (.iconst (-1), 1) := by decide +kernel
theorem dX3_firstBill_103 : decode cX3_firstBill 103 = .ok (.ixor, 1) := by decide +kernel
theorem dX3_firstBill_104 : decode cX3_firstBill 104 = .ok (.iand, 1) := by decide +kernel
theorem dX3_firstBill_105 : decode cX3_firstBill 105 = .ok (.ifCond .ne 7, 3) := by decide +kernel
theorem dX3_firstBill_108 : decode cX3_firstBill 108 = .ok (.iconst 1, 1) := by decide +kernel
theorem dX3_firstBill_109 : decode cX3_firstBill 109 = .ok (.goto 4, 3) := by decide +kernel
theorem dX3_firstBill_112 : decode cX3_firstBill 112 = .ok (.iconst 0, 1) := by decide +kernel
theorem dX3_firstBill_113 : decode cX3_firstBill 113 = .ok (.istore 7, 2) := by decide +kernel
theorem dX3_firstBill_115 : decode cX3_firstBill 115 = .ok (.iload 7, 2) := by decide +kernel
theorem dX3_firstBill_117 : decode cX3_firstBill 117 = .ok (.ifCond .eq 37, 3) := by decide +kernel
theorem dX3_firstBill_120 : decode cX3_firstBill 120 = .ok (.aload_n 0, 1) := by decide +kernel
theorem dX3_firstBill_121 : decode cX3_firstBill 121 = .ok (.getfield 18, 3) := by decide +kernel
theorem dX3_firstBill_124 : decode cX3_firstBill 124 = .ok (.iload 6, 2) := by decide +kernel
theorem dX3_firstBill_126 : decode cX3_firstBill 126 = .ok (.iaload, 1) := by decide +kernel
theorem dX3_firstBill_127 : decode cX3_firstBill 127 = .ok (.aload_n 0, 1) := by decide +kernel
theorem dX3_firstBill_128 : decode cX3_firstBill 128 = .ok (.getfield 9, 3) := by decide +kernel
theorem dX3_firstBill_131 : decode cX3_firstBill 131 = .ok (.iload 4, 2) := by decide +kernel
theorem dX3_firstBill_133 : decode cX3_firstBill 133 = .ok (.iload_n 2, 1) := by decide +kernel
theorem dX3_firstBill_134 : decode cX3_firstBill 134 = .ok (.iconst 1, 1) := by decide +kernel
theorem dX3_firstBill_135 : decode cX3_firstBill 135 = .ok (.iload 6, 2) := by decide +kernel
theorem dX3_firstBill_137 : decode cX3_firstBill 137 = .ok (.ishl, 1) := by decide +kernel
theorem dX3_firstBill_138 : decode cX3_firstBill 138 = .ok (.ior, 1) := by decide +kernel
theorem dX3_firstBill_139 : decode cX3_firstBill 139 = .ok (.iadd, 1) := by decide +kernel
theorem dX3_firstBill_140 : decode cX3_firstBill 140 = .ok (.iaload, 1) := by decide +kernel
theorem dX3_firstBill_141 : decode cX3_firstBill 141 = .ok (.iadd, 1) := by decide +kernel
theorem dX3_firstBill_142 : decode cX3_firstBill 142 = .ok (.aload_n 0, 1) := by decide +kernel
theorem dX3_firstBill_143 : decode cX3_firstBill 143 = .ok (.getfield 9, 3) := by decide +kernel
theorem dX3_firstBill_146 : decode cX3_firstBill 146 = .ok (.iload_n 3, 1) := by decide +kernel
theorem dX3_firstBill_147 : decode cX3_firstBill 147 = .ok (.iaload, 1) := by decide +kernel
theorem dX3_firstBill_148 : decode cX3_firstBill 148 = .ok (.if_icmp .ne 6, 3) := by decide +kernel
theorem dX3_firstBill_151 : decode cX3_firstBill 151 = .ok (.iload 6, 2) := by decide +kernel
theorem dX3_firstBill_153 : decode cX3_firstBill 153 = .ok (.ireturn, 1) := by decide +kernel
theorem dX3_firstBill_154 : decode cX3_firstBill 154 = .ok (.iinc 6 1, 3) := by decide +kernel
theorem dX3_firstBill_157 : decode cX3_firstBill 157 = .ok (.goto (-80), 3) := by decide +kernel
theorem dX3_firstBill_160 : decode cX3_firstBill 160 = .ok (.iconst (-1), 1) := by decide +kernel
theorem dX3_firstBill_161 : decode cX3_firstBill 161 = .ok (.ireturn, 1) := by decide +kernel
theorem dX4_read_0 : decode cX4_read 0 = .ok (.aload_n 0, 1) := by decide +kernel
theorem dX4_read_1 : decode cX4_read 1 = .ok (.aload_n 1, 1) := by decide +kernel
theorem dX4_read_2 : decode cX4_read 2 = .ok (.putfield 15, 3) := by decide +kernel
theorem dX4_read_5 : decode cX4_read 5 = .ok (.aload_n 0, 1) := by decide +kernel
theorem dX4_read_6 : decode cX4_read 6 = .ok (.aload_n 2, 1) := by decide +kernel
theorem dX4_read_7 : decode cX4_read 7 = .ok (.putfield 19, 3) := by decide +kernel
theorem dX4_read_10 : decode cX4_read 10 = .ok (.aload_n 0, 1) := by decide +kernel
theorem dX4_read_11 : decode cX4_read 11 = .ok (.getfield 19, 3) := by decide +kernel
theorem dX4_read_14 : decode cX4_read 14 = .ok (.invokevirtual 23, 3) := by decide +kernel
theorem dX4_read_17 : decode cX4_read 17 = .ok (.aload_n 0, 1) := by decide +kernel
theorem dX4_read_18 : decode cX4_read 18 = .ok (.iconst 0, 1) := by decide +kernel
theorem dX4_read_19 : decode cX4_read 19 = .ok (.putfield 28, 3) := by decide +kernel
theorem dX4_read_22 : decode cX4_read 22 = .ok (.aload_n 0, 1) := by decide +kernel
theorem dX4_read_23 : decode cX4_read 23 = .ok (.iconst (-1), 1) := by decide +kernel
theorem dX4_read_24 : decode cX4_read 24 = .ok (.putfield 9, 3) := by decide +kernel
theorem dX4_read_27 : decode cX4_read 27 = .ok (.aload_n 0, 1) := by decide +kernel
theorem dX4_read_28 : decode cX4_read 28 = .ok (.iconst 0, 1) := by decide +kernel
theorem dX4_read_29 : decode cX4_read 29 = .ok (.putfield 31, 3) := by decide +kernel
theorem dX4_read_32 : decode cX4_read 32 = .ok (.aload_n 0, 1) := by decide +kernel
theorem dX4_read_33 : decode cX4_read 33 = .ok (.invokevirtual 34, 3) := by decide +kernel
theorem dX4_read_36 : decode cX4_read 36 = .ok (.iconst 0, 1) := by decide +kernel
theorem dX4_read_37 : decode cX4_read 37 = .ok (.istore_n 3, 1) := by decide +kernel
theorem dX4_read_38 : decode cX4_read 38 = .ok (.iload_n 3, 1) := by decide +kernel
theorem dX4_read_39 : decode cX4_read 39 = .ok (.sipush 800, 3) := by decide +kernel
theorem dX4_read_42 : decode cX4_read 42 = .ok (.if_icmp .ge 27, 3) := by decide +kernel
theorem dX4_read_45 : decode cX4_read 45 = .ok (.aload_n 0, 1) := by decide +kernel
theorem dX4_read_46 : decode cX4_read 46 = .ok (.getfield 37, 3) := by decide +kernel
theorem dX4_read_49 : decode cX4_read 49 = .ok (.ifCond .eq 20, 3) := by decide +kernel
theorem dX4_read_52 : decode cX4_read 52 = .ok (.aload_n 0, 1) := by decide +kernel
theorem dX4_read_53 : decode cX4_read 53 = .ok (.getfield 28, 3) := by decide +kernel
theorem dX4_read_56 : decode cX4_read 56 = .ok (.ifCond .ne 13, 3) := by decide +kernel
theorem dX4_read_59 : decode cX4_read 59 = .ok (.aload_n 0, 1) := by decide +kernel
theorem dX4_read_60 : decode cX4_read 60 = .ok (.invokevirtual 40, 3) := by decide +kernel
theorem dX4_read_63 : decode cX4_read 63 = .ok (.iinc 3 1, 3) := by decide +kernel
theorem dX4_read_66 : decode cX4_read 66 = .ok (.goto (-28), 3) := by decide +kernel
theorem dX4_read_69 : decode cX4_read 69 = .ok (.aload_n 0, 1) := by decide +kernel
theorem dX4_read_70 : decode cX4_read 70 = .ok (.getfield 28, 3) := by decide +kernel
theorem dX4_read_73 : decode cX4_read 73 = .ok (.ifCond .ne 7, 3) := by decide +kernel
theorem dX4_read_76 : decode cX4_read 76 = .ok (.iconst 1, 1) := by decide +kernel
theorem dX4_read_77 : decode cX4_read 77 = .ok (.goto 4, 3) := by decide +kernel
theorem dX4_read_80 : decode cX4_read 80 = .ok (.iconst 0, 1) := by decide +kernel
theorem dX4_read_81 : decode cX4_read 81 = .ok (.ireturn, 1) := by decide +kernel
theorem dX4_readLine_0 : decode cX4_readLine 0 = .ok (.aload_n 0, 1) := by decide +kernel
theorem dX4_readLine_1 : decode cX4_readLine 1 = .ok (.getfield 19, 3) := by decide +kernel
theorem dX4_readLine_4 : decode cX4_readLine 4 = .ok (.getfield 43, 3) := by decide +kernel
theorem dX4_readLine_7 : decode cX4_readLine 7 = .ok (.ifCond .ne 10, 3) := by decide +kernel
theorem dX4_readLine_10 : decode cX4_readLine 10 = .ok (.aload_n 0, 1) := by decide +kernel
theorem dX4_readLine_11 : decode cX4_readLine 11 = .ok (.invokevirtual 46, 3) := by decide +kernel
theorem dX4_readLine_14 : decode cX4_readLine 14 = .ok (.goto 56, 3) := by decide +kernel
theorem dX4_readLine_17 : decode cX4_readLine 17 = .ok (.aload_n 0, 1) := by decide +kernel
theorem dX4_readLine_18 : decode cX4_readLine 18 = .ok (.ldc 49, 2) := by decide +kernel
theorem dX4_readLine_20 : decode cX4_readLine 20 = .ok (.invokevirtual 51, 3) := by decide +kernel
theorem dX4_readLine_23 : decode cX4_readLine 23 = .ok (.ifCond .eq 10, 3) := by decide +kernel
theorem dX4_readLine_26 : decode cX4_readLine 26 = .ok (.aload_n 0, 1) := by decide +kernel
theorem dX4_readLine_27 : decode cX4_readLine 27 = .ok (.invokevirtual 55, 3) := by decide +kernel
theorem dX4_readLine_30 : decode cX4_readLine 30 = .ok (.goto 40, 3) := by decide +kernel
theorem dX4_readLine_33 : decode cX4_readLine 33 = .ok (.aload_n 0, 1) := by decide +kernel
theorem dX4_readLine_34 : decode cX4_readLine 34 = .ok (.ldc 58, 2) := by decide +kernel
theorem dX4_readLine_36 : decode cX4_readLine 36 = .ok (.invokevirtual 51, 3) := by decide +kernel
theorem dX4_readLine_39 : decode cX4_readLine 39 = .ok (.ifCond .eq 10, 3) := by decide +kernel
theorem dX4_readLine_42 : decode cX4_readLine 42 = .ok (.aload_n 0, 1) := by decide +kernel
theorem dX4_readLine_43 : decode cX4_readLine 43 = .ok (.invokevirtual 60, 3) := by decide +kernel
theorem dX4_readLine_46 : decode cX4_readLine 46 = .ok (.goto 24, 3) := by decide +kernel
theorem dX4_readLine_49 : decode cX4_readLine 49 = .ok (.aload_n 0, 1) := by decide +kernel
theorem dX4_readLine_50 : decode cX4_readLine 50 = .ok (.ldc 63, 2) := by decide +kernel
theorem dX4_readLine_52 : decode cX4_readLine 52 = .ok (.invokevirtual 51, 3) := by decide +kernel
theorem dX4_readLine_55 : decode cX4_readLine 55 = .ok (.ifCond .eq 10, 3) := by decide +kernel
theorem dX4_readLine_58 : decode cX4_readLine 58 = .ok (.aload_n 0, 1) := by decide +kernel
theorem dX4_readLine_59 : decode cX4_readLine 59 = .ok (.invokevirtual 65, 3) := by decide +kernel
theorem dX4_readLine_62 : decode cX4_readLine 62 = .ok (.goto 8, 3) := by decide +kernel
theorem dX4_readLine_65 : decode cX4_readLine 65 = .ok (.aload_n 0, 1) := by decide +kernel
theorem dX4_readLine_66 : decode cX4_readLine 66 = .ok (.iconst 1, 1) := by decide +kernel
theorem dX4_readLine_67 : decode cX4_readLine 67 = .ok (.invokevirtual 68, 3) := by decide +kernel
theorem dX4_readLine_70 : decode cX4_readLine 70 = .ok (.aload_n 0, 1) := by decide +kernel
theorem dX4_readLine_71 : decode cX4_readLine 71 = .ok (.invokevirtual 72, 3) := by decide +kernel
theorem dX4_readLine_74 : decode cX4_readLine 74 = .ok (.return_, 1) := by decide +kernel
theorem dX4_readCamp_0 : decode cX4_readCamp 0 = .ok (.aload_n 0, 1) := by decide +kernel
theorem dX4_readCamp_1 : decode cX4_readCamp 1 = .ok (.ldc 75, 2) := by decide +kernel
theorem dX4_readCamp_3 : decode cX4_readCamp 3 = .ok (.invokevirtual 76, 3) := by decide +kernel
theorem dX4_readCamp_6 : decode cX4_readCamp 6 = .ok (.aload_n 0, 1) := by decide +kernel
theorem dX4_readCamp_7 : decode cX4_readCamp 7 = .ok (.ldc 80, 2) := by decide +kernel
theorem dX4_readCamp_9 : decode cX4_readCamp 9 = .ok (.invokevirtual 76, 3) := by decide +kernel
theorem dX4_readCamp_12 : decode cX4_readCamp 12 = .ok (.aload_n 0, 1) := by decide +kernel
theorem dX4_readCamp_13 : decode cX4_readCamp 13 = .ok (.iconst 1, 1) := by decide +kernel
theorem dX4_readCamp_14 : decode cX4_readCamp 14 = .ok (.bipush 14, 2) := by decide +kernel
theorem dX4_readCamp_16 : decode cX4_readCamp 16 = .ok (.invokevirtual 82, 3) := by decide +kernel
theorem dX4_readCamp_19 : decode cX4_readCamp 19 = .ok (.istore_n 1, 1) := by decide +kernel
theorem dX4_readCamp_20 : decode cX4_readCamp 20 = .ok (.aload_n 0, 1) := by decide +kernel
theorem dX4_readCamp_21 : decode cX4_readCamp 21 = .ok (.ldc 86, 2) := by decide +kernel
theorem dX4_readCamp_23 : decode cX4_readCamp 23 = .ok (.invokevirtual 76, 3) := by decide +kernel
theorem dX4_readCamp_26 : decode cX4_readCamp 26 = .ok (.aload_n 0, 1) := by decide +kernel
theorem dX4_readCamp_27 : decode cX4_readCamp 27 = .ok (.iconst 0, 1) := by decide +kernel
theorem dX4_readCamp_28 : decode cX4_readCamp 28 = .ok (.bipush 9, 2) := by decide +kernel
theorem dX4_readCamp_30 : decode cX4_readCamp 30 = .ok (.invokevirtual 82, 3) := by decide +kernel
theorem dX4_readCamp_33 : decode cX4_readCamp 33 = .ok (.istore_n 2, 1) := by decide +kernel
theorem dX4_readCamp_34 : decode cX4_readCamp 34 = .ok (.aload_n 0, 1) := by decide +kernel
theorem dX4_readCamp_35 : decode cX4_readCamp 35 = .ok (.ldc 88, 2) := by decide +kernel
theorem dX4_readCamp_37 : decode cX4_readCamp 37 = .ok (.invokevirtual 76, 3) := by decide +kernel
theorem dX4_readCamp_40 : decode cX4_readCamp 40 = .ok (.aload_n 0, 1) := by decide +kernel
theorem dX4_readCamp_41 : decode cX4_readCamp 41 = .ok (.iconst 1, 1) := by decide +kernel
theorem dX4_readCamp_42 : decode cX4_readCamp 42 = .ok (.bipush 9, 2) := by decide +kernel
theorem dX4_readCamp_44 : decode cX4_readCamp 44 = .ok (.invokevirtual 82, 3) := by decide +kernel
theorem dX4_readCamp_47 : decode cX4_readCamp 47 = .ok (.istore_n 3, 1) := by decide +kernel
theorem dX4_readCamp_48 : decode cX4_readCamp 48 = .ok (.aload_n 0, 1) := by decide +kernel
theorem dX4_readCamp_49 : decode cX4_readCamp 49 = .ok (.ldc 90, 2) := by decide +kernel
theorem dX4_readCamp_51 : decode cX4_readCamp 51 = .ok (.invokevirtual 76, 3) := by decide +kernel
theorem dX4_readCamp_54 : decode cX4_readCamp 54 = .ok (.aload_n 0, 1) := by decide +kernel
theorem dX4_readCamp_55 : decode cX4_readCamp 55 = .ok (.iconst 0, 1) := by decide +kernel
theorem dX4_readCamp_56 : decode cX4_readCamp 56 = .ok (.bipush 10, 2) := by decide +kernel
theorem dX4_readCamp_58 : decode cX4_readCamp 58 = .ok (.invokevirtual 82, 3) := by decide +kernel
theorem dX4_readCamp_61 : decode cX4_readCamp 61 = .ok (.istore 4, 2) := by decide +kernel
theorem dX4_readCamp_63 : decode cX4_readCamp 63 = .ok (.aload_n 0, 1) := by decide +kernel
theorem dX4_readCamp_64 : decode cX4_readCamp 64 = .ok (.getfield 28, 3) := by decide +kernel
theorem dX4_readCamp_67 : decode cX4_readCamp 67 = .ok (.ifCond .ne 36, 3) := by decide +kernel
theorem dX4_readCamp_70 : decode cX4_readCamp 70 = .ok (.aload_n 0, 1) := by decide +kernel
theorem dX4_readCamp_71 : decode cX4_readCamp 71 = .ok (.getfield 19, 3) := by decide +kernel
theorem dX4_readCamp_74 : decode cX4_readCamp 74 = .ok (.iload_n 1, 1) := by decide +kernel
theorem dX4_readCamp_75 : decode cX4_readCamp 75 = .ok (.putfield 92, 3) := by decide +kernel
theorem dX4_readCamp_78 : decode cX4_readCamp 78 = .ok (.aload_n 0, 1) := by decide +kernel
theorem dX4_readCamp_79 : decode cX4_readCamp 79 = .ok (.getfield 19, 3) := by decide +kernel
theorem dX4_readCamp_82 : decode cX4_readCamp 82 = .ok (.iload_n 2, 1) := by decide +kernel
theorem dX4_readCamp_83 : decode cX4_readCamp 83 = .ok (.putfield 94, 3) := by decide +kernel
theorem dX4_readCamp_86 : decode cX4_readCamp 86 = .ok (.aload_n 0, 1) := by decide +kernel
theorem dX4_readCamp_87 : decode cX4_readCamp 87 = .ok (.getfield 19, 3) := by decide +kernel
theorem dX4_readCamp_90 : decode cX4_readCamp 90 = .ok (.iload_n 3, 1) := by decide +kernel
theorem dX4_readCamp_91 : decode cX4_readCamp 91 = .ok (.putfield 97, 3) := by decide +kernel
theorem dX4_readCamp_94 : decode cX4_readCamp 94 = .ok (.aload_n 0, 1) := by decide +kernel
theorem dX4_readCamp_95 : decode cX4_readCamp 95 = .ok (.getfield 19, 3) := by decide +kernel
theorem dX4_readCamp_98 : decode cX4_readCamp 98 = .ok (.iload 4, 2) := by decide +kernel
theorem dX4_readCamp_100 : decode cX4_readCamp 100 = .ok (.putfield 99, 3) := by decide +kernel
theorem dX4_readCamp_103 : decode cX4_readCamp 103 = .ok (.return_, 1) := by decide +kernel
theorem dX4_readMark_0 : decode cX4_readMark 0 = .ok (.aload_n 0, 1) := by decide +kernel
theorem dX4_readMark_1 : decode cX4_readMark 1 = .ok (.ldc 49, 2) := by decide +kernel
theorem dX4_readMark_3 : decode cX4_readMark 3 = .ok (.invokevirtual 76, 3) := by decide +kernel
theorem dX4_readMark_6 : decode cX4_readMark 6 = .ok (.aload_n 0, 1) := by decide +kernel
theorem dX4_readMark_7 : decode cX4_readMark 7 = .ok (.iconst 0, 1) := by decide +kernel
theorem dX4_readMark_8 : decode cX4_readMark 8 = .ok (.aload_n 0, 1) := by decide +kernel
theorem dX4_readMark_9 : decode cX4_readMark 9 = .ok (.getfield 19, 3) := by decide +kernel
theorem dX4_readMark_12 : decode cX4_readMark 12 = .ok (.getfield 92, 3) := by decide +kernel
theorem dX4_readMark_15 : decode cX4_readMark 15 = .ok (.iconst 1, 1) := by decide +kernel
theorem dX4_readMark_16 : decode cX4_readMark 16 = .ok (.isub, 1) := by decide +kernel
theorem dX4_readMark_17 : decode cX4_readMark 17 = .ok (.invokevirtual 82, 3) := by decide +kernel
theorem dX4_readMark_20 : decode cX4_readMark 20 = .ok (.istore_n 1, 1) := by decide +kernel
theorem dX4_readMark_21 : decode cX4_readMark 21 = .ok (.aload_n 0, 1) := by decide +kernel
theorem dX4_readMark_22 : decode cX4_readMark 22 = .ok (.getfield 28, 3) := by decide +kernel
theorem dX4_readMark_25 : decode cX4_readMark 25 = .ok (.ifCond .ne 18, 3) := by decide +kernel
theorem dX4_readMark_28 : decode cX4_readMark 28 = .ok (.aload_n 0, 1) := by decide +kernel
theorem dX4_readMark_29 : decode cX4_readMark 29 = .ok (.getfield 19, 3) := by decide +kernel
theorem dX4_readMark_32 : decode cX4_readMark 32 = .ok (.dup, 1) := by decide +kernel
theorem dX4_readMark_33 : decode cX4_readMark 33 = .ok (.getfield 101, 3) := by decide +kernel
theorem dX4_readMark_36 : decode cX4_readMark 36 = .ok (.iconst 1, 1) := by decide +kernel
theorem dX4_readMark_37 : decode cX4_readMark 37 = .ok (.iload_n 1, 1) := by decide +kernel
theorem dX4_readMark_38 : decode cX4_readMark 38 = .ok (.ishl, 1) := by decide +kernel
theorem dX4_readMark_39 : decode cX4_readMark 39 = .ok (.ior, 1) := by decide +kernel
theorem dX4_readMark_40 : decode cX4_readMark 40 = .ok (.putfield 101, 3) := by decide +kernel
theorem dX4_readMark_43 : decode cX4_readMark 43 = .ok (.return_, 1) := by decide +kernel
theorem dX4_readAugur_0 : decode cX4_readAugur 0 = .ok (.aload_n 0, 1) := by decide +kernel
theorem dX4_readAugur_1 : decode cX4_readAugur 1 = .ok (.getfield 19, 3) := by decide +kernel
theorem dX4_readAugur_4 : decode cX4_readAugur 4 = .ok (.getfield 104, 3) := by decide +kernel
theorem dX4_readAugur_7 : decode cX4_readAugur 7 = .ok (.bipush 8, 2) := by decide +kernel
theorem dX4_readAugur_9 : decode cX4_readAugur 9 = .ok (.if_icmp .lt 9, 3) := by decide +kernel
theorem dX4_readAugur_12 : decode cX4_readAugur 12 = .ok (.aload_n 0, 1) := by decide +kernel
theorem dX4_readAugur_13 : decode cX4_readAugur 13 = .ok (.iconst 3, 1) := by decide +kernel
theorem dX4_readAugur_14 : decode cX4_readAugur 14 = .ok (.invokevirtual 68, 3) := by decide +kernel
theorem dX4_readAugur_17 : decode cX4_readAugur 17 = .ok (.return_, 1) := by decide +kernel
theorem dX4_readAugur_18 : decode cX4_readAugur 18 = .ok (.aload_n 0, 1) := by decide +kernel
theorem dX4_readAugur_19 : decode cX4_readAugur 19 = .ok (.ldc 58, 2) := by decide +kernel
theorem dX4_readAugur_21 : decode cX4_readAugur 21 = .ok (.invokevirtual 76, 3) := by decide +kernel
theorem dX4_readAugur_24 : decode cX4_readAugur 24 = .ok (.aload_n 0, 1) := by decide +kernel
theorem dX4_readAugur_25 : decode cX4_readAugur 25 = .ok (.ldc 107, 2) := by decide +kernel
theorem dX4_readAugur_27 : decode cX4_readAugur 27 = .ok (.invokevirtual 76, 3) := by decide +kernel
theorem dX4_readAugur_30 : decode cX4_readAugur 30 = .ok (.aload_n 0, 1) := by decide +kernel
theorem dX4_readAugur_31 : decode cX4_readAugur 31 = .ok (.iconst 0, 1) := by decide +kernel
theorem dX4_readAugur_32 : decode cX4_readAugur 32 = .ok (.iconst 1, 1) := by decide +kernel
theorem dX4_readAugur_33 : decode cX4_readAugur 33 = .ok (.invokevirtual 82, 3) := by decide +kernel
theorem dX4_readAugur_36 : decode cX4_readAugur 36 = .ok (.istore_n 1, 1) := by decide +kernel
theorem dX4_readAugur_37 : decode cX4_readAugur 37 = .ok (.aload_n 0, 1) := by decide +kernel
theorem dX4_readAugur_38 : decode cX4_readAugur 38 = .ok (.ldc 109, 2) := by decide +kernel
theorem dX4_readAugur_40 : decode cX4_readAugur 40 = .ok (.invokevirtual 76, 3) := by decide +kernel
theorem dX4_readAugur_43 : decode cX4_readAugur 43 = .ok (.aload_n 0, 1) := by decide +kernel
theorem dX4_readAugur_44 : decode cX4_readAugur 44 = .ok (.iconst 0, 1) := by decide +kernel
theorem dX4_readAugur_45 : decode cX4_readAugur 45 = .ok (.aload_n 0, 1) := by decide +kernel
theorem dX4_readAugur_46 : decode cX4_readAugur 46 = .ok (.getfield 19, 3) := by decide +kernel
theorem dX4_readAugur_49 : decode cX4_readAugur 49 = .ok (.getfield 92, 3) := by decide +kernel
theorem dX4_readAugur_52 : decode cX4_readAugur 52 = .ok (.iconst 1, 1) := by decide +kernel
theorem dX4_readAugur_53 : decode cX4_readAugur 53 = .ok (.isub, 1) := by decide +kernel
theorem dX4_readAugur_54 : decode cX4_readAugur 54 = .ok (.invokevirtual 82, 3) := by decide +kernel
theorem dX4_readAugur_57 : decode cX4_readAugur 57 = .ok (.istore_n 2, 1) := by decide +kernel
theorem dX4_readAugur_58 : decode cX4_readAugur 58 = .ok (.aload_n 0, 1) := by decide +kernel
theorem dX4_readAugur_59 : decode cX4_readAugur 59 = .ok (.ldc 111, 2) := by decide +kernel
theorem dX4_readAugur_61 : decode cX4_readAugur 61 = .ok (.invokevirtual 76, 3) := by decide +kernel
theorem dX4_readAugur_64 : decode cX4_readAugur 64 = .ok (.aload_n 0, 1) := by decide +kernel
theorem dX4_readAugur_65 : decode cX4_readAugur 65 = .ok (.iload_n 2, 1) := by decide +kernel
theorem dX4_readAugur_66 : decode cX4_readAugur 66 = .ok (.aload_n 0, 1) := by decide +kernel
theorem dX4_readAugur_67 : decode cX4_readAugur 67 = .ok (.getfield 19, 3) := by decide +kernel
theorem dX4_readAugur_70 : decode cX4_readAugur 70 = .ok (.getfield 92, 3) := by decide +kernel
theorem dX4_readAugur_73 : decode cX4_readAugur 73 = .ok (.iconst 1, 1) := by decide +kernel
theorem dX4_readAugur_74 : decode cX4_readAugur 74 = .ok (.isub, 1) := by decide +kernel
theorem dX4_readAugur_75 : decode cX4_readAugur 75 = .ok (.invokevirtual 82, 3) := by decide +kernel
theorem dX4_readAugur_78 : decode cX4_readAugur 78 = .ok (.istore_n 3, 1) := by decide +kernel
theorem dX4_readAugur_79 : decode cX4_readAugur 79 = .ok (.aload_n 0, 1) := by decide +kernel
theorem dX4_readAugur_80 : decode cX4_readAugur 80 = .ok (.getfield 28, 3) := by decide +kernel
theorem dX4_readAugur_83 : decode cX4_readAugur 83 = .ok (.ifCond .ne 64, 3) := by decide +kernel
theorem dX4_readAugur_86 : decode cX4_readAugur 86 = .ok (.aload_n 0, 1) := by decide +kernel
theorem dX4_readAugur_87 : decode cX4_readAugur 87 = .ok (.getfield 19, 3) := by decide +kernel
theorem dX4_readAugur_90 : decode cX4_readAugur 90 = .ok (.getfield 113, 3) := by decide +kernel
theorem dX4_readAugur_93 : decode cX4_readAugur 93 = .ok (.aload_n 0, 1) := by decide +kernel
theorem dX4_readAugur_94 : decode cX4_readAugur 94 = .ok (.getfield 19, 3) := by decide +kernel
theorem dX4_readAugur_97 : decode cX4_readAugur 97 = .ok (.getfield 104, 3) := by decide +kernel
theorem dX4_readAugur_100 : decode cX4_readAugur 100 = .ok (.iload_n 1, 1) := by decide +kernel
theorem dX4_readAugur_101 : decode cX4_readAugur 101 = .ok (.iastore, 1) := by decide +kernel
theorem dX4_readAugur_102 : decode cX4_readAugur 102 = .ok (.aload_n 0, 1) := by decide +kernel
theorem dX4_readAugur_103 : decode cX4_readAugur 103 = .ok (.getfield 19, 3) := by decide +kernel
theorem dX4_readAugur_106 : decode cX4_readAugur 106 = .ok (.getfield 117, 3) := by decide +kernel
theorem dX4_readAugur_109 : decode cX4_readAugur 109 = .ok (.aload_n 0, 1) := by decide +kernel
theorem dX4_readAugur_110 : decode cX4_readAugur 110 = .ok (.getfield 19, 3) := by decide +kernel
theorem dX4_readAugur_113 : decode cX4_readAugur 113 = .ok (.getfield 104, 3) := by decide +kernel
theorem dX4_readAugur_116 : decode cX4_readAugur 116 = .ok (.iload_n 2, 1) := by decide +kernel
theorem dX4_readAugur_117 : decode cX4_readAugur 117 = .ok (.iastore, 1) := by decide +kernel
theorem dX4_readAugur_118 : decode cX4_readAugur 118 = .ok (.aload_n 0, 1) := by decide +kernel
theorem dX4_readAugur_119 : decode cX4_readAugur 119 = .ok (.getfield 19, 3) := by decide +kernel
theorem dX4_readAugur_122 : decode cX4_readAugur 122 = .ok (.getfield 120, 3) := by decide +kernel
theorem dX4_readAugur_125 : decode cX4_readAugur 125 = .ok (.aload_n 0, 1) := by decide +kernel
theorem dX4_readAugur_126 : decode cX4_readAugur 126 = .ok (.getfield 19, 3) := by decide +kernel
theorem dX4_readAugur_129 : decode cX4_readAugur 129 = .ok (.getfield 104, 3) := by decide +kernel
theorem dX4_readAugur_132 : decode cX4_readAugur 132 = .ok (.iload_n 3, 1) := by decide +kernel
theorem dX4_readAugur_133 : decode cX4_readAugur 133 = .ok (.iastore, 1) := by decide +kernel
theorem dX4_readAugur_134 : decode cX4_readAugur 134 = .ok (.aload_n 0, 1) := by decide +kernel
theorem dX4_readAugur_135 : decode cX4_readAugur 135 = .ok (.getfield 19, 3) := by decide +kernel
theorem dX4_readAugur_138 : decode cX4_readAugur 138 = .ok (.dup, 1) := by decide +kernel
theorem dX4_readAugur_139 : decode cX4_readAugur 139 = .ok (.getfield 104, 3) := by decide +kernel
theorem dX4_readAugur_142 : decode cX4_readAugur 142 = .ok (.iconst 1, 1) := by decide +kernel
theorem dX4_readAugur_143 : decode cX4_readAugur 143 = .ok (.iadd, 1) := by decide +kernel
theorem dX4_readAugur_144 : decode cX4_readAugur 144 = .ok (.putfield 104, 3) := by decide +kernel
theorem dX4_readAugur_147 : decode cX4_readAugur 147 = .ok (.return_, 1) := by decide +kernel
theorem dX4_readBill_0 : decode cX4_readBill 0 = .ok (.aload_n 0, 1) := by decide +kernel
theorem dX4_readBill_1 : decode cX4_readBill 1 = .ok (.getfield 19, 3) := by decide +kernel
theorem dX4_readBill_4 : decode cX4_readBill 4 = .ok (.getfield 123, 3) := by decide +kernel
theorem dX4_readBill_7 : decode cX4_readBill 7 = .ok (.bipush 8, 2) := by decide +kernel
theorem dX4_readBill_9 : decode cX4_readBill 9 = .ok (.if_icmp .lt 9, 3) := by decide +kernel
theorem dX4_readBill_12 : decode cX4_readBill 12 = .ok (.aload_n 0, 1) := by decide +kernel
theorem dX4_readBill_13 : decode cX4_readBill 13 = .ok (.iconst 3, 1) := by decide +kernel
theorem dX4_readBill_14 : decode cX4_readBill 14 = .ok (.invokevirtual 68, 3) := by decide +kernel
theorem dX4_readBill_17 : decode cX4_readBill 17 = .ok (.return_, 1) := by decide +kernel
theorem dX4_readBill_18 : decode cX4_readBill 18 = .ok (.aload_n 0, 1) := by decide +kernel
theorem dX4_readBill_19 : decode cX4_readBill 19 = .ok (.ldc 63, 2) := by decide +kernel
theorem dX4_readBill_21 : decode cX4_readBill 21 = .ok (.invokevirtual 76, 3) := by decide +kernel
theorem dX4_readBill_24 : decode cX4_readBill 24 = .ok (.aload_n 0, 1) := by decide +kernel
theorem dX4_readBill_25 : decode cX4_readBill 25 = .ok (.ldc 107, 2) := by decide +kernel
theorem dX4_readBill_27 : decode cX4_readBill 27 = .ok (.invokevirtual 76, 3) := by decide +kernel
theorem dX4_readBill_30 : decode cX4_readBill 30 = .ok (.aload_n 0, 1) := by decide +kernel
theorem dX4_readBill_31 : decode cX4_readBill 31 = .ok (.iconst 0, 1) := by decide +kernel
theorem dX4_readBill_32 : decode cX4_readBill 32 = .ok (.iconst 1, 1) := by decide +kernel
theorem dX4_readBill_33 : decode cX4_readBill 33 = .ok (.invokevirtual 82, 3) := by decide +kernel
theorem dX4_readBill_36 : decode cX4_readBill 36 = .ok (.istore_n 1, 1) := by decide +kernel
theorem dX4_readBill_37 : decode cX4_readBill 37 = .ok (.aload_n 0, 1) := by decide +kernel
theorem dX4_readBill_38 : decode cX4_readBill 38 = .ok (.ldc 126, 2) := by decide +kernel
theorem dX4_readBill_40 : decode cX4_readBill 40 = .ok (.invokevirtual 76, 3) := by decide +kernel
theorem dX4_readBill_43 : decode cX4_readBill 43 = .ok (.aload_n 0, 1) := by decide +kernel
theorem dX4_readBill_44 : decode cX4_readBill 44 = .ok (.iconst 0, 1) := by decide +kernel
theorem dX4_readBill_45 : decode cX4_readBill 45 = .ok (.bipush 99, 2) := by decide +kernel
theorem dX4_readBill_47 : decode cX4_readBill 47 = .ok (.invokevirtual 82, 3) := by decide +kernel
theorem dX4_readBill_50 : decode cX4_readBill 50 = .ok (.istore_n 2, 1) := by decide +kernel
theorem dX4_readBill_51 : decode cX4_readBill 51 = .ok (.iconst (-1), 1) := by decide +kernel
theorem dX4_readBill_52 : decode cX4_readBill 52 = .ok (.istore_n 3, 1) := by decide +kernel
theorem dX4_readBill_53 : decode cX4_readBill 53 = .ok (.aload_n 0, 1) := by decide +kernel
theorem dX4_readBill_54 : decode cX4_readBill 54 = .ok (.ldc 128, 2) := by decide +kernel
theorem dX4_readBill_56 : decode cX4_readBill 56 = .ok (.invokevirtual 51, 3) := by decide +kernel
theorem dX4_readBill_59 : decode cX4_readBill 59 = .ok (.ifCond .eq 24, 3) := by decide +kernel
theorem dX4_readBill_62 : decode cX4_readBill 62 = .ok (.aload_n 0, 1) := by decide +kernel
theorem dX4_readBill_63 : decode cX4_readBill 63 = .ok (.ldc 128, 2) := by decide +kernel
theorem dX4_readBill_65 : decode cX4_readBill 65 = .ok (.invokevirtual 76, 3) := by decide +kernel
theorem dX4_readBill_68 : decode cX4_readBill 68 = .ok (.aload_n 0, 1) := by decide +kernel
theorem dX4_readBill_69 : decode cX4_readBill 69 = .ok (.iconst 0, 1) := by decide +kernel
theorem dX4_readBill_70 : decode cX4_readBill 70 = .ok (.aload_n 0, 1) := by decide +kernel
theorem dX4_readBill_71 : decode cX4_readBill 71 = .ok (.getfield 19, 3) := by decide +kernel
theorem dX4_readBill_74 : decode cX4_readBill 74 = .ok (.getfield 123, 3) := by decide +kernel
theorem dX4_readBill_77 : decode cX4_readBill 77 = .ok (.iconst 1, 1) := by decide +kernel
theorem dX4_readBill_78 : decode cX4_readBill 78 = .ok (.isub, 1) := by decide +kernel
theorem dX4_readBill_79 : decode cX4_readBill 79 = .ok (.invokevirtual 82, 3) := by decide +kernel
theorem dX4_readBill_82 : decode cX4_readBill 82 = .ok (.istore_n 3, 1) := by decide +kernel
theorem dX4_readBill_83 : decode cX4_readBill 83 = .ok (.aload_n 0, 1) := by decide +kernel
theorem dX4_readBill_84 : decode cX4_readBill 84 = .ok (.getfield 28, 3) := by decide +kernel
theorem dX4_readBill_87 : decode cX4_readBill 87 = .ok (.ifCond .ne 64, 3) := by decide +kernel
theorem dX4_readBill_90 : decode cX4_readBill 90 = .ok (.aload_n 0, 1) := by decide +kernel
theorem dX4_readBill_91 : decode cX4_readBill 91 = .ok (.getfield 19, 3) := by decide +kernel
theorem dX4_readBill_94 : decode cX4_readBill 94 = .ok (.getfield 130, 3) := by decide +kernel
theorem dX4_readBill_97 : decode cX4_readBill 97 = .ok (.aload_n 0, 1) := by decide +kernel
theorem dX4_readBill_98 : decode cX4_readBill 98 = .ok (.getfield 19, 3) := by decide +kernel
theorem dX4_readBill_101 : decode cX4_readBill 101 = .ok (.getfield 123, 3) := by decide +kernel
theorem dX4_readBill_104 : decode cX4_readBill 104 = .ok (.iload_n 1, 1) := by decide +kernel
theorem dX4_readBill_105 : decode cX4_readBill 105 = .ok (.iastore, 1) := by decide +kernel
theorem dX4_readBill_106 : decode cX4_readBill 106 = .ok (.aload_n 0, 1) := by decide +kernel
theorem dX4_readBill_107 : decode cX4_readBill 107 = .ok (.getfield 19, 3) := by decide +kernel
theorem dX4_readBill_110 : decode cX4_readBill 110 = .ok (.getfield 133, 3) := by decide +kernel
theorem dX4_readBill_113 : decode cX4_readBill 113 = .ok (.aload_n 0, 1) := by decide +kernel
theorem dX4_readBill_114 : decode cX4_readBill 114 = .ok (.getfield 19, 3) := by decide +kernel
theorem dX4_readBill_117 : decode cX4_readBill 117 = .ok (.getfield 123, 3) := by decide +kernel
theorem dX4_readBill_120 : decode cX4_readBill 120 = .ok (.iload_n 2, 1) := by decide +kernel
theorem dX4_readBill_121 : decode cX4_readBill 121 = .ok (.iastore, 1) := by decide +kernel
theorem dX4_readBill_122 : decode cX4_readBill 122 = .ok (.aload_n 0, 1) := by decide +kernel
theorem dX4_readBill_123 : decode cX4_readBill 123 = .ok (.getfield 19, 3) := by decide +kernel
theorem dX4_readBill_126 : decode cX4_readBill 126 = .ok (.getfield 136, 3) := by decide +kernel
theorem dX4_readBill_129 : decode cX4_readBill 129 = .ok (.aload_n 0, 1) := by decide +kernel
theorem dX4_readBill_130 : decode cX4_readBill 130 = .ok (.getfield 19, 3) := by decide +kernel
theorem dX4_readBill_133 : decode cX4_readBill 133 = .ok (.getfield 123, 3) := by decide +kernel
theorem dX4_readBill_136 : decode cX4_readBill 136 = .ok (.iload_n 3, 1) := by decide +kernel
theorem dX4_readBill_137 : decode cX4_readBill 137 = .ok (.iastore, 1) := by decide +kernel
theorem dX4_readBill_138 : decode cX4_readBill 138 = .ok (.aload_n 0, 1) := by decide +kernel
theorem dX4_readBill_139 : decode cX4_readBill 139 = .ok (.getfield 19, 3) := by decide +kernel
theorem dX4_readBill_142 : decode cX4_readBill 142 = .ok (.dup, 1) := by decide +kernel
theorem dX4_readBill_143 : decode cX4_readBill 143 = .ok (.getfield 123, 3) := by decide +kernel
theorem dX4_readBill_146 : decode cX4_readBill 146 = .ok (.iconst 1, 1) := by decide +kernel
theorem dX4_readBill_147 : decode cX4_readBill 147 = .ok (.iadd, 1) := by decide +kernel
theorem dX4_readBill_148 : decode cX4_readBill 148 = .ok (.putfield 123, 3) := by decide +kernel
theorem dX4_readBill_151 : decode cX4_readBill 151 = .ok (.return_, 1) := by decide +kernel
theorem dX4_takeSign_0 : decode cX4_takeSign 0 = .ok (.aload_n 0, 1) := by decide +kernel
theorem dX4_takeSign_1 : decode cX4_takeSign 1 = .ok (.getfield 28, 3) := by decide +kernel
theorem dX4_takeSign_4 : decode cX4_takeSign 4 = .ok (.ifCond .eq 4, 3) := by decide +kernel
theorem dX4_takeSign_7 : decode cX4_takeSign 7 = .ok (.return_, 1) := by decide +kernel
theorem dX4_takeSign_8 : decode cX4_takeSign 8 = .ok (.aload_n 0, 1) := by decide +kernel
theorem dX4_takeSign_9 : decode cX4_takeSign 9 = .ok (.getfield 37, 3) := by decide +kernel
theorem dX4_takeSign_12 : decode cX4_takeSign 12 = .ok (.iconst 3, 1) := by decide +kernel
theorem dX4_takeSign_13 : decode cX4_takeSign 13 = .ok (.if_icmp .eq 9, 3) := by decide +kernel
theorem dX4_takeSign_16 : decode cX4_takeSign 16 = .ok (.aload_n 0, 1) := by decide +kernel
theorem dX4_takeSign_17 : decode cX4_takeSign 17 = .ok (.iconst 1, 1) := by decide +kernel
theorem dX4_takeSign_18 : decode cX4_takeSign 18 = .ok (.invokevirtual 68, 3) := by decide +kernel
theorem dX4_takeSign_21 : decode cX4_takeSign 21 = .ok (.return_, 1) := by decide +kernel
theorem dX4_takeSign_22 : decode cX4_takeSign 22 = .ok (.aload_n 0, 1) := by decide +kernel
theorem dX4_takeSign_23 : decode cX4_takeSign 23 = .ok (.getfield 19, 3) := by decide +kernel
theorem dX4_takeSign_26 : decode cX4_takeSign 26 = .ok (.dup, 1) := by decide +kernel
theorem dX4_takeSign_27 : decode cX4_takeSign 27 = .ok (.getfield 43, 3) := by decide +kernel
theorem dX4_takeSign_30 : decode cX4_takeSign 30 = .ok (.iconst 1, 1) := by decide +kernel
theorem dX4_takeSign_31 : decode cX4_takeSign 31 = .ok (.iadd, 1) := by decide +kernel
theorem dX4_takeSign_32 : decode cX4_takeSign 32 = .ok (.putfield 43, 3) := by decide +kernel
theorem dX4_takeSign_35 : decode cX4_takeSign 35 = .ok (.aload_n 0, 1) := by decide +kernel
theorem dX4_takeSign_36 : decode cX4_takeSign 36 = .ok (.invokevirtual 34, 3) := by decide +kernel
theorem dX4_takeSign_39 : decode cX4_takeSign 39 = .ok (.return_, 1) := by decide +kernel
theorem dX4_takeWord_0 : decode cX4_takeWord 0 = .ok (.aload_n 0, 1) := by decide +kernel
theorem dX4_takeWord_1 : decode cX4_takeWord 1 = .ok (.getfield 28, 3) := by decide +kernel
theorem dX4_takeWord_4 : decode cX4_takeWord 4 = .ok (.ifCond .eq 4, 3) := by decide +kernel
theorem dX4_takeWord_7 : decode cX4_takeWord 7 = .ok (.return_, 1) := by decide +kernel
theorem dX4_takeWord_8 : decode cX4_takeWord 8 = .ok (.aload_n 0, 1) := by decide +kernel
theorem dX4_takeWord_9 : decode cX4_takeWord 9 = .ok (.aload_n 1, 1) := by decide +kernel
theorem dX4_takeWord_10 : decode cX4_takeWord 10 = .ok (.invokevirtual 51, 3) := by decide +kernel
theorem dX4_takeWord_13 : decode cX4_takeWord 13 = .ok (.ifCond .ne 9, 3) := by decide +kernel
theorem dX4_takeWord_16 : decode cX4_takeWord 16 = .ok (.aload_n 0, 1) := by decide +kernel
theorem dX4_takeWord_17 : decode cX4_takeWord 17 = .ok (.iconst 1, 1) := by decide +kernel
theorem dX4_takeWord_18 : decode cX4_takeWord 18 = .ok (.invokevirtual 68, 3) := by decide +kernel
theorem dX4_takeWord_21 : decode cX4_takeWord 21 = .ok (.return_, 1) := by decide +kernel
theorem dX4_takeWord_22 : decode cX4_takeWord 22 = .ok (.aload_n 0, 1) := by decide +kernel
theorem dX4_takeWord_23 : decode cX4_takeWord 23 = .ok (.invokevirtual 34, 3) := by decide +kernel
theorem dX4_takeWord_26 : decode cX4_takeWord 26 = .ok (.return_, 1) := by decide +kernel
theorem dX4_takeNumber_0 : decode cX4_takeNumber 0 = .ok (.aload_n 0, 1) := by decide +kernel
theorem dX4_takeNumber_1 : decode cX4_takeNumber 1 = .ok (.getfield 28, 3) := by decide +kernel
theorem dX4_takeNumber_4 : decode cX4_takeNumber 4 = .ok (.ifCond .eq 5, 3) := by decide +kernel
theorem dX4_takeNumber_7 : decode cX4_takeNumber 7 = .ok (.iconst 0, 1) := by decide +kernel
theorem dX4_takeNumber_8 : decode cX4_takeNumber 8 = .ok (.ireturn, 1) := by decide +kernel
theorem dX4_takeNumber_9 : decode cX4_takeNumber 9 = .ok (.aload_n 0, 1) := by decide +kernel
theorem dX4_takeNumber_10 : decode cX4_takeNumber 10 = .ok (.getfield 37, 3) := by decide +kernel
theorem dX4_takeNumber_13 : decode cX4_takeNumber 13 = .ok (.iconst 2, 1) := by decide +kernel
theorem dX4_takeNumber_14 : decode cX4_takeNumber 14 = .ok (.if_icmp .eq 10, 3) := by decide +kernel
theorem dX4_takeNumber_17 : decode cX4_takeNumber 17 = .ok (.aload_n 0, 1) := by decide +kernel
theorem dX4_takeNumber_18 : decode cX4_takeNumber 18 = .ok (.iconst 1, 1) := by decide +kernel
theorem dX4_takeNumber_19 : decode cX4_takeNumber 19 = .ok (.invokevirtual 68, 3) := by decide +kernel
theorem dX4_takeNumber_22 : decode cX4_takeNumber 22 = .ok (.iconst 0, 1) := by decide +kernel
theorem dX4_takeNumber_23 : decode cX4_takeNumber 23 = .ok (.ireturn, 1) := by decide +kernel
theorem dX4_takeNumber_24 : decode cX4_takeNumber 24 = .ok (.aload_n 0, 1) := by decide +kernel
theorem dX4_takeNumber_25 : decode cX4_takeNumber 25 = .ok (.getfield 139, 3) := by decide +kernel
theorem dX4_takeNumber_28 : decode cX4_takeNumber 28 = .ok (.iload_n 1, 1) := by decide +kernel
theorem dX4_takeNumber_29 : decode cX4_takeNumber 29 = .ok (.if_icmp .lt 11, 3) := by decide +kernel
theorem dX4_takeNumber_32 : decode cX4_takeNumber 32 = .ok (.aload_n 0, 1) := by decide +kernel
theorem dX4_takeNumber_33 : decode cX4_takeNumber 33 = .ok (.getfield 139, 3) := by decide +kernel
theorem dX4_takeNumber_36 : decode cX4_takeNumber 36 = .ok (.iload_n 2, 1) := by decide +kernel
theorem dX4_takeNumber_37 : decode cX4_takeNumber 37 = .ok (.if_icmp .le 10, 3) := by decide +kernel
theorem dX4_takeNumber_40 : decode cX4_takeNumber 40 = .ok (.aload_n 0, 1) := by decide +kernel
theorem dX4_takeNumber_41 : decode cX4_takeNumber 41 = .ok (.iconst 2, 1) := by decide +kernel
theorem dX4_takeNumber_42 : decode cX4_takeNumber 42 = .ok (.invokevirtual 68, 3) := by decide +kernel
theorem dX4_takeNumber_45 : decode cX4_takeNumber 45 = .ok (.iconst 0, 1) := by decide +kernel
theorem dX4_takeNumber_46 : decode cX4_takeNumber 46 = .ok (.ireturn, 1) := by decide +kernel
theorem dX4_takeNumber_47 : decode cX4_takeNumber 47 = .ok (.aload_n 0, 1) := by decide +kernel
theorem dX4_takeNumber_48 : decode cX4_takeNumber 48 = .ok (.getfield 139, 3) := by decide +kernel
theorem dX4_takeNumber_51 : decode cX4_takeNumber 51 = .ok (.istore_n 3, 1) := by decide +kernel
theorem dX4_takeNumber_52 : decode cX4_takeNumber 52 = .ok (.aload_n 0, 1) := by decide +kernel
theorem dX4_takeNumber_53 : decode cX4_takeNumber 53 = .ok (.invokevirtual 34, 3) := by decide +kernel
theorem dX4_takeNumber_56 : decode cX4_takeNumber 56 = .ok (.iload_n 3, 1) := by decide +kernel
theorem dX4_takeNumber_57 : decode cX4_takeNumber 57 = .ok (.ireturn, 1) := by decide +kernel
theorem dX4_fail_0 : decode cX4_fail 0 = .ok (.aload_n 0, 1) := by decide +kernel
theorem dX4_fail_1 : decode cX4_fail 1 = .ok (.getfield 28, 3) := by decide +kernel
theorem dX4_fail_4 : decode cX4_fail 4 = .ok (.ifCond .ne 16, 3) := by decide +kernel
theorem dX4_fail_7 : decode cX4_fail 7 = .ok (.aload_n 0, 1) := by decide +kernel
theorem dX4_fail_8 : decode cX4_fail 8 = .ok (.iload_n 1, 1) := by decide +kernel
theorem dX4_fail_9 : decode cX4_fail 9 = .ok (.putfield 28, 3) := by decide +kernel
theorem dX4_fail_12 : decode cX4_fail 12 = .ok (.aload_n 0, 1) := by decide +kernel
theorem dX4_fail_13 : decode cX4_fail 13 = .ok (.aload_n 0, 1) := by decide +kernel
theorem dX4_fail_14 : decode cX4_fail 14 = .ok (.getfield 142, 3) := by decide +kernel
theorem dX4_fail_17 : decode cX4_fail 17 = .ok (.putfield 9, 3) := by decide +kernel
theorem dX4_fail_20 : decode cX4_fail 20 = .ok (.return_, 1) := by decide +kernel
theorem dX4_isWord_0 : decode cX4_isWord 0 = .ok (.aload_n 0, 1) := by decide +kernel
theorem dX4_isWord_1 : decode cX4_isWord 1 = .ok (.getfield 37, 3) := by decide +kernel
theorem dX4_isWord_4 : decode cX4_isWord 4 = .ok (.iconst 1, 1) := by decide +kernel
theorem dX4_isWord_5 : decode cX4_isWord 5 = .ok (.if_icmp .ne 19, 3) := by decide +kernel
theorem dX4_isWord_8 : decode cX4_isWord 8 = .ok (.aload_n 0, 1) := by decide +kernel
theorem dX4_isWord_9 : decode cX4_isWord 9 = .ok (.getfield 31, 3) := by decide +kernel
theorem dX4_isWord_12 : decode cX4_isWord 12 = .ok (.aload_n 0, 1) := by decide +kernel
theorem dX4_isWord_13 : decode cX4_isWord 13 = .ok (.getfield 142, 3) := by decide +kernel
theorem dX4_isWord_16 : decode cX4_isWord 16 = .ok (.isub, 1) := by decide +kernel
theorem dX4_isWord_17 : decode cX4_isWord 17 = .ok (.aload_n 1, 1) := by decide +kernel
theorem dX4_isWord_18 : decode cX4_isWord 18 = .ok (.invokevirtual 145, 3) := by decide +kernel
theorem dX4_isWord_21 : decode cX4_isWord 21 = .ok (.if_icmp .eq 5, 3) := by decide +kernel
theorem dX4_isWord_24 : decode cX4_isWord 24 = .ok (.iconst 0, 1) := by decide +kernel
theorem dX4_isWord_25 : decode cX4_isWord 25 = .ok (.ireturn, 1) := by decide +kernel
theorem dX4_isWord_26 : decode cX4_isWord 26 = .ok (.iconst 0, 1) := by decide +kernel
theorem dX4_isWord_27 : decode cX4_isWord 27 = .ok (.istore_n 2, 1) := by decide +kernel
theorem dX4_isWord_28 : decode cX4_isWord 28 = .ok (.iload_n 2, 1) := by decide +kernel
theorem dX4_isWord_29 : decode cX4_isWord 29 = .ok (.aload_n 1, 1) := by decide +kernel
theorem dX4_isWord_30 : decode cX4_isWord 30 = .ok (.invokevirtual 145, 3) := by decide +kernel
theorem dX4_isWord_33 : decode cX4_isWord 33 = .ok (.if_icmp .ge 29, 3) := by decide +kernel
theorem dX4_isWord_36 : decode cX4_isWord 36 = .ok (.aload_n 0, 1) := by decide +kernel
theorem dX4_isWord_37 : decode cX4_isWord 37 = .ok (.aload_n 0, 1) := by decide +kernel
theorem dX4_isWord_38 : decode cX4_isWord 38 = .ok (.getfield 142, 3) := by decide +kernel
theorem dX4_isWord_41 : decode cX4_isWord 41 = .ok (.iload_n 2, 1) := by decide +kernel
theorem dX4_isWord_42 : decode cX4_isWord 42 = .ok (.iadd, 1) := by decide +kernel
theorem dX4_isWord_43 : decode cX4_isWord 43 = .ok (.invokevirtual 151, 3) := by decide +kernel
theorem dX4_isWord_46 : decode cX4_isWord 46 = .ok (.aload_n 1, 1) := by decide +kernel
theorem dX4_isWord_47 : decode cX4_isWord 47 = .ok (.iload_n 2, 1) := by decide +kernel
theorem dX4_isWord_48 : decode cX4_isWord 48 = .ok (.invokevirtual 155, 3) := by decide +kernel
theorem dX4_isWord_51 : decode cX4_isWord 51 = .ok (.if_icmp .eq 5, 3) := by decide +kernel
theorem dX4_isWord_54 : decode cX4_isWord 54 = .ok (.iconst 0, 1) := by decide +kernel
theorem dX4_isWord_55 : decode cX4_isWord 55 = .ok (.ireturn, 1) := by decide +kernel
theorem dX4_isWord_56 : decode cX4_isWord 56 = .ok (.iinc 2 1, 3) := by decide +kernel
theorem dX4_isWord_59 : decode cX4_isWord 59 = .ok (.goto (-31), 3) := by decide +kernel
theorem dX4_isWord_62 : decode cX4_isWord 62 = .ok (.iconst 1, 1) := by decide +kernel
theorem dX4_isWord_63 : decode cX4_isWord 63 = .ok (.ireturn, 1) := by decide +kernel
theorem dX4_step_0 : decode cX4_step 0 = .ok (.aload_n 0, 1) := by decide +kernel
theorem dX4_step_1 : decode cX4_step 1 = .ok (.aload_n 0, 1) := by decide +kernel
theorem dX4_step_2 : decode cX4_step 2 = .ok (.getfield 31, 3) := by decide +kernel
theorem dX4_step_5 : decode cX4_step 5 = .ok (.putfield 142, 3) := by decide +kernel
theorem dX4_step_8 : decode cX4_step 8 = .ok (.aload_n 0, 1) := by decide +kernel
theorem dX4_step_9 : decode cX4_step 9 = .ok (.getfield 142, 3) := by decide +kernel
theorem dX4_step_12 : decode cX4_step 12 = .ok (.aload_n 0, 1) := by decide +kernel
theorem dX4_step_13 : decode cX4_step 13 = .ok (.getfield 15, 3) := by decide +kernel
theorem dX4_step_16 : decode cX4_step 16 = .ok (.getfield 159, 3) := by decide +kernel
theorem dX4_step_19 : decode cX4_step 19 = .ok (.if_icmp .ge 31, 3) := by decide +kernel
theorem dX4_step_22 : decode cX4_step 22 = .ok (.aload_n 0, 1) := by decide +kernel
theorem dX4_step_23 : decode cX4_step 23 = .ok (.aload_n 0, 1) := by decide +kernel
theorem dX4_step_24 : decode cX4_step 24 = .ok (.getfield 142, 3) := by decide +kernel
theorem dX4_step_27 : decode cX4_step 27 = .ok (.invokevirtual 151, 3) := by decide +kernel
theorem dX4_step_30 : decode cX4_step 30 = .ok (.invokestatic 163, 3) := by decide +kernel
theorem dX4_step_33 : decode cX4_step 33 = .ok (.iconst 5, 1) := by decide +kernel
theorem dX4_step_34 : decode cX4_step 34 = .ok (.if_icmp .ne 16, 3) := by decide +kernel
theorem dX4_step_37 : decode cX4_step 37 = .ok (.aload_n 0, 1) := by decide +kernel
theorem dX4_step_38 : decode cX4_step 38 = .ok (.dup, 1) := by decide +kernel
theorem dX4_step_39 : decode cX4_step 39 = .ok (.getfield 142, 3) := by decide +kernel
theorem dX4_step_42 : decode cX4_step 42 = .ok (.iconst 1, 1) := by decide +kernel
theorem dX4_step_43 : decode cX4_step 43 = .ok (.iadd, 1) := by decide +kernel
theorem dX4_step_44 : decode cX4_step 44 = .ok (.putfield 142, 3) := by decide +kernel
theorem dX4_step_47 : decode cX4_step 47 = .ok (.goto (-39), 3) := by decide +kernel
theorem dX4_step_50 : decode cX4_step 50 = .ok (.aload_n 0, 1) := by decide +kernel
theorem dX4_step_51 : decode cX4_step 51 = .ok (.aload_n 0, 1) := by decide +kernel
theorem dX4_step_52 : decode cX4_step 52 = .ok (.getfield 142, 3) := by decide +kernel
theorem dX4_step_55 : decode cX4_step 55 = .ok (.putfield 31, 3) := by decide +kernel
theorem dX4_step_58 : decode cX4_step 58 = .ok (.aload_n 0, 1) := by decide +kernel
theorem dX4_step_59 : decode cX4_step 59 = .ok (.aload_n 0, 1) := by decide +kernel
theorem dX4_step_60 : decode cX4_step 60 = .ok (.aload_n 0, 1) := by decide +kernel
theorem dX4_step_61 : decode cX4_step 61 = .ok (.getfield 142, 3) := by decide +kernel
theorem dX4_step_64 : decode cX4_step 64 = .ok (.invokevirtual 151, 3) := by decide +kernel
theorem dX4_step_67 : decode cX4_step 67 = .ok (.invokestatic 163, 3) := by decide +kernel
theorem dX4_step_70 : decode cX4_step 70 = .ok (.putfield 37, 3) := by decide +kernel
theorem dX4_step_73 : decode cX4_step 73 = .ok (.aload_n 0, 1) := by decide +kernel
theorem dX4_step_74 : decode cX4_step 74 = .ok (.iconst 0, 1) := by decide +kernel
theorem dX4_step_75 : decode cX4_step 75 = .ok (.putfield 139, 3) := by decide +kernel
theorem dX4_step_78 : decode cX4_step 78 = .ok (.aload_n 0, 1) := by decide +kernel
theorem dX4_step_79 : decode cX4_step 79 = .ok (.getfield 37, 3) := by decide +kernel
theorem dX4_step_82 : decode cX4_step 82 = .ok (.ifCond .eq 7, 3) := by decide +kernel
theorem dX4_step_85 : decode cX4_step 85 = .ok (.iconst 1, 1) := by decide +kernel
theorem dX4_step_86 : decode cX4_step 86 = .ok (.goto 4, 3) := by decide +kernel
theorem dX4_step_89 : decode cX4_step 89 = .ok (.iconst 0, 1) := by decide +kernel
theorem dX4_step_90 : decode cX4_step 90 = .ok (.istore_n 1, 1) := by decide +kernel
theorem dX4_step_91 : decode cX4_step 91 = .ok (.iload_n 1, 1) := by decide +kernel
theorem dX4_step_92 : decode cX4_step 92 = .ok (.ifCond .eq 107, 3) := by decide +kernel
theorem dX4_step_95 : decode cX4_step 95 = .ok (.aload_n 0, 1) := by decide +kernel
theorem dX4_step_96 : decode cX4_step 96 = .ok (.getfield 31, 3) := by decide +kernel
theorem dX4_step_99 : decode cX4_step 99 = .ok (.aload_n 0, 1) := by decide +kernel
theorem dX4_step_100 : decode cX4_step 100 = .ok (.getfield 15, 3) := by decide +kernel
theorem dX4_step_103 : decode cX4_step 103 = .ok (.getfield 159, 3) := by decide +kernel
theorem dX4_step_106 : decode cX4_step 106 = .ok (.if_icmp .ge 93, 3) := by decide +kernel
theorem dX4_step_109 : decode cX4_step 109 = .ok (.aload_n 0, 1) := by decide +kernel
theorem dX4_step_110 : decode cX4_step 110 = .ok (.getfield 37, 3) := by decide +kernel
theorem dX4_step_113 : decode cX4_step 113 = .ok (.iconst 2, 1) := by decide +kernel
theorem dX4_step_114 : decode cX4_step 114 = .ok (.if_icmp .ne 32, 3) := by decide +kernel
theorem dX4_step_117 : decode cX4_step 117 = .ok (.aload_n 0, 1) := by decide +kernel
theorem dX4_step_118 : decode cX4_step 118 = .ok (.sipush 1000, 3) := by decide +kernel
theorem dX4_step_121 : decode cX4_step 121 = .ok (.aload_n 0, 1) := by decide +kernel
theorem dX4_step_122 : decode cX4_step 122 = .ok (.getfield 139, 3) := by decide +kernel
theorem dX4_step_125 : decode cX4_step 125 = .ok (.bipush 10, 2) := by decide +kernel
theorem dX4_step_127 : decode cX4_step 127 = .ok (.imul, 1) := by decide +kernel
theorem dX4_step_128 : decode cX4_step 128 = .ok (.aload_n 0, 1) := by decide +kernel
theorem dX4_step_129 : decode cX4_step 129 = .ok (.aload_n 0, 1) := by decide +kernel
theorem dX4_step_130 : decode cX4_step 130 = .ok (.getfield 31, 3) := by decide +kernel
theorem dX4_step_133 : decode cX4_step 133 = .ok (.invokevirtual 151, 3) := by decide +kernel
theorem dX4_step_136 : decode cX4_step 136 = .ok (.iadd, 1) := by decide +kernel
theorem dX4_step_137 : decode cX4_step 137 = .ok (.bipush 48, 2) := by decide +kernel
theorem dX4_step_139 : decode cX4_step 139 = .ok (.isub, 1) := by decide +kernel
theorem dX4_step_140 : decode cX4_step 140 = .ok (.invokestatic 166, 3) := by decide +kernel
theorem dX4_step_143 : decode cX4_step 143 = .ok (.putfield 139, 3) := by decide +kernel
theorem dX4_step_146 : decode cX4_step 146 = .ok (.aload_n 0, 1) := by decide +kernel
theorem dX4_step_147 : decode cX4_step 147 = .ok (.dup, 1) := by decide +kernel
theorem dX4_step_148 : decode cX4_step 148 = .ok (.getfield 31, 3) := by decide +kernel
theorem dX4_step_151 : decode cX4_step 151 = .ok (.iconst 1, 1) := by decide +kernel
theorem dX4_step_152 : decode cX4_step 152 = .ok (.iadd, 1) := by decide +kernel
theorem dX4_step_153 : decode cX4_step 153 = .ok (.putfield 31, 3) := by decide +kernel
theorem dX4_step_156 : decode cX4_step 156 = .ok (.aload_n 0, 1) := by decide +kernel
theorem dX4_step_157 : decode cX4_step 157 = .ok (.getfield 37, 3) := by decide +kernel
theorem dX4_step_160 : decode cX4_step 160 = .ok (.iconst 1, 1) := by decide +kernel
theorem dX4_step_161 : decode cX4_step 161 = .ok (.if_icmp .eq 11, 3) := by decide +kernel
theorem dX4_step_164 : decode cX4_step 164 = .ok (.aload_n 0, 1) := by decide +kernel
theorem dX4_step_165 : decode cX4_step 165 = .ok (.getfield 37, 3) := by decide +kernel
theorem dX4_step_168 : decode cX4_step 168 = .ok (.iconst 2, 1) := by decide +kernel
theorem dX4_step_169 : decode cX4_step 169 = .ok (.if_icmp .ne 25, 3) := by decide +kernel
theorem dX4_step_172 : decode cX4_step 172 = .ok (.aload_n 0, 1) := by decide +kernel
theorem dX4_step_173 : decode cX4_step 173 = .ok (.aload_n 0, 1) := by decide +kernel
theorem dX4_step_174 : decode cX4_step 174 = .ok (.getfield 31, 3) := by decide +kernel
theorem dX4_step_177 : decode cX4_step 177 = .ok (.invokevirtual 151, 3) := by decide +kernel
theorem dX4_step_180 : decode cX4_step 180 = .ok (.invokestatic 163, 3) := by decide +kernel
theorem dX4_step_183 : decode cX4_step 183 = .ok (.aload_n 0, 1) := by decide +kernel
theorem dX4_step_184 : decode cX4_step 184 = .ok (.getfield 37, 3) := by decide +kernel
theorem dX4_step_187 : decode cX4_step 187 = .ok (.if_icmp .ne 7, 3) := by decide +kernel
theorem dX4_step_190 : decode cX4_step 190 = .ok (.iconst 1, 1) := by decide +kernel
theorem dX4_step_191 : decode cX4_step 191 = .ok (.goto 4, 3) := by decide +kernel
theorem dX4_step_194 : decode cX4_step 194 = .ok (.iconst 0, 1) := by decide +kernel
theorem dX4_step_195 : decode cX4_step 195 = .ok (.istore_n 1, 1) := by decide +kernel
theorem dX4_step_196 : decode cX4_step 196 = .ok (.goto (-105), 3) := by decide +kernel
theorem dX4_step_199 : decode cX4_step 199 = .ok (.return_, 1) := by decide +kernel
theorem dX4_byteAt_0 : decode cX4_byteAt 0 = .ok (.iload_n 1, 1) := by decide +kernel
theorem dX4_byteAt_1 : decode cX4_byteAt 1 = .ok (.ifCond .lt 26, 3) := by decide +kernel
theorem dX4_byteAt_4 : decode cX4_byteAt 4 = .ok (.iload_n 1, 1) := by decide +kernel
theorem dX4_byteAt_5 : decode cX4_byteAt 5 = .ok (.aload_n 0, 1) := by decide +kernel
theorem dX4_byteAt_6 : decode cX4_byteAt 6 = .ok (.getfield 15, 3) := by decide +kernel
theorem dX4_byteAt_9 : decode cX4_byteAt 9 = .ok (.getfield 159, 3) := by decide +kernel
theorem dX4_byteAt_12 : decode cX4_byteAt 12 = .ok (.if_icmp .ge 15, 3) := by decide +kernel
theorem dX4_byteAt_15 : decode cX4_byteAt 15 = .ok (.iload_n 1, 1) := by decide +kernel
theorem dX4_byteAt_16 : decode cX4_byteAt 16 = .ok (.aload_n 0, 1) := by decide +kernel
theorem dX4_byteAt_17 : decode cX4_byteAt 17 = .ok (.getfield 15, 3) := by decide +kernel
theorem dX4_byteAt_20 : decode cX4_byteAt 20 = .ok (.getfield 171, 3) := by decide +kernel
theorem dX4_byteAt_23 : decode cX4_byteAt 23 = .ok (.arraylength, 1) := by decide +kernel
theorem dX4_byteAt_24 : decode cX4_byteAt 24 = .ok (.if_icmp .lt 5, 3) := by decide +kernel
theorem dX4_byteAt_27 : decode cX4_byteAt 27 = .ok (.iconst (-1), 1) := by decide +kernel
theorem dX4_byteAt_28 : decode cX4_byteAt 28 = .ok (.ireturn, 1) := by decide +kernel
theorem dX4_byteAt_29 : decode cX4_byteAt 29 = .ok (.aload_n 0, 1) := by decide +kernel
theorem dX4_byteAt_30 : decode cX4_byteAt 30 = .ok (.getfield 15, 3) := by decide +kernel
theorem dX4_byteAt_33 : decode cX4_byteAt 33 = .ok (.getfield 171, 3) := by decide +kernel
theorem dX4_byteAt_36 : decode cX4_byteAt 36 = .ok (.iload_n 1, 1) := by decide +kernel
theorem dX4_byteAt_37 : decode cX4_byteAt 37 = .ok (.baload, 1) := by decide +kernel
theorem dX4_byteAt_38 : decode cX4_byteAt 38 = .ok (.sipush 255, 3) := by decide +kernel
theorem dX4_byteAt_41 : decode cX4_byteAt 41 = .ok (.iand, 1) := by decide +kernel
theorem dX4_byteAt_42 : decode cX4_byteAt 42 = .ok (.ireturn, 1) := by decide +kernel
theorem dX4_kindOf_0 : decode cX4_kindOf 0 = .ok (.iload_n 0, 1) := by decide +kernel
theorem dX4_kindOf_1 : decode cX4_kindOf 1 = .ok (.iconst (-1), 1) := by decide +kernel
theorem dX4_kindOf_2 : decode cX4_kindOf 2 = .ok (.if_icmp .ne 5, 3) := by decide +kernel
theorem dX4_kindOf_5 : decode cX4_kindOf 5 = .ok (.iconst 0, 1) := by decide +kernel
theorem dX4_kindOf_6 : decode cX4_kindOf 6 = .ok (.ireturn, 1) := by decide +kernel
theorem dX4_kindOf_7 : decode cX4_kindOf 7 = .ok (.iload_n 0, 1) := by decide +kernel
theorem dX4_kindOf_8 : decode cX4_kindOf 8 = .ok (.bipush 32, 2) := by decide +kernel
theorem dX4_kindOf_10 : decode cX4_kindOf 10 = .ok (.if_icmp .eq 9, 3) := by decide +kernel
theorem dX4_kindOf_13 : decode cX4_kindOf 13 = .ok (.iload_n 0, 1) := by decide +kernel
theorem dX4_kindOf_14 : decode cX4_kindOf 14 = .ok (.bipush 10, 2) := by decide +kernel
theorem dX4_kindOf_16 : decode cX4_kindOf 16 = .ok (.if_icmp .ne 5, 3) := by decide +kernel
theorem dX4_kindOf_19 : decode cX4_kindOf 19 = .ok (.iconst 5, 1) := by decide +kernel
theorem dX4_kindOf_20 : decode cX4_kindOf 20 = .ok (.ireturn, 1) := by decide +kernel
theorem dX4_kindOf_21 : decode cX4_kindOf 21 = .ok (.iload_n 0, 1) := by decide +kernel
theorem dX4_kindOf_22 : decode cX4_kindOf 22 = .ok (.bipush 97, 2) := by decide +kernel
theorem dX4_kindOf_24 : decode cX4_kindOf 24 = .ok (.if_icmp .lt 11, 3) := by decide +kernel
theorem dX4_kindOf_27 : decode cX4_kindOf 27 = .ok (.iload_n 0, 1) := by decide +kernel
theorem dX4_kindOf_28 : decode cX4_kindOf 28 = .ok (.bipush 122, 2) := by decide +kernel
theorem dX4_kindOf_30 : decode cX4_kindOf 30 = .ok (.if_icmp .gt 5, 3) := by decide +kernel
theorem dX4_kindOf_33 : decode cX4_kindOf 33 = .ok (.iconst 1, 1) := by decide +kernel
theorem dX4_kindOf_34 : decode cX4_kindOf 34 = .ok (.ireturn, 1) := by decide +kernel
theorem dX4_kindOf_35 : decode cX4_kindOf 35 = .ok (.iload_n 0, 1) := by decide +kernel
theorem dX4_kindOf_36 : decode cX4_kindOf 36 = .ok (.bipush 48, 2) := by decide +kernel
theorem dX4_kindOf_38 : decode cX4_kindOf 38 = .ok (.if_icmp .lt 11, 3) := by decide +kernel
theorem dX4_kindOf_41 : decode cX4_kindOf 41 = .ok (.iload_n 0, 1) := by decide +kernel
theorem dX4_kindOf_42 : decode cX4_kindOf 42 = .ok (.bipush 57, 2) := by decide +kernel
theorem dX4_kindOf_44 : decode cX4_kindOf 44 = .ok (.if_icmp .gt 5, 3) := by decide +kernel
theorem dX4_kindOf_47 : decode cX4_kindOf 47 = .ok (.iconst 2, 1) := by decide +kernel
theorem dX4_kindOf_48 : decode cX4_kindOf 48 = .ok (.ireturn, 1) := by decide +kernel
theorem dX4_kindOf_49 : decode cX4_kindOf 49 = .ok (.iload_n 0, 1) := by decide +kernel
theorem dX4_kindOf_50 : decode cX4_kindOf 50 = .ok (.bipush 59, 2) := by decide +kernel
theorem dX4_kindOf_52 : decode cX4_kindOf 52 = .ok (.if_icmp .ne 7, 3) := by decide +kernel
theorem dX4_kindOf_55 : decode cX4_kindOf 55 = .ok (.iconst 3, 1) := by decide +kernel
theorem dX4_kindOf_56 : decode cX4_kindOf 56 = .ok (.goto 4, 3) := by decide +kernel
theorem dX4_kindOf_59 : decode cX4_kindOf 59 = .ok (.iconst 4, 1) := by decide +kernel
theorem dX4_kindOf_60 : decode cX4_kindOf 60 = .ok (.ireturn, 1) := by decide +kernel
theorem dX5_isThere_0 : decode cX5_isThere 0 = .ok (.aload_n 0, 1) := by decide +kernel
theorem dX5_isThere_1 : decode cX5_isThere 1 = .ok (.getfield 15, 3) := by decide +kernel
theorem dX5_isThere_4 : decode cX5_isThere 4 = .ok (.iconst (-1), 1) := by decide +kernel
theorem dX5_isThere_5 : decode cX5_isThere 5 = .ok (.if_icmp .eq 7, 3) := by decide +kernel
theorem dX5_isThere_8 : decode cX5_isThere 8 = .ok (.iconst 1, 1) := by decide +kernel
theorem dX5_isThere_9 : decode cX5_isThere 9 = .ok (.goto 4, 3) := by decide +kernel
theorem dX5_isThere_12 : decode cX5_isThere 12 = .ok (.iconst 0, 1) := by decide +kernel
theorem dX5_isThere_13 : decode cX5_isThere 13 = .ok (.ireturn, 1) := by decide +kernel
theorem dX5_begin_0 : decode cX5_begin 0 = .ok (.aload_n 0, 1) := by decide +kernel
theorem dX5_begin_1 : decode cX5_begin 1 = .ok (.iload_n 1, 1) := by decide +kernel
theorem dX5_begin_2 : decode cX5_begin 2 = .ok (.putfield 15, 3) := by decide +kernel
theorem dX5_begin_5 : decode cX5_begin 5 = .ok (.aload_n 0, 1) := by decide +kernel
theorem dX5_begin_6 : decode cX5_begin 6 = .ok (.iload_n 2, 1) := by decide +kernel
theorem dX5_begin_7 : decode cX5_begin 7 = .ok (.putfield 19, 3) := by decide +kernel
theorem dX5_begin_10 : decode cX5_begin 10 = .ok (.iconst 0, 1) := by decide +kernel
theorem dX5_begin_11 : decode cX5_begin 11 = .ok (.istore_n 3, 1) := by decide +kernel
theorem dX5_begin_12 : decode cX5_begin 12 = .ok (.iload_n 3, 1) := by decide +kernel
theorem dX5_begin_13 : decode cX5_begin 13 = .ok (.bipush 60, 2) := by decide +kernel
theorem dX5_begin_15 : decode cX5_begin 15 = .ok (.if_icmp .ge 16, 3) := by decide +kernel
theorem dX5_begin_18 : decode cX5_begin 18 = .ok (.aload_n 0, 1) := by decide +kernel
theorem dX5_begin_19 : decode cX5_begin 19 = .ok (.getfield 9, 3) := by decide +kernel
theorem dX5_begin_22 : decode cX5_begin 22 = .ok (.iload_n 3, 1) := by decide +kernel
theorem dX5_begin_23 : decode cX5_begin 23 = .ok (.lconst 0, 1) := by decide +kernel
theorem dX5_begin_24 : decode cX5_begin 24 = .ok (.lastore, 1) := by decide +kernel
theorem dX5_begin_25 : decode cX5_begin 25 = .ok (.iinc 3 1, 3) := by decide +kernel
theorem dX5_begin_28 : decode cX5_begin 28 = .ok (.goto (-16), 3) := by decide +kernel
theorem dX5_begin_31 : decode cX5_begin 31 = .ok (.return_, 1) := by decide +kernel
theorem dX5_cut_0 : decode cX5_cut 0 = .ok (.aload_n 0, 1) := by decide +kernel
theorem dX5_cut_1 : decode cX5_cut 1 = .ok (.getfield 15, 3) := by decide +kernel
theorem dX5_cut_4 : decode cX5_cut 4 = .ok (.tableswitch 42 0 2 #[28, 33, 38], 28) := by decide +kernel
theorem dX5_cut_32 : decode cX5_cut 32 = .ok (.lload_n 1, 1) := by decide +kernel
theorem dX5_cut_33 : decode cX5_cut 33 = .ok (.l2i, 1) := by decide +kernel
theorem dX5_cut_34 : decode cX5_cut 34 = .ok (.i2b, 1) := by decide +kernel
theorem dX5_cut_35 : decode cX5_cut 35 = .ok (.i2l, 1) := by decide +kernel
theorem dX5_cut_36 : decode cX5_cut 36 = .ok (.lreturn, 1) := by decide +kernel
theorem dX5_cut_37 : decode cX5_cut 37 = .ok (.lload_n 1, 1) := by decide +kernel
theorem dX5_cut_38 : decode cX5_cut 38 = .ok (.l2i, 1) := by decide +kernel
theorem dX5_cut_39 : decode cX5_cut 39 = .ok (.i2s, 1) := by decide +kernel
theorem dX5_cut_40 : decode cX5_cut 40 = .ok (.i2l, 1) := by decide +kernel
theorem dX5_cut_41 : decode cX5_cut 41 = .ok (.lreturn, 1) := by decide +kernel
theorem dX5_cut_42 : decode cX5_cut 42 = .ok (.lload_n 1, 1) := by decide +kernel
theorem dX5_cut_43 : decode cX5_cut 43 = .ok (.l2i, 1) := by decide +kernel
theorem dX5_cut_44 : decode cX5_cut 44 = .ok (.i2l, 1) := by decide +kernel
theorem dX5_cut_45 : decode cX5_cut 45 = .ok (.lreturn, 1) := by decide +kernel
theorem dX5_cut_46 : decode cX5_cut 46 = .ok (.lload_n 1, 1) := by decide +kernel
theorem dX5_cut_47 : decode cX5_cut 47 = .ok (.lreturn, 1) := by decide +kernel
theorem dX5_reaches_0 : decode cX5_reaches 0 = .ok (.iload_n 1, 1) := by decide +kernel
theorem dX5_reaches_1 : decode cX5_reaches 1 = .ok (.ifCond .lt 29, 3) := by decide +kernel
theorem dX5_reaches_4 : decode cX5_reaches 4 = .ok (.iload_n 2, 1) := by decide +kernel
theorem dX5_reaches_5 : decode cX5_reaches 5 = .ok (.ifCond .lt 25, 3) := by decide +kernel
theorem dX5_reaches_8 : decode cX5_reaches 8 = .ok (.iload_n 1, 1) := by decide +kernel
theorem dX5_reaches_9 : decode cX5_reaches 9 = .ok (.aload_n 0, 1) := by decide +kernel
theorem dX5_reaches_10 : decode cX5_reaches 10 = .ok (.getfield 19, 3) := by decide +kernel
theorem dX5_reaches_13 : decode cX5_reaches 13 = .ok (.if_icmp .gt 17, 3) := by decide +kernel
theorem dX5_reaches_16 : decode cX5_reaches 16 = .ok (.iload_n 2, 1) := by decide +kernel
theorem dX5_reaches_17 : decode cX5_reaches 17 = .ok (.aload_n 0, 1) := by decide +kernel
theorem dX5_reaches_18 : decode cX5_reaches 18 = .ok (.getfield 19, 3) := by decide +kernel
theorem dX5_reaches_21 : decode cX5_reaches 21 = .ok (.iload_n 1, 1) := by decide +kernel
theorem dX5_reaches_22 : decode cX5_reaches 22 = .ok (.isub, 1) := by decide +kernel
theorem dX5_reaches_23 : decode cX5_reaches 23 = .ok (.if_icmp .gt 7, 3) := by decide +kernel
theorem dX5_reaches_26 : decode cX5_reaches 26 = .ok (.iconst 1, 1) := by decide +kernel
theorem dX5_reaches_27 : decode cX5_reaches 27 = .ok (.goto 4, 3) := by decide +kernel
theorem dX5_reaches_30 : decode cX5_reaches 30 = .ok (.iconst 0, 1) := by decide +kernel
theorem dX5_reaches_31 : decode cX5_reaches 31 = .ok (.ireturn, 1) := by decide +kernel
theorem dX6_play_0 : decode cX6_play 0 = .ok (.aload_n 0, 1) := by decide +kernel
theorem dX6_play_1 : decode cX6_play 1 = .ok (.aload_n 1, 1) := by decide +kernel
theorem dX6_play_2 : decode cX6_play 2 = .ok (.iconst 0, 1) := by decide +kernel
theorem dX6_play_3 : decode cX6_play 3 = .ok (.invokevirtual 30, 3) := by decide +kernel
theorem dX6_play_6 : decode cX6_play 6 = .ok (.return_, 1) := by decide +kernel
theorem dX6_draw_0 : decode cX6_draw 0 = .ok (.aload_n 0, 1) := by decide +kernel
theorem dX6_draw_1 : decode cX6_draw 1 = .ok (.iload_n 2, 1) := by decide +kernel
theorem dX6_draw_2 : decode cX6_draw 2 = .ok (.i2l, 1) := by decide +kernel
theorem dX6_draw_3 : decode cX6_draw 3 = .ok (.putfield 34, 3) := by decide +kernel
theorem dX6_draw_6 : decode cX6_draw 6 = .ok (.aload_n 0, 1) := by decide +kernel
theorem dX6_draw_7 : decode cX6_draw 7 = .ok (.aload_n 1, 1) := by decide +kernel
theorem dX6_draw_8 : decode cX6_draw 8 = .ok (.iconst 1, 1) := by decide +kernel
theorem dX6_draw_9 : decode cX6_draw 9 = .ok (.invokevirtual 30, 3) := by decide +kernel
theorem dX6_draw_12 : decode cX6_draw 12 = .ok (.return_, 1) := by decide +kernel
theorem dX6_live_0 : decode cX6_live 0 = .ok (.aload_n 0, 1) := by decide +kernel
theorem dX6_live_1 : decode cX6_live 1 = .ok (.aload_n 1, 1) := by decide +kernel
theorem dX6_live_2 : decode cX6_live 2 = .ok (.invokevirtual 38, 3) := by decide +kernel
theorem dX6_live_5 : decode cX6_live 5 = .ok (.aload_n 1, 1) := by decide +kernel
theorem dX6_live_6 : decode cX6_live 6 = .ok (.getfield 42, 3) := by decide +kernel
theorem dX6_live_9 : decode cX6_live 9 = .ok (.istore_n 3, 1) := by decide +kernel
theorem dX6_live_10 : decode cX6_live 10 = .ok (.iconst 0, 1) := by decide +kernel
theorem dX6_live_11 : decode cX6_live 11 = .ok (.istore 4, 2) := by decide +kernel
theorem dX6_live_13 : decode cX6_live 13 = .ok (.iload 4, 2) := by decide +kernel
theorem dX6_live_15 : decode cX6_live 15 = .ok (.aload_n 1, 1) := by decide +kernel
theorem dX6_live_16 : decode cX6_live 16 = .ok (.getfield 48, 3) := by decide +kernel
theorem dX6_live_19 : decode cX6_live 19 = .ok (.if_icmp .ge 99, 3) := by decide +kernel
theorem dX6_live_22 : decode cX6_live 22 = .ok (.aload_n 0, 1) := by decide +kernel
theorem dX6_live_23 : decode cX6_live 23 = .ok (.getfield 9, 3) := by decide +kernel
theorem dX6_live_26 : decode cX6_live 26 = .ok (.iload 4, 2) := by decide +kernel
theorem dX6_live_28 : decode cX6_live 28 = .ok (.iload_n 3, 1) := by decide +kernel
theorem dX6_live_29 : decode cX6_live 29 = .ok (.iastore, 1) := by decide +kernel
theorem dX6_live_30 : decode cX6_live 30 = .ok (.aload_n 0, 1) := by decide +kernel
theorem dX6_live_31 : decode cX6_live 31 = .ok (.getfield 24, 3) := by decide +kernel
theorem dX6_live_34 : decode cX6_live 34 = .ok (.iload 4, 2) := by decide +kernel
theorem dX6_live_36 : decode cX6_live 36 = .ok (.iaload, 1) := by decide +kernel
theorem dX6_live_37 : decode cX6_live 37 = .ok (.istore 5, 2) := by decide +kernel
theorem dX6_live_39 : decode cX6_live 39 = .ok (.iload 5, 2) := by decide +kernel
theorem dX6_live_41 : decode cX6_live 41 = .ok (.ifCond .lt 56, 3) := by decide +kernel
theorem dX6_live_44 : decode cX6_live 44 = .ok (.iload_n 3, 1) := by decide +kernel
theorem dX6_live_45 : decode cX6_live 45 = .ok (.aload_n 1, 1) := by decide +kernel
theorem dX6_live_46 : decode cX6_live 46 = .ok (.getfield 51, 3) := by decide +kernel
theorem dX6_live_49 : decode cX6_live 49 = .ok (.if_icmp .lt 7, 3) := by decide +kernel
theorem dX6_live_52 : decode cX6_live 52 = .ok (.iconst 1, 1) := by decide +kernel
theorem dX6_live_53 : decode cX6_live 53 = .ok (.goto 4, 3) := by decide +kernel
theorem dX6_live_56 : decode cX6_live 56 = .ok (.iconst 0, 1) := by decide +kernel
theorem dX6_live_57 : decode cX6_live 57 = .ok (.istore 6, 2) := by decide +kernel
theorem dX6_live_59 : decode cX6_live 59 = .ok (.iload 6, 2) := by decide +kernel
theorem dX6_live_61 : decode cX6_live 61 = .ok (.ifCond .eq 25, 3) := by decide +kernel
theorem dX6_live_64 : decode cX6_live 64 = .ok (.iload_n 2, 1) := by decide +kernel
theorem dX6_live_65 : decode cX6_live 65 = .ok (.ifCond .eq 21, 3) := by decide +kernel
theorem dX6_live_68 : decode cX6_live 68 = .ok (.aload_n 0, 1) := by decide +kernel
theorem dX6_live_69 : decode cX6_live 69 = .ok (.invokevirtual 54, 3) := by decide +kernel
theorem dX6_live_72 : decode cX6_live 72 = .ok (.aload_n 1, 1) := by decide +kernel
theorem dX6_live_73 : decode cX6_live 73 = .ok (.getfield 58, 3) := by decide +kernel
theorem dX6_live_76 : decode cX6_live 76 = .ok (.if_icmp .ge 7, 3) := by decide +kernel
theorem dX6_live_79 : decode cX6_live 79 = .ok (.iconst 1, 1) := by decide +kernel
theorem dX6_live_80 : decode cX6_live 80 = .ok (.goto 4, 3) := by decide +kernel
theorem dX6_live_83 : decode cX6_live 83 = .ok (.iconst 0, 1) := by decide +kernel
theorem dX6_live_84 : decode cX6_live 84 = .ok (.istore 6, 2) := by decide +kernel
theorem dX6_live_86 : decode cX6_live 86 = .ok (.aload_n 0, 1) := by decide +kernel
theorem dX6_live_87 : decode cX6_live 87 = .ok (.aload_n 1, 1) := by decide +kernel
theorem dX6_live_88 : decode cX6_live 88 = .ok (.iload 5, 2) := by decide +kernel
theorem dX6_live_90 : decode cX6_live 90 = .ok (.iload 4, 2) := by decide +kernel
theorem dX6_live_92 : decode cX6_live 92 = .ok (.iload 6, 2) := by decide +kernel
theorem dX6_live_94 : decode cX6_live 94 = .ok (.invokevirtual 61, 3) := by decide +kernel
theorem dX6_live_97 : decode cX6_live 97 = .ok (.iload 5, 2) := by decide +kernel
theorem dX6_live_99 : decode cX6_live 99 = .ok (.bipush (-2), 2) := by decide +kernel
theorem dX6_live_101 : decode cX6_live 101 = .ok (.if_icmp .ne 9, 3) := by decide +kernel
theorem dX6_live_104 : decode cX6_live 104 = .ok (.iload_n 3, 1) := by decide +kernel
theorem dX6_live_105 : decode cX6_live 105 = .ok (.iconst 1, 1) := by decide +kernel
theorem dX6_live_106 : decode cX6_live 106 = .ok (.iadd, 1) := by decide +kernel
theorem dX6_live_107 : decode cX6_live 107 = .ok (.goto 4, 3) := by decide +kernel
theorem dX6_live_110 : decode cX6_live 110 = .ok (.iconst 1, 1) := by decide +kernel
theorem dX6_live_111 : decode cX6_live 111 = .ok (.istore_n 3, 1) := by decide +kernel
theorem dX6_live_112 : decode cX6_live 112 = .ok (.iinc 4 1, 3) := by decide +kernel
theorem dX6_live_115 : decode cX6_live 115 = .ok (.goto (-102), 3) := by decide +kernel
theorem dX6_live_118 : decode cX6_live 118 = .ok (.return_, 1) := by decide +kernel
theorem dX6_layOut_0 : decode cX6_layOut 0 = .ok (.aload_n 0, 1) := by decide +kernel
theorem dX6_layOut_1 : decode cX6_layOut 1 = .ok (.iconst 0, 1) := by decide +kernel
theorem dX6_layOut_2 : decode cX6_layOut 2 = .ok (.putfield 65, 3) := by decide +kernel
theorem dX6_layOut_5 : decode cX6_layOut 5 = .ok (.aload_n 0, 1) := by decide +kernel
theorem dX6_layOut_6 : decode cX6_layOut 6 = .ok (.getfield 27, 3) := by decide +kernel
theorem dX6_layOut_9 : decode cX6_layOut 9 = .ok (.iconst 0, 1) := by decide +kernel
theorem dX6_layOut_10 : decode cX6_layOut 10 = .ok (.aload_n 1, 1) := by decide +kernel
theorem dX6_layOut_11 : decode cX6_layOut 11 = .ok (.iconst 0, 1) := by decide +kernel
theorem dX6_layOut_12 : decode cX6_layOut 12 = .ok (.invokevirtual 68, 3) := by decide +kernel
theorem dX6_layOut_15 : decode cX6_layOut 15 = .ok (.iastore, 1) := by decide +kernel
theorem dX6_layOut_16 : decode cX6_layOut 16 = .ok (.aload_n 0, 1) := by decide +kernel
theorem dX6_layOut_17 : decode cX6_layOut 17 = .ok (.getfield 27, 3) := by decide +kernel
theorem dX6_layOut_20 : decode cX6_layOut 20 = .ok (.iconst 1, 1) := by decide +kernel
theorem dX6_layOut_21 : decode cX6_layOut 21 = .ok (.aload_n 1, 1) := by decide +kernel
theorem dX6_layOut_22 : decode cX6_layOut 22 = .ok (.iconst 1, 1) := by decide +kernel
theorem dX6_layOut_23 : decode cX6_layOut 23 = .ok (.invokevirtual 68, 3) := by decide +kernel
theorem dX6_layOut_26 : decode cX6_layOut 26 = .ok (.iastore, 1) := by decide +kernel
theorem dX6_layOut_27 : decode cX6_layOut 27 = .ok (.iconst 0, 1) := by decide +kernel
theorem dX6_layOut_28 : decode cX6_layOut 28 = .ok (.istore_n 2, 1) := by decide +kernel
theorem dX6_layOut_29 : decode cX6_layOut 29 = .ok (.iload_n 2, 1) := by decide +kernel
theorem dX6_layOut_30 : decode cX6_layOut 30 = .ok (.bipush 14, 2) := by decide +kernel
theorem dX6_layOut_32 : decode cX6_layOut 32 = .ok (.if_icmp .ge 17, 3) := by decide +kernel
theorem dX6_layOut_35 : decode cX6_layOut 35 = .ok (.aload_n 0, 1) := by decide +kernel
theorem dX6_layOut_36 : decode cX6_layOut 36 = .ok (.getfield 24, 3) := by decide +kernel
theorem dX6_layOut_39 : decode cX6_layOut 39 = .ok (.iload_n 2, 1) := by decide +kernel
theorem dX6_layOut_40 : decode cX6_layOut 40 = .ok (.bipush (-2), 2) := by decide +kernel
theorem dX6_layOut_42 : decode cX6_layOut 42 = .ok (.iastore, 1) := by decide +kernel
theorem dX6_layOut_43 : decode cX6_layOut 43 = .ok (.iinc 2 1, 3) := by decide +kernel
theorem dX6_layOut_46 : decode cX6_layOut 46 = .ok (.goto (-17), 3) := by decide +kernel
theorem dX6_layOut_49 : decode cX6_layOut 49 = .ok (.iconst 0, 1) := by decide +kernel
theorem dX6_layOut_50 : decode cX6_layOut 50 = .ok (.istore_n 2, 1) := by decide +kernel
theorem dX6_layOut_51 : decode cX6_layOut 51 = .ok (.iload_n 2, 1) := by decide +kernel
theorem dX6_layOut_52 : decode cX6_layOut 52 = .ok (.bipush 8, 2) := by decide +kernel
theorem dX6_layOut_54 : decode cX6_layOut 54 = .ok (.if_icmp .ge 30, 3) := by decide +kernel
theorem dX6_layOut_57 : decode cX6_layOut 57 = .ok (.aload_n 0, 1) := by decide +kernel
theorem dX6_layOut_58 : decode cX6_layOut 58 = .ok (.getfield 15, 3) := by decide +kernel
theorem dX6_layOut_61 : decode cX6_layOut 61 = .ok (.iload_n 2, 1) := by decide +kernel
theorem dX6_layOut_62 : decode cX6_layOut 62 = .ok (.iconst (-1), 1) := by decide +kernel
theorem dX6_layOut_63 : decode cX6_layOut 63 = .ok (.iastore, 1) := by decide +kernel
theorem dX6_layOut_64 : decode cX6_layOut 64 = .ok (.aload_n 0, 1) := by decide +kernel
theorem dX6_layOut_65 : decode cX6_layOut 65 = .ok (.getfield 18, 3) := by decide +kernel
theorem dX6_layOut_68 : decode cX6_layOut 68 = .ok (.iload_n 2, 1) := by decide +kernel
theorem dX6_layOut_69 : decode cX6_layOut 69 = .ok (.iconst (-1), 1) := by decide +kernel
theorem dX6_layOut_70 : decode cX6_layOut 70 = .ok (.iastore, 1) := by decide +kernel
theorem dX6_layOut_71 : decode cX6_layOut 71 = .ok (.aload_n 0, 1) := by decide +kernel
theorem dX6_layOut_72 : decode cX6_layOut 72 = .ok (.getfield 21, 3) := by decide +kernel
theorem dX6_layOut_75 : decode cX6_layOut 75 = .ok (.iload_n 2, 1) := by decide +kernel
theorem dX6_layOut_76 : decode cX6_layOut 76 = .ok (.iconst (-1), 1) := by decide +kernel
theorem dX6_layOut_77 : decode cX6_layOut 77 = .ok (.iastore, 1) := by decide +kernel
theorem dX6_layOut_78 : decode cX6_layOut 78 = .ok (.iinc 2 1, 3) := by decide +kernel
theorem dX6_layOut_81 : decode cX6_layOut 81 = .ok (.goto (-30), 3) := by decide +kernel
theorem dX6_layOut_84 : decode cX6_layOut 84 = .ok (.iconst 0, 1) := by decide +kernel
theorem dX6_layOut_85 : decode cX6_layOut 85 = .ok (.istore_n 2, 1) := by decide +kernel
theorem dX6_layOut_86 : decode cX6_layOut 86 = .ok (.iload_n 2, 1) := by decide +kernel
theorem dX6_layOut_87 : decode cX6_layOut 87 = .ok (.aload_n 1, 1) := by decide +kernel
theorem dX6_layOut_88 : decode cX6_layOut 88 = .ok (.getfield 72, 3) := by decide +kernel
theorem dX6_layOut_91 : decode cX6_layOut 91 = .ok (.if_icmp .ge 37, 3) := by decide +kernel
theorem dX6_layOut_94 : decode cX6_layOut 94 = .ok (.aload_n 1, 1) := by decide +kernel
theorem dX6_layOut_95 : decode cX6_layOut 95 = .ok (.getfield 75, 3) := by decide +kernel
theorem dX6_layOut_98 : decode cX6_layOut 98 = .ok (.iload_n 2, 1) := by decide +kernel
theorem dX6_layOut_99 : decode cX6_layOut 99 = .ok (.iaload, 1) := by decide +kernel
theorem dX6_layOut_100 : decode cX6_layOut 100 = .ok (.istore_n 3, 1) := by decide +kernel
theorem dX6_layOut_101 : decode cX6_layOut 101 = .ok (.aload_n 0, 1) := by decide +kernel
theorem dX6_layOut_102 : decode cX6_layOut 102 = .ok (.getfield 24, 3) := by decide +kernel
theorem dX6_layOut_105 : decode cX6_layOut 105 = .ok (.aload_n 1, 1) := by decide +kernel
theorem dX6_layOut_106 : decode cX6_layOut 106 = .ok (.getfield 78, 3) := by decide +kernel
theorem dX6_layOut_109 : decode cX6_layOut 109 = .ok (.iload_n 2, 1) := by decide +kernel
theorem dX6_layOut_110 : decode cX6_layOut 110 = .ok (.iaload, 1) := by decide +kernel
theorem dX6_layOut_111 : decode cX6_layOut 111 = .ok (.iload_n 3, 1) := by decide +kernel
theorem dX6_layOut_112 : decode cX6_layOut 112 = .ok (.iconst (-1), 1) := by decide +kernel
theorem dX6_layOut_113 : decode cX6_layOut 113 = .ok (.if_icmp .ne 7, 3) := by decide +kernel
theorem dX6_layOut_116 : decode cX6_layOut 116 = .ok (.iconst (-1), 1) := by decide +kernel
theorem dX6_layOut_117 : decode cX6_layOut 117 = .ok (.goto 4, 3) := by decide +kernel
theorem dX6_layOut_120 : decode cX6_layOut 120 = .ok (.iload_n 3, 1) := by decide +kernel
theorem dX6_layOut_121 : decode cX6_layOut 121 = .ok (.iastore, 1) := by decide +kernel
theorem dX6_layOut_122 : decode cX6_layOut 122 = .ok (.iinc 2 1, 3) := by decide +kernel
theorem dX6_layOut_125 : decode cX6_layOut 125 = .ok (.goto (-39), 3) := by decide +kernel
theorem dX6_layOut_128 : decode cX6_layOut 128 = .ok (.return_, 1) := by decide +kernel
theorem dX6_nextDraw_0 : decode cX6_nextDraw 0 = .ok (.aload_n 0, 1) := by decide +kernel
theorem dX6_nextDraw_1 : decode cX6_nextDraw 1 = .ok (.dup, 1) := by decide +kernel
theorem dX6_nextDraw_2 : decode cX6_nextDraw 2 = .ok (.getfield 65, 3) := by decide +kernel
theorem dX6_nextDraw_5 : decode cX6_nextDraw 5 = .ok (.iconst 1, 1) := by decide +kernel
theorem dX6_nextDraw_6 : decode cX6_nextDraw 6 = .ok (.iadd, 1) := by decide +kernel
theorem dX6_nextDraw_7 : decode cX6_nextDraw 7 = .ok (.putfield 65, 3) := by decide +kernel
theorem dX6_nextDraw_10 : decode cX6_nextDraw 10 = .ok (.aload_n 0, 1) := by decide +kernel
theorem dX6_nextDraw_11 : decode cX6_nextDraw 11 = .ok (.ldc2_w 81, 3) := by decide +kernel
theorem dX6_nextDraw_14 : decode cX6_nextDraw 14 = .ok (.aload_n 0, 1) := by decide +kernel
theorem dX6_nextDraw_15 : decode cX6_nextDraw 15 = .ok (.getfield 34, 3) := by decide +kernel
theorem dX6_nextDraw_18 : decode cX6_nextDraw 18 = .ok (.lmul, 1) := by decide +kernel
theorem dX6_nextDraw_19 : decode cX6_nextDraw 19 = .ok (.ldc2_w 83, 3) := by decide +kernel
theorem dX6_nextDraw_22 : decode cX6_nextDraw 22 = .ok (.ladd, 1) := by decide +kernel
theorem dX6_nextDraw_23 : decode cX6_nextDraw 23 = .ok (.ldc2_w 85, 3) := by decide +kernel
theorem dX6_nextDraw_26 : decode cX6_nextDraw 26 = .ok (.lrem, 1) := by decide +kernel
theorem dX6_nextDraw_27 : decode cX6_nextDraw 27 = .ok (.putfield 34, 3) := by decide +kernel
theorem dX6_nextDraw_30 : decode cX6_nextDraw 30 = .ok (.aload_n 0, 1) := by decide +kernel
theorem dX6_nextDraw_31 : decode cX6_nextDraw 31 = .ok (.getfield 34, 3) := by decide +kernel
theorem dX6_nextDraw_34 : decode cX6_nextDraw 34 = .ok (.ldc2_w 87, 3) := by decide +kernel
theorem dX6_nextDraw_37 : decode cX6_nextDraw 37 = .ok (.ldiv, 1) := by decide +kernel
theorem dX6_nextDraw_38 : decode cX6_nextDraw 38 = .ok (.ldc2_w 89, 3) := by decide +kernel
theorem dX6_nextDraw_41 : decode cX6_nextDraw 41 = .ok (.lrem, 1) := by decide +kernel
theorem dX6_nextDraw_42 : decode cX6_nextDraw 42 = .ok (.l2i, 1) := by decide +kernel
theorem dX6_nextDraw_43 : decode cX6_nextDraw 43 = .ok (.ireturn, 1) := by decide +kernel
theorem dX6_settle_0 : decode cX6_settle 0 = .ok (.aload_n 0, 1) := by decide +kernel
theorem dX6_settle_1 : decode cX6_settle 1 = .ok (.getfield 15, 3) := by decide +kernel
theorem dX6_settle_4 : decode cX6_settle 4 = .ok (.iload_n 2, 1) := by decide +kernel
theorem dX6_settle_5 : decode cX6_settle 5 = .ok (.iload_n 3, 1) := by decide +kernel
theorem dX6_settle_6 : decode cX6_settle 6 = .ok (.iastore, 1) := by decide +kernel
theorem dX6_settle_7 : decode cX6_settle 7 = .ok (.aload_n 0, 1) := by decide +kernel
theorem dX6_settle_8 : decode cX6_settle 8 = .ok (.getfield 21, 3) := by decide +kernel
theorem dX6_settle_11 : decode cX6_settle 11 = .ok (.iload_n 2, 1) := by decide +kernel
theorem dX6_settle_12 : decode cX6_settle 12 = .ok (.aload_n 0, 1) := by decide +kernel
theorem dX6_settle_13 : decode cX6_settle 13 = .ok (.aload_n 1, 1) := by decide +kernel
theorem dX6_settle_14 : decode cX6_settle 14 = .ok (.iload_n 2, 1) := by decide +kernel
theorem dX6_settle_15 : decode cX6_settle 15 = .ok (.iload_n 3, 1) := by decide +kernel
theorem dX6_settle_16 : decode cX6_settle 16 = .ok (.iload 4, 2) := by decide +kernel
theorem dX6_settle_18 : decode cX6_settle 18 = .ok (.invokevirtual 91, 3) := by decide +kernel
theorem dX6_settle_21 : decode cX6_settle 21 = .ok (.iastore, 1) := by decide +kernel
theorem dX6_settle_22 : decode cX6_settle 22 = .ok (.aload_n 0, 1) := by decide +kernel
theorem dX6_settle_23 : decode cX6_settle 23 = .ok (.getfield 21, 3) := by decide +kernel
theorem dX6_settle_26 : decode cX6_settle 26 = .ok (.iload_n 2, 1) := by decide +kernel
theorem dX6_settle_27 : decode cX6_settle 27 = .ok (.iaload, 1) := by decide +kernel
theorem dX6_settle_28 : decode cX6_settle 28 = .ok (.ifCond .ne 10, 3) := by decide +kernel
theorem dX6_settle_31 : decode cX6_settle 31 = .ok (.aload_n 0, 1) := by decide +kernel
theorem dX6_settle_32 : decode cX6_settle 32 = .ok (.getfield 18, 3) := by decide +kernel
theorem dX6_settle_35 : decode cX6_settle 35 = .ok (.iload_n 2, 1) := by decide +kernel
theorem dX6_settle_36 : decode cX6_settle 36 = .ok (.iload_n 3, 1) := by decide +kernel
theorem dX6_settle_37 : decode cX6_settle 37 = .ok (.iastore, 1) := by decide +kernel
theorem dX6_settle_38 : decode cX6_settle 38 = .ok (.return_, 1) := by decide +kernel
theorem dX6_whyNot_0 : decode cX6_whyNot 0 = .ok (.iload 4, 2) := by decide +kernel
theorem dX6_whyNot_2 : decode cX6_whyNot 2 = .ok (.ifCond .ne 5, 3) := by decide +kernel
theorem dX6_whyNot_5 : decode cX6_whyNot 5 = .ok (.iconst 1, 1) := by decide +kernel
theorem dX6_whyNot_6 : decode cX6_whyNot 6 = .ok (.ireturn, 1) := by decide +kernel
theorem dX6_whyNot_7 : decode cX6_whyNot 7 = .ok (.aload_n 1, 1) := by decide +kernel
theorem dX6_whyNot_8 : decode cX6_whyNot 8 = .ok (.getfield 95, 3) := by decide +kernel
theorem dX6_whyNot_11 : decode cX6_whyNot 11 = .ok (.iload_n 3, 1) := by decide +kernel
theorem dX6_whyNot_12 : decode cX6_whyNot 12 = .ok (.invokestatic 98, 3) := by decide +kernel
theorem dX6_whyNot_15 : decode cX6_whyNot 15 = .ok (.ifCond .eq 5, 3) := by decide +kernel
theorem dX6_whyNot_18 : decode cX6_whyNot 18 = .ok (.iconst 2, 1) := by decide +kernel
theorem dX6_whyNot_19 : decode cX6_whyNot 19 = .ok (.ireturn, 1) := by decide +kernel
theorem dX6_whyNot_20 : decode cX6_whyNot 20 = .ok (.aload_n 0, 1) := by decide +kernel
theorem dX6_whyNot_21 : decode cX6_whyNot 21 = .ok (.getfield 27, 3) := by decide +kernel
theorem dX6_whyNot_24 : decode cX6_whyNot 24 = .ok (.aload_n 1, 1) := by decide +kernel
theorem dX6_whyNot_25 : decode cX6_whyNot 25 = .ok (.getfield 102, 3) := by decide +kernel
theorem dX6_whyNot_28 : decode cX6_whyNot 28 = .ok (.iload_n 2, 1) := by decide +kernel
theorem dX6_whyNot_29 : decode cX6_whyNot 29 = .ok (.iaload, 1) := by decide +kernel
theorem dX6_whyNot_30 : decode cX6_whyNot 30 = .ok (.iaload, 1) := by decide +kernel
theorem dX6_whyNot_31 : decode cX6_whyNot 31 = .ok (.iload_n 3, 1) := by decide +kernel
theorem dX6_whyNot_32 : decode cX6_whyNot 32 = .ok (.invokestatic 98, 3) := by decide +kernel
theorem dX6_whyNot_35 : decode cX6_whyNot 35 = .ok (.ifCond .ne 5, 3) := by decide +kernel
theorem dX6_whyNot_38 : decode cX6_whyNot 38 = .ok (.iconst 3, 1) := by decide +kernel
theorem dX6_whyNot_39 : decode cX6_whyNot 39 = .ok (.ireturn, 1) := by decide +kernel
theorem dX6_whyNot_40 : decode cX6_whyNot 40 = .ok (.aload_n 0, 1) := by decide +kernel
theorem dX6_whyNot_41 : decode cX6_whyNot 41 = .ok (.aload_n 1, 1) := by decide +kernel
theorem dX6_whyNot_42 : decode cX6_whyNot 42 = .ok (.getfield 105, 3) := by decide +kernel
theorem dX6_whyNot_45 : decode cX6_whyNot 45 = .ok (.iload_n 2, 1) := by decide +kernel
theorem dX6_whyNot_46 : decode cX6_whyNot 46 = .ok (.iaload, 1) := by decide +kernel
theorem dX6_whyNot_47 : decode cX6_whyNot 47 = .ok (.iload_n 3, 1) := by decide +kernel
theorem dX6_whyNot_48 : decode cX6_whyNot 48 = .ok (.invokevirtual 108, 3) := by decide +kernel
theorem dX6_whyNot_51 : decode cX6_whyNot 51 = .ok (.ifCond .eq 7, 3) := by decide +kernel
theorem dX6_whyNot_54 : decode cX6_whyNot 54 = .ok (.iconst 0, 1) := by decide +kernel
theorem dX6_whyNot_55 : decode cX6_whyNot 55 = .ok (.goto 4, 3) := by decide +kernel
theorem dX6_whyNot_58 : decode cX6_whyNot 58 = .ok (.iconst 4, 1) := by decide +kernel
theorem dX6_whyNot_59 : decode cX6_whyNot 59 = .ok (.ireturn, 1) := by decide +kernel
theorem dX6_hasPassedAhead_0 : decode cX6_hasPassedAhead 0 = .ok (.iload_n 1, 1) := by decide +kernel
theorem dX6_hasPassedAhead_1 : decode cX6_hasPassedAhead 1 = .ok (.iconst (-1), 1) := by decide +kernel
theorem dX6_hasPassedAhead_2 : decode cX6_hasPassedAhead 2 = .ok (.if_icmp .eq 23, 3) := by decide +kernel
theorem dX6_hasPassedAhead_5 : decode cX6_hasPassedAhead 5 = .ok (.aload_n 0, 1) := by decide +kernel
theorem dX6_hasPassedAhead_6 : decode cX6_hasPassedAhead 6 = .ok (.getfield 18, 3) := by decide +kernel
theorem dX6_hasPassedAhead_9 : decode cX6_hasPassedAhead 9 = .ok (.iload_n 1, 1) := by decide +kernel
theorem dX6_hasPassedAhead_10 : decode cX6_hasPassedAhead 10 = .ok (.iaload, 1) := by decide +kernel
theorem dX6_hasPassedAhead_11 : decode cX6_hasPassedAhead 11 = .ok (.iconst (-1), 1) := by decide +kernel
theorem dX6_hasPassedAhead_12 : decode cX6_hasPassedAhead 12 = .ok (.if_icmp .eq 17, 3) := by decide +kernel
theorem dX6_hasPassedAhead_15 : decode cX6_hasPassedAhead 15 = .ok (.aload_n 0, 1) := by decide +kernel
theorem dX6_hasPassedAhead_16 : decode cX6_hasPassedAhead 16 = .ok (.getfield 18, 3) := by decide +kernel
theorem dX6_hasPassedAhead_19 : decode cX6_hasPassedAhead 19 = .ok (.iload_n 1, 1) := by decide +kernel
theorem dX6_hasPassedAhead_20 : decode cX6_hasPassedAhead 20 = .ok (.iaload, 1) := by decide +kernel
theorem dX6_hasPassedAhead_21 : decode cX6_hasPassedAhead 21 = .ok (.iload_n 2, 1) := by decide +kernel
theorem dX6_hasPassedAhead_22 : decode cX6_hasPassedAhead 22 = .ok (.if_icmp .ge 7, 3) := by decide +kernel
theorem dX6_hasPassedAhead_25 : decode cX6_hasPassedAhead 25 = .ok (.iconst 1, 1) := by decide +kernel
theorem dX6_hasPassedAhead_26 : decode cX6_hasPassedAhead 26 = .ok (.goto 4, 3) := by decide +kernel
theorem dX6_hasPassedAhead_29 : decode cX6_hasPassedAhead 29 = .ok (.iconst 0, 1) := by decide +kernel
theorem dX6_hasPassedAhead_30 : decode cX6_hasPassedAhead 30 = .ok (.ireturn, 1) := by decide +kernel
theorem dX6_couldPass_0 : decode cX6_couldPass 0 = .ok (.aload_n 0, 1) := by decide +kernel
theorem dX6_couldPass_1 : decode cX6_couldPass 1 = .ok (.getfield 15, 3) := by decide +kernel
theorem dX6_couldPass_4 : decode cX6_couldPass 4 = .ok (.iload_n 2, 1) := by decide +kernel
theorem dX6_couldPass_5 : decode cX6_couldPass 5 = .ok (.iaload, 1) := by decide +kernel
theorem dX6_couldPass_6 : decode cX6_couldPass 6 = .ok (.iconst (-1), 1) := by decide +kernel
theorem dX6_couldPass_7 : decode cX6_couldPass 7 = .ok (.if_icmp .eq 17, 3) := by decide +kernel
theorem dX6_couldPass_10 : decode cX6_couldPass 10 = .ok (.aload_n 0, 1) := by decide +kernel
theorem dX6_couldPass_11 : decode cX6_couldPass 11 = .ok (.getfield 15, 3) := by decide +kernel
theorem dX6_couldPass_14 : decode cX6_couldPass 14 = .ok (.iload_n 2, 1) := by decide +kernel
theorem dX6_couldPass_15 : decode cX6_couldPass 15 = .ok (.iaload, 1) := by decide +kernel
theorem dX6_couldPass_16 : decode cX6_couldPass 16 = .ok (.iload_n 3, 1) := by decide +kernel
theorem dX6_couldPass_17 : decode cX6_couldPass 17 = .ok (.if_icmp .eq 7, 3) := by decide +kernel
theorem dX6_couldPass_20 : decode cX6_couldPass 20 = .ok (.iconst 1, 1) := by decide +kernel
theorem dX6_couldPass_21 : decode cX6_couldPass 21 = .ok (.goto 4, 3) := by decide +kernel
theorem dX6_couldPass_24 : decode cX6_couldPass 24 = .ok (.iconst 0, 1) := by decide +kernel
theorem dX6_couldPass_25 : decode cX6_couldPass 25 = .ok (.istore 4, 2) := by decide +kernel
theorem dX6_couldPass_27 : decode cX6_couldPass 27 = .ok (.iload 4, 2) := by decide +kernel
theorem dX6_couldPass_29 : decode cX6_couldPass 29 = .ok (.ifCond .ne 35, 3) := by decide +kernel
theorem dX6_couldPass_32 : decode cX6_couldPass 32 = .ok (.aload_n 0, 1) := by decide +kernel
theorem dX6_couldPass_33 : decode cX6_couldPass 33 = .ok (.aload_n 1, 1) := by decide +kernel
theorem dX6_couldPass_34 : decode cX6_couldPass 34 = .ok (.iload_n 2, 1) := by decide +kernel
theorem dX6_couldPass_35 : decode cX6_couldPass 35 = .ok (.iload_n 3, 1) := by decide +kernel
theorem dX6_couldPass_36 : decode cX6_couldPass 36 = .ok (.aload_n 0, 1) := by decide +kernel
theorem dX6_couldPass_37 : decode cX6_couldPass 37 = .ok (.getfield 9, 3) := by decide +kernel
theorem dX6_couldPass_40 : decode cX6_couldPass 40 = .ok (.iload_n 3, 1) := by decide +kernel
theorem dX6_couldPass_41 : decode cX6_couldPass 41 = .ok (.iaload, 1) := by decide +kernel
theorem dX6_couldPass_42 : decode cX6_couldPass 42 = .ok (.aload_n 1, 1) := by decide +kernel
theorem dX6_couldPass_43 : decode cX6_couldPass 43 = .ok (.getfield 51, 3) := by decide +kernel
theorem dX6_couldPass_46 : decode cX6_couldPass 46 = .ok (.if_icmp .lt 7, 3) := by decide +kernel
theorem dX6_couldPass_49 : decode cX6_couldPass 49 = .ok (.iconst 1, 1) := by decide +kernel
theorem dX6_couldPass_50 : decode cX6_couldPass 50 = .ok (.goto 4, 3) := by decide +kernel
theorem dX6_couldPass_53 : decode cX6_couldPass 53 = .ok (.iconst 0, 1) := by decide +kernel
theorem dX6_couldPass_54 : decode cX6_couldPass 54 = .ok (.invokevirtual 91, 3) := by decide +kernel
theorem dX6_couldPass_57 : decode cX6_couldPass 57 = .ok (.ifCond .ne 7, 3) := by decide +kernel
theorem dX6_couldPass_60 : decode cX6_couldPass 60 = .ok (.iconst 1, 1) := by decide +kernel
theorem dX6_couldPass_61 : decode cX6_couldPass 61 = .ok (.goto 4, 3) := by decide +kernel
theorem dX6_couldPass_64 : decode cX6_couldPass 64 = .ok (.iconst 0, 1) := by decide +kernel
theorem dX6_couldPass_65 : decode cX6_couldPass 65 = .ok (.ireturn, 1) := by decide +kernel
theorem dX6_lastActAhead_0 : decode cX6_lastActAhead 0 = .ok (.iload_n 1, 1) := by decide +kernel
theorem dX6_lastActAhead_1 : decode cX6_lastActAhead 1 = .ok (.iconst 1, 1) := by decide +kernel
theorem dX6_lastActAhead_2 : decode cX6_lastActAhead 2 = .ok (.isub, 1) := by decide +kernel
theorem dX6_lastActAhead_3 : decode cX6_lastActAhead 3 = .ok (.istore_n 2, 1) := by decide +kernel
theorem dX6_lastActAhead_4 : decode cX6_lastActAhead 4 = .ok (.iload_n 2, 1) := by decide +kernel
theorem dX6_lastActAhead_5 : decode cX6_lastActAhead 5 = .ok (.ifCond .lt 22, 3) := by decide +kernel
theorem dX6_lastActAhead_8 : decode cX6_lastActAhead 8 = .ok (.aload_n 0, 1) := by decide +kernel
theorem dX6_lastActAhead_9 : decode cX6_lastActAhead 9 = .ok (.getfield 24, 3) := by decide +kernel
theorem dX6_lastActAhead_12 : decode cX6_lastActAhead 12 = .ok (.iload_n 2, 1) := by decide +kernel
theorem dX6_lastActAhead_13 : decode cX6_lastActAhead 13 = .ok (.iaload, 1) := by decide +kernel
theorem dX6_lastActAhead_14 : decode cX6_lastActAhead 14 = .ok (.bipush (-2), 2) := by decide +kernel
theorem dX6_lastActAhead_16 : decode cX6_lastActAhead 16 = .ok (.if_icmp .eq 5, 3) := by decide +kernel
theorem dX6_lastActAhead_19 : decode cX6_lastActAhead 19 = .ok (.iload_n 2, 1) := by decide +kernel
theorem dX6_lastActAhead_20 : decode cX6_lastActAhead 20 = .ok (.ireturn, 1) := by decide +kernel
theorem dX6_lastActAhead_21 : decode cX6_lastActAhead 21 = .ok (.iinc 2 (-1), 3) := by decide +kernel
theorem dX6_lastActAhead_24 : decode cX6_lastActAhead 24 = .ok (.goto (-20), 3) := by decide +kernel
theorem dX6_lastActAhead_27 : decode cX6_lastActAhead 27 = .ok (.iconst (-1), 1) := by decide +kernel
theorem dX6_lastActAhead_28 : decode cX6_lastActAhead 28 = .ok (.ireturn, 1) := by decide +kernel
theorem dX6_passingOn_0 : decode cX6_passingOn 0 = .ok (.iconst 0, 1) := by decide +kernel
theorem dX6_passingOn_1 : decode cX6_passingOn 1 = .ok (.istore_n 3, 1) := by decide +kernel
theorem dX6_passingOn_2 : decode cX6_passingOn 2 = .ok (.iload_n 3, 1) := by decide +kernel
theorem dX6_passingOn_3 : decode cX6_passingOn 3 = .ok (.aload_n 1, 1) := by decide +kernel
theorem dX6_passingOn_4 : decode cX6_passingOn 4 = .ok (.getfield 111, 3) := by decide +kernel
theorem dX6_passingOn_7 : decode cX6_passingOn 7 = .ok (.if_icmp .ge 21, 3) := by decide +kernel
theorem dX6_passingOn_10 : decode cX6_passingOn 10 = .ok (.aload_n 0, 1) := by decide +kernel
theorem dX6_passingOn_11 : decode cX6_passingOn 11 = .ok (.getfield 18, 3) := by decide +kernel
theorem dX6_passingOn_14 : decode cX6_passingOn 14 = .ok (.iload_n 3, 1) := by decide +kernel
theorem dX6_passingOn_15 : decode cX6_passingOn 15 = .ok (.iaload, 1) := by decide +kernel
theorem dX6_passingOn_16 : decode cX6_passingOn 16 = .ok (.iload_n 2, 1) := by decide +kernel
theorem dX6_passingOn_17 : decode cX6_passingOn 17 = .ok (.if_icmp .ne 5, 3) := by decide +kernel
theorem dX6_passingOn_20 : decode cX6_passingOn 20 = .ok (.iload_n 3, 1) := by decide +kernel
theorem dX6_passingOn_21 : decode cX6_passingOn 21 = .ok (.ireturn, 1) := by decide +kernel
theorem dX6_passingOn_22 : decode cX6_passingOn 22 = .ok (.iinc 3 1, 3) := by decide +kernel
theorem dX6_passingOn_25 : decode cX6_passingOn 25 = .ok (.goto (-23), 3) := by decide +kernel
theorem dX6_passingOn_28 : decode cX6_passingOn 28 = .ok (.iconst (-1), 1) := by decide +kernel
theorem dX6_passingOn_29 : decode cX6_passingOn 29 = .ok (.ireturn, 1) := by decide +kernel
theorem dX6_passing_0 : decode cX6_passing 0 = .ok (.iconst 0, 1) := by decide +kernel
theorem dX6_passing_1 : decode cX6_passing 1 = .ok (.istore_n 2, 1) := by decide +kernel
theorem dX6_passing_2 : decode cX6_passing 2 = .ok (.iconst 0, 1) := by decide +kernel
theorem dX6_passing_3 : decode cX6_passing 3 = .ok (.istore_n 3, 1) := by decide +kernel
theorem dX6_passing_4 : decode cX6_passing 4 = .ok (.iload_n 3, 1) := by decide +kernel
theorem dX6_passing_5 : decode cX6_passing 5 = .ok (.aload_n 1, 1) := by decide +kernel
theorem dX6_passing_6 : decode cX6_passing 6 = .ok (.getfield 111, 3) := by decide +kernel
theorem dX6_passing_9 : decode cX6_passing 9 = .ok (.if_icmp .ge 25, 3) := by decide +kernel
theorem dX6_passing_12 : decode cX6_passing 12 = .ok (.aload_n 0, 1) := by decide +kernel
theorem dX6_passing_13 : decode cX6_passing 13 = .ok (.getfield 18, 3) := by decide +kernel
theorem dX6_passing_16 : decode cX6_passing 16 = .ok (.iload_n 3, 1) := by decide +kernel
theorem dX6_passing_17 : decode cX6_passing 17 = .ok (.iaload, 1) := by decide +kernel
theorem dX6_passing_18 : decode cX6_passing 18 = .ok (.iconst (-1), 1) := by decide +kernel
theorem dX6_passing_19 : decode cX6_passing 19 = .ok (.if_icmp .eq 9, 3) := by decide +kernel
theorem dX6_passing_22 : decode cX6_passing 22 = .ok (.iload_n 2, 1) := by decide +kernel
theorem dX6_passing_23 : decode cX6_passing 23 = .ok (.iconst 1, 1) := by decide +kernel
theorem dX6_passing_24 : decode cX6_passing 24 = .ok (.iload_n 3, 1) := by decide +kernel
theorem dX6_passing_25 : decode cX6_passing 25 = .ok (.ishl, 1) := by decide +kernel
theorem dX6_passing_26 : decode cX6_passing 26 = .ok (.ior, 1) := by decide +kernel
theorem dX6_passing_27 : decode cX6_passing 27 = .ok (.istore_n 2, 1) := by decide +kernel
theorem dX6_passing_28 : decode cX6_passing 28 = .ok (.iinc 3 1, 3) := by decide +kernel
theorem dX6_passing_31 : decode cX6_passing 31 = .ok (.goto (-27), 3) := by decide +kernel
theorem dX6_passing_34 : decode cX6_passing 34 = .ok (.iload_n 2, 1) := by decide +kernel
theorem dX6_passing_35 : decode cX6_passing 35 = .ok (.ireturn, 1) := by decide +kernel
theorem dX7_look_0 : decode cX7_look 0 = .ok (.iconst 0, 1) := by decide +kernel
theorem dX7_look_1 : decode cX7_look 1 = .ok (.istore_n 2, 1) := by decide +kernel
theorem dX7_look_2 : decode cX7_look 2 = .ok (.iload_n 2, 1) := by decide +kernel
theorem dX7_look_3 : decode cX7_look 3 = .ok (.iconst 4, 1) := by decide +kernel
theorem dX7_look_4 : decode cX7_look 4 = .ok (.if_icmp .ge 16, 3) := by decide +kernel
theorem dX7_look_7 : decode cX7_look 7 = .ok (.aload_n 0, 1) := by decide +kernel
theorem dX7_look_8 : decode cX7_look 8 = .ok (.getfield 7, 3) := by decide +kernel
theorem dX7_look_11 : decode cX7_look 11 = .ok (.iload_n 2, 1) := by decide +kernel
theorem dX7_look_12 : decode cX7_look 12 = .ok (.iconst 0, 1) := by decide +kernel
theorem dX7_look_13 : decode cX7_look 13 = .ok (.iastore, 1) := by decide +kernel
theorem dX7_look_14 : decode cX7_look 14 = .ok (.iinc 2 1, 3) := by decide +kernel
theorem dX7_look_17 : decode cX7_look 17 = .ok (.goto (-15), 3) := by decide +kernel
theorem dX7_look_20 : decode cX7_look 20 = .ok (.aload_n 1, 1) := by decide +kernel
theorem dX7_look_21 : decode cX7_look 21 = .ok (.getfield 13, 3) := by decide +kernel
theorem dX7_look_24 : decode cX7_look 24 = .ok (.iconst 2, 1) := by decide +kernel
theorem dX7_look_25 : decode cX7_look 25 = .ok (.irem, 1) := by decide +kernel
theorem dX7_look_26 : decode cX7_look 26 = .ok (.ifCond .eq 5, 3) := by decide +kernel
theorem dX7_look_29 : decode cX7_look 29 = .ok (.iconst 0, 1) := by decide +kernel
theorem dX7_look_30 : decode cX7_look 30 = .ok (.ireturn, 1) := by decide +kernel
theorem dX7_look_31 : decode cX7_look 31 = .ok (.iconst 0, 1) := by decide +kernel
theorem dX7_look_32 : decode cX7_look 32 = .ok (.istore_n 2, 1) := by decide +kernel
theorem dX7_look_33 : decode cX7_look 33 = .ok (.iload_n 2, 1) := by decide +kernel
theorem dX7_look_34 : decode cX7_look 34 = .ok (.iconst 1, 1) := by decide +kernel
theorem dX7_look_35 : decode cX7_look 35 = .ok (.iadd, 1) := by decide +kernel
theorem dX7_look_36 : decode cX7_look 36 = .ok (.aload_n 1, 1) := by decide +kernel
theorem dX7_look_37 : decode cX7_look 37 = .ok (.getfield 13, 3) := by decide +kernel
theorem dX7_look_40 : decode cX7_look 40 = .ok (.if_icmp .ge 71, 3) := by decide +kernel
theorem dX7_look_43 : decode cX7_look 43 = .ok (.aload_n 1, 1) := by decide +kernel
theorem dX7_look_44 : decode cX7_look 44 = .ok (.getfield 19, 3) := by decide +kernel
theorem dX7_look_47 : decode cX7_look 47 = .ok (.iload_n 2, 1) := by decide +kernel
theorem dX7_look_48 : decode cX7_look 48 = .ok (.laload, 1) := by decide +kernel
theorem dX7_look_49 : decode cX7_look 49 = .ok (.lstore_n 3, 1) := by decide +kernel
theorem dX7_look_50 : decode cX7_look 50 = .ok (.aload_n 1, 1) := by decide +kernel
theorem dX7_look_51 : decode cX7_look 51 = .ok (.getfield 19, 3) := by decide +kernel
theorem dX7_look_54 : decode cX7_look 54 = .ok (.iload_n 2, 1) := by decide +kernel
theorem dX7_look_55 : decode cX7_look 55 = .ok (.iconst 1, 1) := by decide +kernel
theorem dX7_look_56 : decode cX7_look 56 = .ok (.iadd, 1) := by decide +kernel
theorem dX7_look_57 : decode cX7_look 57 = .ok (.laload, 1) := by decide +kernel
theorem dX7_look_58 : decode cX7_look 58 = .ok (.lstore 5, 2) := by decide +kernel
theorem dX7_look_60 : decode cX7_look 60 = .ok (.lload_n 3, 1) := by decide +kernel
theorem dX7_look_61 : decode cX7_look 61 = .ok (.lconst 0, 1) := by decide +kernel
theorem dX7_look_62 : decode cX7_look 62 = .ok (.lcmp, 1) := by decide +kernel
theorem dX7_look_63 : decode cX7_look 63 = .ok (.ifCond .lt 23, 3) := by decide +kernel
theorem dX7_look_66 : decode cX7_look 66 = .ok (.lload_n 3, 1) := by decide +kernel
theorem dX7_look_67 : decode cX7_look 67 = .ok (.lconst 1, 1) := by decide +kernel
theorem dX7_look_68 : decode cX7_look 68 = .ok (.lcmp, 1) := by decide +kernel
theorem dX7_look_69 : decode cX7_look 69 = .ok (.ifCond .gt 17, 3) := by decide +kernel
theorem dX7_look_72 : decode cX7_look 72 = .ok (.lload 5, 2) := by decide +kernel
theorem dX7_look_74 : decode cX7_look 74 = .ok (.lconst 0, 1) := by decide +kernel
theorem dX7_look_75 : decode cX7_look 75 = .ok (.lcmp, 1) := by decide +kernel
theorem dX7_look_76 : decode cX7_look 76 = .ok (.ifCond .lt 10, 3) := by decide +kernel
theorem dX7_look_79 : decode cX7_look 79 = .ok (.lload 5, 2) := by decide +kernel
theorem dX7_look_81 : decode cX7_look 81 = .ok (.lconst 1, 1) := by decide +kernel
theorem dX7_look_82 : decode cX7_look 82 = .ok (.lcmp, 1) := by decide +kernel
theorem dX7_look_83 : decode cX7_look 83 = .ok (.ifCond .le 5, 3) := by decide +kernel
theorem dX7_look_86 : decode cX7_look 86 = .ok (.iconst 0, 1) := by decide +kernel
theorem dX7_look_87 : decode cX7_look 87 = .ok (.ireturn, 1) := by decide +kernel
theorem dX7_look_88 : decode cX7_look 88 = .ok (.aload_n 0, 1) := by decide +kernel
theorem dX7_look_89 : decode cX7_look 89 = .ok (.getfield 7, 3) := by decide +kernel
theorem dX7_look_92 : decode cX7_look 92 = .ok (.lload_n 3, 1) := by decide +kernel
theorem dX7_look_93 : decode cX7_look 93 = .ok (.l2i, 1) := by decide +kernel
theorem dX7_look_94 : decode cX7_look 94 = .ok (.iconst 2, 1) := by decide +kernel
theorem dX7_look_95 : decode cX7_look 95 = .ok (.imul, 1) := by decide +kernel
theorem dX7_look_96 : decode cX7_look 96 = .ok (.lload 5, 2) := by decide +kernel
theorem dX7_look_98 : decode cX7_look 98 = .ok (.l2i, 1) := by decide +kernel
theorem dX7_look_99 : decode cX7_look 99 = .ok (.iadd, 1) := by decide +kernel
theorem dX7_look_100 : decode cX7_look 100 = .ok (.dup2, 1) := by decide +kernel
theorem dX7_look_101 : decode cX7_look 101 = .ok (.iaload, 1) := by decide +kernel
theorem dX7_look_102 : decode cX7_look 102 = .ok (.iconst 1, 1) := by decide +kernel
theorem dX7_look_103 : decode cX7_look 103 = .ok (.iadd, 1) := by decide +kernel
theorem dX7_look_104 : decode cX7_look 104 = .ok (.iastore, 1) := by decide +kernel
theorem dX7_look_105 : decode cX7_look 105 = .ok (.iinc 2 2, 3) := by decide +kernel
theorem dX7_look_108 : decode cX7_look 108 = .ok (.goto (-75), 3) := by decide +kernel
theorem dX7_look_111 : decode cX7_look 111 = .ok (.iconst 1, 1) := by decide +kernel
theorem dX7_look_112 : decode cX7_look 112 = .ok (.ireturn, 1) := by decide +kernel
theorem dX7_howMany_0 : decode cX7_howMany 0 = .ok (.iload_n 1, 1) := by decide +kernel
theorem dX7_howMany_1 : decode cX7_howMany 1 = .ok (.invokestatic 23, 3) := by decide +kernel
theorem dX7_howMany_4 : decode cX7_howMany 4 = .ok (.ifCond .eq 23, 3) := by decide +kernel
theorem dX7_howMany_7 : decode cX7_howMany 7 = .ok (.iload_n 2, 1) := by decide +kernel
theorem dX7_howMany_8 : decode cX7_howMany 8 = .ok (.invokestatic 23, 3) := by decide +kernel
theorem dX7_howMany_11 : decode cX7_howMany 11 = .ok (.ifCond .eq 16, 3) := by decide +kernel
theorem dX7_howMany_14 : decode cX7_howMany 14 = .ok (.aload_n 0, 1) := by decide +kernel
theorem dX7_howMany_15 : decode cX7_howMany 15 = .ok (.getfield 7, 3) := by decide +kernel
theorem dX7_howMany_18 : decode cX7_howMany 18 = .ok (.iload_n 1, 1) := by decide +kernel
theorem dX7_howMany_19 : decode cX7_howMany 19 = .ok (.iconst 2, 1) := by decide +kernel
theorem dX7_howMany_20 : decode cX7_howMany 20 = .ok (.imul, 1) := by decide +kernel
theorem dX7_howMany_21 : decode cX7_howMany 21 = .ok (.iload_n 2, 1) := by decide +kernel
theorem dX7_howMany_22 : decode cX7_howMany 22 = .ok (.iadd, 1) := by decide +kernel
theorem dX7_howMany_23 : decode cX7_howMany 23 = .ok (.iaload, 1) := by decide +kernel
theorem dX7_howMany_24 : decode cX7_howMany 24 = .ok (.goto 4, 3) := by decide +kernel
theorem dX7_howMany_27 : decode cX7_howMany 27 = .ok (.iconst 0, 1) := by decide +kernel
theorem dX7_howMany_28 : decode cX7_howMany 28 = .ok (.ireturn, 1) := by decide +kernel
theorem dX7_withSign_0 : decode cX7_withSign 0 = .ok (.aload_n 0, 1) := by decide +kernel
theorem dX7_withSign_1 : decode cX7_withSign 1 = .ok (.iload_n 1, 1) := by decide +kernel
theorem dX7_withSign_2 : decode cX7_withSign 2 = .ok (.iconst 0, 1) := by decide +kernel
theorem dX7_withSign_3 : decode cX7_withSign 3 = .ok (.invokevirtual 29, 3) := by decide +kernel
theorem dX7_withSign_6 : decode cX7_withSign 6 = .ok (.aload_n 0, 1) := by decide +kernel
theorem dX7_withSign_7 : decode cX7_withSign 7 = .ok (.iload_n 1, 1) := by decide +kernel
theorem dX7_withSign_8 : decode cX7_withSign 8 = .ok (.iconst 1, 1) := by decide +kernel
theorem dX7_withSign_9 : decode cX7_withSign 9 = .ok (.invokevirtual 29, 3) := by decide +kernel
theorem dX7_withSign_12 : decode cX7_withSign 12 = .ok (.iadd, 1) := by decide +kernel
theorem dX7_withSign_13 : decode cX7_withSign 13 = .ok (.ireturn, 1) := by decide +kernel
theorem dX7_wins_0 : decode cX7_wins 0 = .ok (.aload_n 0, 1) := by decide +kernel
theorem dX7_wins_1 : decode cX7_wins 1 = .ok (.iconst 0, 1) := by decide +kernel
theorem dX7_wins_2 : decode cX7_wins 2 = .ok (.iconst 1, 1) := by decide +kernel
theorem dX7_wins_3 : decode cX7_wins 3 = .ok (.invokevirtual 29, 3) := by decide +kernel
theorem dX7_wins_6 : decode cX7_wins 6 = .ok (.aload_n 0, 1) := by decide +kernel
theorem dX7_wins_7 : decode cX7_wins 7 = .ok (.iconst 1, 1) := by decide +kernel
theorem dX7_wins_8 : decode cX7_wins 8 = .ok (.iconst 1, 1) := by decide +kernel
theorem dX7_wins_9 : decode cX7_wins 9 = .ok (.invokevirtual 29, 3) := by decide +kernel
theorem dX7_wins_12 : decode cX7_wins 12 = .ok (.iadd, 1) := by decide +kernel
theorem dX7_wins_13 : decode cX7_wins 13 = .ok (.ireturn, 1) := by decide +kernel
theorem dX7_allWays_0 : decode cX7_allWays 0 = .ok (.aload_n 0, 1) := by decide +kernel
theorem dX7_allWays_1 : decode cX7_allWays 1 = .ok (.iconst 0, 1) := by decide +kernel
theorem dX7_allWays_2 : decode cX7_allWays 2 = .ok (.invokevirtual 33, 3) := by decide +kernel
theorem dX7_allWays_5 : decode cX7_allWays 5 = .ok (.aload_n 0, 1) := by decide +kernel
theorem dX7_allWays_6 : decode cX7_allWays 6 = .ok (.iconst 1, 1) := by decide +kernel
theorem dX7_allWays_7 : decode cX7_allWays 7 = .ok (.invokevirtual 33, 3) := by decide +kernel
theorem dX7_allWays_10 : decode cX7_allWays 10 = .ok (.iadd, 1) := by decide +kernel
theorem dX7_allWays_11 : decode cX7_allWays 11 = .ok (.aload_n 0, 1) := by decide +kernel
theorem dX7_allWays_12 : decode cX7_allWays 12 = .ok (.invokevirtual 37, 3) := by decide +kernel
theorem dX7_allWays_15 : decode cX7_allWays 15 = .ok (.invokestatic 41, 3) := by decide +kernel
theorem dX7_allWays_18 : decode cX7_allWays 18 = .ok (.lreturn, 1) := by decide +kernel
theorem dX7_waysAsGood_0 : decode cX7_waysAsGood 0 = .ok (.lconst 0, 1) := by decide +kernel
theorem dX7_waysAsGood_1 : decode cX7_waysAsGood 1 = .ok (.lstore_n 1, 1) := by decide +kernel
theorem dX7_waysAsGood_2 : decode cX7_waysAsGood 2 = .ok (.aload_n 0, 1) := by decide +kernel
theorem dX7_waysAsGood_3 : decode cX7_waysAsGood 3 = .ok (.iconst 1, 1) := by decide +kernel
theorem dX7_waysAsGood_4 : decode cX7_waysAsGood 4 = .ok (.iconst 1, 1) := by decide +kernel
theorem dX7_waysAsGood_5 : decode cX7_waysAsGood 5 = .ok (.invokevirtual 29, 3) := by decide +kernel
theorem dX7_waysAsGood_8 : decode cX7_waysAsGood 8 = .ok (.istore_n 3, 1) := by decide +kernel
theorem dX7_waysAsGood_9 : decode cX7_waysAsGood 9 = .ok (.iload_n 3, 1) := by decide +kernel
theorem dX7_waysAsGood_10 : decode cX7_waysAsGood 10 = .ok (.aload_n 0, 1) := by decide +kernel
theorem dX7_waysAsGood_11 : decode cX7_waysAsGood 11 = .ok (.iconst 1, 1) := by decide +kernel
theorem dX7_waysAsGood_12 : decode cX7_waysAsGood 12 = .ok (.invokevirtual 33, 3) := by decide +kernel
theorem dX7_waysAsGood_15 : decode cX7_waysAsGood 15 = .ok (.if_icmp .gt 36, 3) := by decide +kernel
theorem dX7_waysAsGood_18 : decode cX7_waysAsGood 18 = .ok (.lload_n 1, 1) := by decide +kernel
theorem dX7_waysAsGood_19 : decode cX7_waysAsGood 19 = .ok (.aload_n 0, 1) := by decide +kernel
theorem dX7_waysAsGood_20 : decode cX7_waysAsGood 20 = .ok (.iconst 1, 1) := by decide +kernel
theorem dX7_waysAsGood_21 : decode cX7_waysAsGood 21 = .ok (.invokevirtual 33, 3) := by decide +kernel
theorem dX7_waysAsGood_24 : decode cX7_waysAsGood 24 = .ok (.iload_n 3, 1) := by decide +kernel
theorem dX7_waysAsGood_25 : decode cX7_waysAsGood 25 = .ok (.invokestatic 41, 3) := by decide +kernel
theorem dX7_waysAsGood_28 : decode cX7_waysAsGood 28 = .ok (.aload_n 0, 1) := by decide +kernel
theorem dX7_waysAsGood_29 : decode cX7_waysAsGood 29 = .ok (.iconst 0, 1) := by decide +kernel
theorem dX7_waysAsGood_30 : decode cX7_waysAsGood 30 = .ok (.invokevirtual 33, 3) := by decide +kernel
theorem dX7_waysAsGood_33 : decode cX7_waysAsGood 33 = .ok (.aload_n 0, 1) := by decide +kernel
theorem dX7_waysAsGood_34 : decode cX7_waysAsGood 34 = .ok (.invokevirtual 37, 3) := by decide +kernel
theorem dX7_waysAsGood_37 : decode cX7_waysAsGood 37 = .ok (.iload_n 3, 1) := by decide +kernel
theorem dX7_waysAsGood_38 : decode cX7_waysAsGood 38 = .ok (.isub, 1) := by decide +kernel
theorem dX7_waysAsGood_39 : decode cX7_waysAsGood 39 = .ok (.invokestatic 41, 3) := by decide +kernel
theorem dX7_waysAsGood_42 : decode cX7_waysAsGood 42 = .ok (.lmul, 1) := by decide +kernel
theorem dX7_waysAsGood_43 : decode cX7_waysAsGood 43 = .ok (.ladd, 1) := by decide +kernel
theorem dX7_waysAsGood_44 : decode cX7_waysAsGood 44 = .ok (.lstore_n 1, 1) := by decide +kernel
theorem dX7_waysAsGood_45 : decode cX7_waysAsGood 45 = .ok (.iinc 3 1, 3) := by decide +kernel
theorem dX7_waysAsGood_48 : decode cX7_waysAsGood 48 = .ok (.goto (-39), 3) := by decide +kernel
theorem dX7_waysAsGood_51 : decode cX7_waysAsGood 51 = .ok (.lload_n 1, 1) := by decide +kernel
theorem dX7_waysAsGood_52 : decode cX7_waysAsGood 52 = .ok (.lreturn, 1) := by decide +kernel
theorem dX7_choose_0 : decode cX7_choose 0 = .ok (.iload_n 1, 1) := by decide +kernel
theorem dX7_choose_1 : decode cX7_choose 1 = .ok (.ifCond .lt 8, 3) := by decide +kernel
theorem dX7_choose_4 : decode cX7_choose 4 = .ok (.iload_n 1, 1) := by decide +kernel
theorem dX7_choose_5 : decode cX7_choose 5 = .ok (.iload_n 0, 1) := by decide +kernel
theorem dX7_choose_6 : decode cX7_choose 6 = .ok (.if_icmp .le 5, 3) := by decide +kernel
theorem dX7_choose_9 : decode cX7_choose 9 = .ok (.lconst 0, 1) := by decide +kernel
theorem dX7_choose_10 : decode cX7_choose 10 = .ok (.lreturn, 1) := by decide +kernel
theorem dX7_choose_11 : decode cX7_choose 11 = .ok (.lconst 1, 1) := by decide +kernel
theorem dX7_choose_12 : decode cX7_choose 12 = .ok (.lstore_n 2, 1) := by decide +kernel
theorem dX7_choose_13 : decode cX7_choose 13 = .ok (.iconst 1, 1) := by decide +kernel
theorem dX7_choose_14 : decode cX7_choose 14 = .ok (.istore 4, 2) := by decide +kernel
theorem dX7_choose_16 : decode cX7_choose 16 = .ok (.iload 4, 2) := by decide +kernel
theorem dX7_choose_18 : decode cX7_choose 18 = .ok (.iload_n 1, 1) := by decide +kernel
theorem dX7_choose_19 : decode cX7_choose 19 = .ok (.if_icmp .gt 23, 3) := by decide +kernel
theorem dX7_choose_22 : decode cX7_choose 22 = .ok (.lload_n 2, 1) := by decide +kernel
theorem dX7_choose_23 : decode cX7_choose 23 = .ok (.iload_n 0, 1) := by decide +kernel
theorem dX7_choose_24 : decode cX7_choose 24 = .ok (.iload_n 1, 1) := by decide +kernel
theorem dX7_choose_25 : decode cX7_choose 25 = .ok (.isub, 1) := by decide +kernel
theorem dX7_choose_26 : decode cX7_choose 26 = .ok (.iload 4, 2) := by decide +kernel
theorem dX7_choose_28 : decode cX7_choose 28 = .ok (.iadd, 1) := by decide +kernel
theorem dX7_choose_29 : decode cX7_choose 29 = .ok (.i2l, 1) := by decide +kernel
theorem dX7_choose_30 : decode cX7_choose 30 = .ok (.lmul, 1) := by decide +kernel
theorem dX7_choose_31 : decode cX7_choose 31 = .ok (.iload 4, 2) := by decide +kernel
theorem dX7_choose_33 : decode cX7_choose 33 = .ok (.i2l, 1) := by decide +kernel
theorem dX7_choose_34 : decode cX7_choose 34 = .ok (.ldiv, 1) := by decide +kernel
theorem dX7_choose_35 : decode cX7_choose 35 = .ok (.lstore_n 2, 1) := by decide +kernel
theorem dX7_choose_36 : decode cX7_choose 36 = .ok (.iinc 4 1, 3) := by decide +kernel
theorem dX7_choose_39 : decode cX7_choose 39 = .ok (.goto (-23), 3) := by decide +kernel
theorem dX7_choose_42 : decode cX7_choose 42 = .ok (.lload_n 2, 1) := by decide +kernel
theorem dX7_choose_43 : decode cX7_choose 43 = .ok (.lreturn, 1) := by decide +kernel
theorem dX8_append_0 : decode cX8_append 0 = .ok (.bipush 24, 2) := by decide +kernel
theorem dX8_append_2 : decode cX8_append 2 = .ok (.istore_n 2, 1) := by decide +kernel
theorem dX8_append_3 : decode cX8_append 3 = .ok (.iload_n 2, 1) := by decide +kernel
theorem dX8_append_4 : decode cX8_append 4 = .ok (.ifCond .lt 51, 3) := by decide +kernel
theorem dX8_append_7 : decode cX8_append 7 = .ok (.aload_n 0, 1) := by decide +kernel
theorem dX8_append_8 : decode cX8_append 8 = .ok (.getfield 15, 3) := by decide +kernel
theorem dX8_append_11 : decode cX8_append 11 = .ok (.ifCond .lt 38, 3) := by decide +kernel
theorem dX8_append_14 : decode cX8_append 14 = .ok (.aload_n 0, 1) := by decide +kernel
theorem dX8_append_15 : decode cX8_append 15 = .ok (.getfield 15, 3) := by decide +kernel
theorem dX8_append_18 : decode cX8_append 18 = .ok (.aload_n 0, 1) := by decide +kernel
theorem dX8_append_19 : decode cX8_append 19 = .ok (.getfield 9, 3) := by decide +kernel
theorem dX8_append_22 : decode cX8_append 22 = .ok (.arraylength, 1) := by decide +kernel
theorem dX8_append_23 : decode cX8_append 23 = .ok (.if_icmp .ge 26, 3) := by decide +kernel
theorem dX8_append_26 : decode cX8_append 26 = .ok (.aload_n 0, 1) := by decide +kernel
theorem dX8_append_27 : decode cX8_append 27 = .ok (.getfield 9, 3) := by decide +kernel
theorem dX8_append_30 : decode cX8_append 30 = .ok (.aload_n 0, 1) := by decide +kernel
theorem dX8_append_31 : decode cX8_append 31 = .ok (.getfield 15, 3) := by decide +kernel
theorem dX8_append_34 : decode cX8_append 34 = .ok (.iload_n 1, 1) := by decide +kernel
theorem dX8_append_35 : decode cX8_append 35 = .ok (.iload_n 2, 1) := by decide +kernel
theorem dX8_append_36 : decode cX8_append 36 = .ok (.ishr, 1) := by decide +kernel
theorem dX8_append_37 : decode cX8_append 37 = .ok (.i2b, 1) := by decide +kernel
theorem dX8_append_38 : decode cX8_append 38 = .ok (.bastore, 1) := by decide +kernel
theorem dX8_append_39 : decode cX8_append 39 = .ok (.aload_n 0, 1) := by decide +kernel
theorem dX8_append_40 : decode cX8_append 40 = .ok (.dup, 1) := by decide +kernel
theorem dX8_append_41 : decode cX8_append 41 = .ok (.getfield 15, 3) := by decide +kernel
theorem dX8_append_44 : decode cX8_append 44 = .ok (.iconst 1, 1) := by decide +kernel
theorem dX8_append_45 : decode cX8_append 45 = .ok (.iadd, 1) := by decide +kernel
theorem dX8_append_46 : decode cX8_append 46 = .ok (.putfield 15, 3) := by decide +kernel
theorem dX8_append_49 : decode cX8_append 49 = .ok (.iinc 2 (-8), 3) := by decide +kernel
theorem dX8_append_52 : decode cX8_append 52 = .ok (.goto (-49), 3) := by decide +kernel
theorem dX8_append_55 : decode cX8_append 55 = .ok (.return_, 1) := by decide +kernel
theorem dX9_feed_0 : decode cX9_feed 0 = .ok (.aload_n 0, 1) := by decide +kernel
theorem dX9_feed_1 : decode cX9_feed 1 = .ok (.getfield 10, 3) := by decide +kernel
theorem dX9_feed_4 : decode cX9_feed 4 = .ok (.getfield 83, 3) := by decide +kernel
theorem dX9_feed_7 : decode cX9_feed 7 = .ok (.sipush 780, 3) := by decide +kernel
theorem dX9_feed_10 : decode cX9_feed 10 = .ok (.if_icmp .le 5, 3) := by decide +kernel
theorem dX9_feed_13 : decode cX9_feed 13 = .ok (.iconst (-1), 1) := by decide +kernel
theorem dX9_feed_14 : decode cX9_feed 14 = .ok (.ireturn, 1) := by decide +kernel
theorem dX9_feed_15 : decode cX9_feed 15 = .ok (.aload_n 0, 1) := by decide +kernel
theorem dX9_feed_16 : decode cX9_feed 16 = .ok (.getfield 10, 3) := by decide +kernel
theorem dX9_feed_19 : decode cX9_feed 19 = .ok (.iload_n 1, 1) := by decide +kernel
theorem dX9_feed_20 : decode cX9_feed 20 = .ok (.invokevirtual 87, 3) := by decide +kernel
theorem dX9_feed_23 : decode cX9_feed 23 = .ok (.aload_n 0, 1) := by decide +kernel
theorem dX9_feed_24 : decode cX9_feed 24 = .ok (.getfield 10, 3) := by decide +kernel
theorem dX9_feed_27 : decode cX9_feed 27 = .ok (.iload_n 2, 1) := by decide +kernel
theorem dX9_feed_28 : decode cX9_feed 28 = .ok (.invokevirtual 87, 3) := by decide +kernel
theorem dX9_feed_31 : decode cX9_feed 31 = .ok (.aload_n 0, 1) := by decide +kernel
theorem dX9_feed_32 : decode cX9_feed 32 = .ok (.getfield 10, 3) := by decide +kernel
theorem dX9_feed_35 : decode cX9_feed 35 = .ok (.iload_n 3, 1) := by decide +kernel
theorem dX9_feed_36 : decode cX9_feed 36 = .ok (.invokevirtual 87, 3) := by decide +kernel
theorem dX9_feed_39 : decode cX9_feed 39 = .ok (.aload_n 0, 1) := by decide +kernel
theorem dX9_feed_40 : decode cX9_feed 40 = .ok (.getfield 10, 3) := by decide +kernel
theorem dX9_feed_43 : decode cX9_feed 43 = .ok (.iload 4, 2) := by decide +kernel
theorem dX9_feed_45 : decode cX9_feed 45 = .ok (.invokevirtual 87, 3) := by decide +kernel
theorem dX9_feed_48 : decode cX9_feed 48 = .ok (.aload_n 0, 1) := by decide +kernel
theorem dX9_feed_49 : decode cX9_feed 49 = .ok (.getfield 10, 3) := by decide +kernel
theorem dX9_feed_52 : decode cX9_feed 52 = .ok (.iload 5, 2) := by decide +kernel
theorem dX9_feed_54 : decode cX9_feed 54 = .ok (.invokevirtual 87, 3) := by decide +kernel
theorem dX9_feed_57 : decode cX9_feed 57 = .ok (.aload_n 0, 1) := by decide +kernel
theorem dX9_feed_58 : decode cX9_feed 58 = .ok (.getfield 10, 3) := by decide +kernel
theorem dX9_feed_61 : decode cX9_feed 61 = .ok (.getfield 83, 3) := by decide +kernel
theorem dX9_feed_64 : decode cX9_feed 64 = .ok (.ireturn, 1) := by decide +kernel
theorem dX9_end_0 : decode cX9_end 0 = .ok (.iload_n 1, 1) := by decide +kernel
theorem dX9_end_1 : decode cX9_end 1 = .ok (.ifCond .lt 14, 3) := by decide +kernel
theorem dX9_end_4 : decode cX9_end 4 = .ok (.iload_n 1, 1) := by decide +kernel
theorem dX9_end_5 : decode cX9_end 5 = .ok (.aload_n 0, 1) := by decide +kernel
theorem dX9_end_6 : decode cX9_end 6 = .ok (.getfield 10, 3) := by decide +kernel
theorem dX9_end_9 : decode cX9_end 9 = .ok (.getfield 83, 3) := by decide +kernel
theorem dX9_end_12 : decode cX9_end 12 = .ok (.if_icmp .le 5, 3) := by decide +kernel
theorem dX9_end_15 : decode cX9_end 15 = .ok (.iconst (-1), 1) := by decide +kernel
theorem dX9_end_16 : decode cX9_end 16 = .ok (.ireturn, 1) := by decide +kernel
theorem dX9_end_17 : decode cX9_end 17 = .ok (.aload_n 0, 1) := by decide +kernel
theorem dX9_end_18 : decode cX9_end 18 = .ok (.getfield 10, 3) := by decide +kernel
theorem dX9_end_21 : decode cX9_end 21 = .ok (.iload_n 1, 1) := by decide +kernel
theorem dX9_end_22 : decode cX9_end 22 = .ok (.putfield 83, 3) := by decide +kernel
theorem dX9_end_25 : decode cX9_end 25 = .ok (.iload_n 1, 1) := by decide +kernel
theorem dX9_end_26 : decode cX9_end 26 = .ok (.ireturn, 1) := by decide +kernel
theorem dX9_camp_0 : decode cX9_camp 0 = .ok (.aload_n 0, 1) := by decide +kernel
theorem dX9_camp_1 : decode cX9_camp 1 = .ok (.getfield 19, 3) := by decide +kernel
theorem dX9_camp_4 : decode cX9_camp 4 = .ok (.aload_n 0, 1) := by decide +kernel
theorem dX9_camp_5 : decode cX9_camp 5 = .ok (.getfield 10, 3) := by decide +kernel
theorem dX9_camp_8 : decode cX9_camp 8 = .ok (.aload_n 0, 1) := by decide +kernel
theorem dX9_camp_9 : decode cX9_camp 9 = .ok (.getfield 79, 3) := by decide +kernel
theorem dX9_camp_12 : decode cX9_camp 12 = .ok (.invokevirtual 91, 3) := by decide +kernel
theorem dX9_camp_15 : decode cX9_camp 15 = .ok (.istore_n 1, 1) := by decide +kernel
theorem dX9_camp_16 : decode cX9_camp 16 = .ok (.aload_n 0, 1) := by decide +kernel
theorem dX9_camp_17 : decode cX9_camp 17 = .ok (.getfield 10, 3) := by decide +kernel
theorem dX9_camp_20 : decode cX9_camp 20 = .ok (.iconst 0, 1) := by decide +kernel
theorem dX9_camp_21 : decode cX9_camp 21 = .ok (.putfield 83, 3) := by decide +kernel
theorem dX9_camp_24 : decode cX9_camp 24 = .ok (.iload_n 1, 1) := by decide +kernel
theorem dX9_camp_25 : decode cX9_camp 25 = .ok (.ifCond .ne 6, 3) := by decide +kernel
theorem dX9_camp_28 : decode cX9_camp 28 = .ok (.bipush (-4), 2) := by decide +kernel
theorem dX9_camp_30 : decode cX9_camp 30 = .ok (.ireturn, 1) := by decide +kernel
theorem dX9_camp_31 : decode cX9_camp 31 = .ok (.aload_n 0, 1) := by decide +kernel
theorem dX9_camp_32 : decode cX9_camp 32 = .ok (.getfield 75, 3) := by decide +kernel
theorem dX9_camp_35 : decode cX9_camp 35 = .ok (.astore_n 2, 1) := by decide +kernel
theorem dX9_camp_36 : decode cX9_camp 36 = .ok (.aload_n 0, 1) := by decide +kernel
theorem dX9_camp_37 : decode cX9_camp 37 = .ok (.aload_n 0, 1) := by decide +kernel
theorem dX9_camp_38 : decode cX9_camp 38 = .ok (.getfield 79, 3) := by decide +kernel
theorem dX9_camp_41 : decode cX9_camp 41 = .ok (.putfield 75, 3) := by decide +kernel
theorem dX9_camp_44 : decode cX9_camp 44 = .ok (.aload_n 0, 1) := by decide +kernel
theorem dX9_camp_45 : decode cX9_camp 45 = .ok (.aload_n 2, 1) := by decide +kernel
theorem dX9_camp_46 : decode cX9_camp 46 = .ok (.putfield 79, 3) := by decide +kernel
theorem dX9_camp_49 : decode cX9_camp 49 = .ok (.aload_n 0, 1) := by decide +kernel
theorem dX9_camp_50 : decode cX9_camp 50 = .ok (.getfield 75, 3) := by decide +kernel
theorem dX9_camp_53 : decode cX9_camp 53 = .ok (.getfield 95, 3) := by decide +kernel
theorem dX9_camp_56 : decode cX9_camp 56 = .ok (.ireturn, 1) := by decide +kernel
theorem dX9_fault_0 : decode cX9_fault 0 = .ok (.iload_n 1, 1) := by decide +kernel
theorem dX9_fault_1 : decode cX9_fault 1 = .ok (.ifCond .ne 11, 3) := by decide +kernel
theorem dX9_fault_4 : decode cX9_fault 4 = .ok (.aload_n 0, 1) := by decide +kernel
theorem dX9_fault_5 : decode cX9_fault 5 = .ok (.getfield 19, 3) := by decide +kernel
theorem dX9_fault_8 : decode cX9_fault 8 = .ok (.getfield 98, 3) := by decide +kernel
theorem dX9_fault_11 : decode cX9_fault 11 = .ok (.ireturn, 1) := by decide +kernel
theorem dX9_fault_12 : decode cX9_fault 12 = .ok (.iload_n 1, 1) := by decide +kernel
theorem dX9_fault_13 : decode cX9_fault 13 = .ok (.iconst 1, 1) := by decide +kernel
theorem dX9_fault_14 : decode cX9_fault 14 = .ok (.if_icmp .ne 13, 3) := by decide +kernel
theorem dX9_fault_17 : decode cX9_fault 17 = .ok (.aload_n 0, 1) := by decide +kernel
theorem dX9_fault_18 : decode cX9_fault 18 = .ok (.getfield 19, 3) := by decide +kernel
theorem dX9_fault_21 : decode cX9_fault 21 = .ok (.getfield 101, 3) := by decide +kernel
theorem dX9_fault_24 : decode cX9_fault 24 = .ok (.goto 4, 3) := by decide +kernel
theorem dX9_fault_27 : decode cX9_fault 27 = .ok (.iconst (-1), 1) := by decide +kernel
theorem dX9_fault_28 : decode cX9_fault 28 = .ok (.ireturn, 1) := by decide +kernel
theorem dX9_augur_0 : decode cX9_augur 0 = .ok (.aload_n 0, 1) := by decide +kernel
theorem dX9_augur_1 : decode cX9_augur 1 = .ok (.getfield 75, 3) := by decide +kernel
theorem dX9_augur_4 : decode cX9_augur 4 = .ok (.iload_n 1, 1) := by decide +kernel
theorem dX9_augur_5 : decode cX9_augur 5 = .ok (.invokevirtual 104, 3) := by decide +kernel
theorem dX9_augur_8 : decode cX9_augur 8 = .ok (.ifCond .ne 6, 3) := by decide +kernel
theorem dX9_augur_11 : decode cX9_augur 11 = .ok (.bipush (-2), 2) := by decide +kernel
theorem dX9_augur_13 : decode cX9_augur 13 = .ok (.ireturn, 1) := by decide +kernel
theorem dX9_augur_14 : decode cX9_augur 14 = .ok (.iload_n 2, 1) := by decide +kernel
theorem dX9_augur_15 : decode cX9_augur 15 = .ok (.tableswitch 55 0 2 #[25, 35, 45], 25) := by decide +kernel
theorem dX9_augur_40 : decode cX9_augur 40 = .ok (.aload_n 0, 1) := by decide +kernel
theorem dX9_augur_41 : decode cX9_augur 41 = .ok (.getfield 75, 3) := by decide +kernel
theorem dX9_augur_44 : decode cX9_augur 44 = .ok (.getfield 108, 3) := by decide +kernel
theorem dX9_augur_47 : decode cX9_augur 47 = .ok (.iload_n 1, 1) := by decide +kernel
theorem dX9_augur_48 : decode cX9_augur 48 = .ok (.iaload, 1) := by decide +kernel
theorem dX9_augur_49 : decode cX9_augur 49 = .ok (.ireturn, 1) := by decide +kernel
theorem dX9_augur_50 : decode cX9_augur 50 = .ok (.aload_n 0, 1) := by decide +kernel
theorem dX9_augur_51 : decode cX9_augur 51 = .ok (.getfield 75, 3) := by decide +kernel
theorem dX9_augur_54 : decode cX9_augur 54 = .ok (.getfield 112, 3) := by decide +kernel
theorem dX9_augur_57 : decode cX9_augur 57 = .ok (.iload_n 1, 1) := by decide +kernel
theorem dX9_augur_58 : decode cX9_augur 58 = .ok (.iaload, 1) := by decide +kernel
theorem dX9_augur_59 : decode cX9_augur 59 = .ok (.ireturn, 1) := by decide +kernel
theorem dX9_augur_60 : decode cX9_augur 60 = .ok (.aload_n 0, 1) := by decide +kernel
theorem dX9_augur_61 : decode cX9_augur 61 = .ok (.getfield 75, 3) := by decide +kernel
theorem dX9_augur_64 : decode cX9_augur 64 = .ok (.getfield 115, 3) := by decide +kernel
theorem dX9_augur_67 : decode cX9_augur 67 = .ok (.iload_n 1, 1) := by decide +kernel
theorem dX9_augur_68 : decode cX9_augur 68 = .ok (.iaload, 1) := by decide +kernel
theorem dX9_augur_69 : decode cX9_augur 69 = .ok (.ireturn, 1) := by decide +kernel
theorem dX9_augur_70 : decode cX9_augur 70 = .ok (.bipush (-2), 2) := by decide +kernel
theorem dX9_augur_72 : decode cX9_augur 72 = .ok (.ireturn, 1) := by decide +kernel
theorem dX9_bill_0 : decode cX9_bill 0 = .ok (.aload_n 0, 1) := by decide +kernel
theorem dX9_bill_1 : decode cX9_bill 1 = .ok (.getfield 75, 3) := by decide +kernel
theorem dX9_bill_4 : decode cX9_bill 4 = .ok (.iload_n 1, 1) := by decide +kernel
theorem dX9_bill_5 : decode cX9_bill 5 = .ok (.invokevirtual 118, 3) := by decide +kernel
theorem dX9_bill_8 : decode cX9_bill 8 = .ok (.ifCond .ne 6, 3) := by decide +kernel
theorem dX9_bill_11 : decode cX9_bill 11 = .ok (.bipush (-2), 2) := by decide +kernel
theorem dX9_bill_13 : decode cX9_bill 13 = .ok (.ireturn, 1) := by decide +kernel
theorem dX9_bill_14 : decode cX9_bill 14 = .ok (.iload_n 2, 1) := by decide +kernel
theorem dX9_bill_15 : decode cX9_bill 15 = .ok (.tableswitch 55 0 2 #[25, 35, 45], 25) := by decide +kernel
theorem dX9_bill_40 : decode cX9_bill 40 = .ok (.aload_n 0, 1) := by decide +kernel
theorem dX9_bill_41 : decode cX9_bill 41 = .ok (.getfield 75, 3) := by decide +kernel
theorem dX9_bill_44 : decode cX9_bill 44 = .ok (.getfield 121, 3) := by decide +kernel
theorem dX9_bill_47 : decode cX9_bill 47 = .ok (.iload_n 1, 1) := by decide +kernel
theorem dX9_bill_48 : decode cX9_bill 48 = .ok (.iaload, 1) := by decide +kernel
theorem dX9_bill_49 : decode cX9_bill 49 = .ok (.ireturn, 1) := by decide +kernel
theorem dX9_bill_50 : decode cX9_bill 50 = .ok (.aload_n 0, 1) := by decide +kernel
theorem dX9_bill_51 : decode cX9_bill 51 = .ok (.getfield 75, 3) := by decide +kernel
theorem dX9_bill_54 : decode cX9_bill 54 = .ok (.getfield 124, 3) := by decide +kernel
theorem dX9_bill_57 : decode cX9_bill 57 = .ok (.iload_n 1, 1) := by decide +kernel
theorem dX9_bill_58 : decode cX9_bill 58 = .ok (.iaload, 1) := by decide +kernel
theorem dX9_bill_59 : decode cX9_bill 59 = .ok (.ireturn, 1) := by decide +kernel
theorem dX9_bill_60 : decode cX9_bill 60 = .ok (.aload_n 0, 1) := by decide +kernel
theorem dX9_bill_61 : decode cX9_bill 61 = .ok (.getfield 75, 3) := by decide +kernel
theorem dX9_bill_64 : decode cX9_bill 64 = .ok (.getfield 127, 3) := by decide +kernel
theorem dX9_bill_67 : decode cX9_bill 67 = .ok (.iload_n 1, 1) := by decide +kernel
theorem dX9_bill_68 : decode cX9_bill 68 = .ok (.iaload, 1) := by decide +kernel
theorem dX9_bill_69 : decode cX9_bill 69 = .ok (.ireturn, 1) := by decide +kernel
theorem dX9_bill_70 : decode cX9_bill 70 = .ok (.bipush (-2), 2) := by decide +kernel
theorem dX9_bill_72 : decode cX9_bill 72 = .ok (.ireturn, 1) := by decide +kernel
theorem dX9_marks_0 : decode cX9_marks 0 = .ok (.aload_n 0, 1) := by decide +kernel
theorem dX9_marks_1 : decode cX9_marks 1 = .ok (.getfield 75, 3) := by decide +kernel
theorem dX9_marks_4 : decode cX9_marks 4 = .ok (.invokevirtual 130, 3) := by decide +kernel
theorem dX9_marks_7 : decode cX9_marks 7 = .ok (.ifCond .eq 13, 3) := by decide +kernel
theorem dX9_marks_10 : decode cX9_marks 10 = .ok (.aload_n 0, 1) := by decide +kernel
theorem dX9_marks_11 : decode cX9_marks 11 = .ok (.getfield 75, 3) := by decide +kernel
theorem dX9_marks_14 : decode cX9_marks 14 = .ok (.getfield 134, 3) := by decide +kernel
theorem dX9_marks_17 : decode cX9_marks 17 = .ok (.goto 5, 3) := by decide +kernel
theorem dX9_marks_20 : decode cX9_marks 20 = .ok (.bipush (-2), 2) := by decide +kernel
theorem dX9_marks_22 : decode cX9_marks 22 = .ok (.ireturn, 1) := by decide +kernel
theorem dX9_sky_0 : decode cX9_sky 0 = .ok (.aload_n 0, 1) := by decide +kernel
theorem dX9_sky_1 : decode cX9_sky 1 = .ok (.getfield 75, 3) := by decide +kernel
theorem dX9_sky_4 : decode cX9_sky 4 = .ok (.iload_n 1, 1) := by decide +kernel
theorem dX9_sky_5 : decode cX9_sky 5 = .ok (.invokevirtual 137, 3) := by decide +kernel
theorem dX9_sky_8 : decode cX9_sky 8 = .ok (.ifCond .eq 21, 3) := by decide +kernel
theorem dX9_sky_11 : decode cX9_sky 11 = .ok (.aload_n 0, 1) := by decide +kernel
theorem dX9_sky_12 : decode cX9_sky 12 = .ok (.getfield 75, 3) := by decide +kernel
theorem dX9_sky_15 : decode cX9_sky 15 = .ok (.aload_n 0, 1) := by decide +kernel
theorem dX9_sky_16 : decode cX9_sky 16 = .ok (.getfield 75, 3) := by decide +kernel
theorem dX9_sky_19 : decode cX9_sky 19 = .ok (.iload_n 1, 1) := by decide +kernel
theorem dX9_sky_20 : decode cX9_sky 20 = .ok (.invokevirtual 140, 3) := by decide +kernel
theorem dX9_sky_23 : decode cX9_sky 23 = .ok (.invokevirtual 144, 3) := by decide +kernel
theorem dX9_sky_26 : decode cX9_sky 26 = .ok (.goto 5, 3) := by decide +kernel
theorem dX9_sky_29 : decode cX9_sky 29 = .ok (.bipush (-2), 2) := by decide +kernel
theorem dX9_sky_31 : decode cX9_sky 31 = .ok (.ireturn, 1) := by decide +kernel
theorem dX9_watch_0 : decode cX9_watch 0 = .ok (.aload_n 0, 1) := by decide +kernel
theorem dX9_watch_1 : decode cX9_watch 1 = .ok (.getfield 75, 3) := by decide +kernel
theorem dX9_watch_4 : decode cX9_watch 4 = .ok (.iload_n 1, 1) := by decide +kernel
theorem dX9_watch_5 : decode cX9_watch 5 = .ok (.invokevirtual 147, 3) := by decide +kernel
theorem dX9_watch_8 : decode cX9_watch 8 = .ok (.ifCond .eq 14, 3) := by decide +kernel
theorem dX9_watch_11 : decode cX9_watch 11 = .ok (.aload_n 0, 1) := by decide +kernel
theorem dX9_watch_12 : decode cX9_watch 12 = .ok (.getfield 75, 3) := by decide +kernel
theorem dX9_watch_15 : decode cX9_watch 15 = .ok (.iload_n 1, 1) := by decide +kernel
theorem dX9_watch_16 : decode cX9_watch 16 = .ok (.invokevirtual 150, 3) := by decide +kernel
theorem dX9_watch_19 : decode cX9_watch 19 = .ok (.goto 5, 3) := by decide +kernel
theorem dX9_watch_22 : decode cX9_watch 22 = .ok (.bipush (-2), 2) := by decide +kernel
theorem dX9_watch_24 : decode cX9_watch 24 = .ok (.ireturn, 1) := by decide +kernel
theorem dX9_hunger_0 : decode cX9_hunger 0 = .ok (.aload_n 0, 1) := by decide +kernel
theorem dX9_hunger_1 : decode cX9_hunger 1 = .ok (.getfield 75, 3) := by decide +kernel
theorem dX9_hunger_4 : decode cX9_hunger 4 = .ok (.iload_n 1, 1) := by decide +kernel
theorem dX9_hunger_5 : decode cX9_hunger 5 = .ok (.invokevirtual 147, 3) := by decide +kernel
theorem dX9_hunger_8 : decode cX9_hunger 8 = .ok (.ifCond .ne 6, 3) := by decide +kernel
theorem dX9_hunger_11 : decode cX9_hunger 11 = .ok (.bipush (-2), 2) := by decide +kernel
theorem dX9_hunger_13 : decode cX9_hunger 13 = .ok (.ireturn, 1) := by decide +kernel
theorem dX9_hunger_14 : decode cX9_hunger 14 = .ok (.aload_n 0, 1) := by decide +kernel
theorem dX9_hunger_15 : decode cX9_hunger 15 = .ok (.getfield 26, 3) := by decide +kernel
theorem dX9_hunger_18 : decode cX9_hunger 18 = .ok (.aload_n 0, 1) := by decide +kernel
theorem dX9_hunger_19 : decode cX9_hunger 19 = .ok (.getfield 75, 3) := by decide +kernel
theorem dX9_hunger_22 : decode cX9_hunger 22 = .ok (.invokevirtual 153, 3) := by decide +kernel
theorem dX9_hunger_25 : decode cX9_hunger 25 = .ok (.aload_n 0, 1) := by decide +kernel
theorem dX9_hunger_26 : decode cX9_hunger 26 = .ok (.getfield 26, 3) := by decide +kernel
theorem dX9_hunger_29 : decode cX9_hunger 29 = .ok (.getfield 157, 3) := by decide +kernel
theorem dX9_hunger_32 : decode cX9_hunger 32 = .ok (.iload_n 1, 1) := by decide +kernel
theorem dX9_hunger_33 : decode cX9_hunger 33 = .ok (.iaload, 1) := by decide +kernel
theorem dX9_hunger_34 : decode cX9_hunger 34 = .ok (.ireturn, 1) := by decide +kernel
theorem dX9_eat_0 : decode cX9_eat 0 = .ok (.aload_n 0, 1) := by decide +kernel
theorem dX9_eat_1 : decode cX9_eat 1 = .ok (.getfield 75, 3) := by decide +kernel
theorem dX9_eat_4 : decode cX9_eat 4 = .ok (.invokevirtual 130, 3) := by decide +kernel
theorem dX9_eat_7 : decode cX9_eat 7 = .ok (.ifCond .ne 6, 3) := by decide +kernel
theorem dX9_eat_10 : decode cX9_eat 10 = .ok (.bipush (-2), 2) := by decide +kernel
theorem dX9_eat_12 : decode cX9_eat 12 = .ok (.ireturn, 1) := by decide +kernel
theorem dX9_eat_13 : decode cX9_eat 13 = .ok (.aload_n 0, 1) := by decide +kernel
theorem dX9_eat_14 : decode cX9_eat 14 = .ok (.getfield 26, 3) := by decide +kernel
theorem dX9_eat_17 : decode cX9_eat 17 = .ok (.aload_n 0, 1) := by decide +kernel
theorem dX9_eat_18 : decode cX9_eat 18 = .ok (.getfield 75, 3) := by decide +kernel
theorem dX9_eat_21 : decode cX9_eat 21 = .ok (.invokevirtual 153, 3) := by decide +kernel
theorem dX9_eat_24 : decode cX9_eat 24 = .ok (.iconst 0, 1) := by decide +kernel
theorem dX9_eat_25 : decode cX9_eat 25 = .ok (.istore_n 1, 1) := by decide +kernel
theorem dX9_eat_26 : decode cX9_eat 26 = .ok (.iconst 0, 1) := by decide +kernel
theorem dX9_eat_27 : decode cX9_eat 27 = .ok (.istore_n 2, 1) := by decide +kernel
theorem dX9_eat_28 : decode cX9_eat 28 = .ok (.iload_n 2, 1) := by decide +kernel
theorem dX9_eat_29 : decode cX9_eat 29 = .ok (.aload_n 0, 1) := by decide +kernel
theorem dX9_eat_30 : decode cX9_eat 30 = .ok (.getfield 75, 3) := by decide +kernel
theorem dX9_eat_33 : decode cX9_eat 33 = .ok (.getfield 160, 3) := by decide +kernel
theorem dX9_eat_36 : decode cX9_eat 36 = .ok (.if_icmp .ge 34, 3) := by decide +kernel
theorem dX9_eat_39 : decode cX9_eat 39 = .ok (.aload_n 0, 1) := by decide +kernel
theorem dX9_eat_40 : decode cX9_eat 40 = .ok (.getfield 26, 3) := by decide +kernel
theorem dX9_eat_43 : decode cX9_eat 43 = .ok (.getfield 157, 3) := by decide +kernel
theorem dX9_eat_46 : decode cX9_eat 46 = .ok (.iload_n 2, 1) := by decide +kernel
theorem dX9_eat_47 : decode cX9_eat 47 = .ok (.iaload, 1) := by decide +kernel
theorem dX9_eat_48 : decode cX9_eat 48 = .ok (.aload_n 0, 1) := by decide +kernel
theorem dX9_eat_49 : decode cX9_eat 49 = .ok (.getfield 75, 3) := by decide +kernel
theorem dX9_eat_52 : decode cX9_eat 52 = .ok (.getfield 163, 3) := by decide +kernel
theorem dX9_eat_55 : decode cX9_eat 55 = .ok (.if_icmp .lt 9, 3) := by decide +kernel
theorem dX9_eat_58 : decode cX9_eat 58 = .ok (.iload_n 1, 1) := by decide +kernel
theorem dX9_eat_59 : decode cX9_eat 59 = .ok (.iconst 1, 1) := by decide +kernel
theorem dX9_eat_60 : decode cX9_eat 60 = .ok (.iload_n 2, 1) := by decide +kernel
theorem dX9_eat_61 : decode cX9_eat 61 = .ok (.ishl, 1) := by decide +kernel
theorem dX9_eat_62 : decode cX9_eat 62 = .ok (.ior, 1) := by decide +kernel
theorem dX9_eat_63 : decode cX9_eat 63 = .ok (.istore_n 1, 1) := by decide +kernel
theorem dX9_eat_64 : decode cX9_eat 64 = .ok (.iinc 2 1, 3) := by decide +kernel
theorem dX9_eat_67 : decode cX9_eat 67 = .ok (.goto (-39), 3) := by decide +kernel
theorem dX9_eat_70 : decode cX9_eat 70 = .ok (.iload_n 1, 1) := by decide +kernel
theorem dX9_eat_71 : decode cX9_eat 71 = .ok (.ireturn, 1) := by decide +kernel
theorem dX9_open_0 : decode cX9_open 0 = .ok (.aload_n 0, 1) := by decide +kernel
theorem dX9_open_1 : decode cX9_open 1 = .ok (.getfield 75, 3) := by decide +kernel
theorem dX9_open_4 : decode cX9_open 4 = .ok (.iload_n 1, 1) := by decide +kernel
theorem dX9_open_5 : decode cX9_open 5 = .ok (.invokevirtual 137, 3) := by decide +kernel
theorem dX9_open_8 : decode cX9_open 8 = .ok (.ifCond .ne 6, 3) := by decide +kernel
theorem dX9_open_11 : decode cX9_open 11 = .ok (.bipush (-2), 2) := by decide +kernel
theorem dX9_open_13 : decode cX9_open 13 = .ok (.ireturn, 1) := by decide +kernel
theorem dX9_open_14 : decode cX9_open 14 = .ok (.aload_n 0, 1) := by decide +kernel
theorem dX9_open_15 : decode cX9_open 15 = .ok (.getfield 26, 3) := by decide +kernel
theorem dX9_open_18 : decode cX9_open 18 = .ok (.aload_n 0, 1) := by decide +kernel
theorem dX9_open_19 : decode cX9_open 19 = .ok (.getfield 75, 3) := by decide +kernel
theorem dX9_open_22 : decode cX9_open 22 = .ok (.invokevirtual 153, 3) := by decide +kernel
theorem dX9_open_25 : decode cX9_open 25 = .ok (.iconst 0, 1) := by decide +kernel
theorem dX9_open_26 : decode cX9_open 26 = .ok (.istore_n 2, 1) := by decide +kernel
theorem dX9_open_27 : decode cX9_open 27 = .ok (.iconst 0, 1) := by decide +kernel
theorem dX9_open_28 : decode cX9_open 28 = .ok (.istore_n 3, 1) := by decide +kernel
theorem dX9_open_29 : decode cX9_open 29 = .ok (.iload_n 3, 1) := by decide +kernel
theorem dX9_open_30 : decode cX9_open 30 = .ok (.aload_n 0, 1) := by decide +kernel
theorem dX9_open_31 : decode cX9_open 31 = .ok (.getfield 75, 3) := by decide +kernel
theorem dX9_open_34 : decode cX9_open 34 = .ok (.getfield 160, 3) := by decide +kernel
theorem dX9_open_37 : decode cX9_open 37 = .ok (.if_icmp .ge 67, 3) := by decide +kernel
theorem dX9_open_40 : decode cX9_open 40 = .ok (.iconst 0, 1) := by decide +kernel
theorem dX9_open_41 : decode cX9_open 41 = .ok (.istore 4, 2) := by decide +kernel
theorem dX9_open_43 : decode cX9_open 43 = .ok (.iload 4, 2) := by decide +kernel
theorem dX9_open_45 : decode cX9_open 45 = .ok (.aload_n 0, 1) := by decide +kernel
theorem dX9_open_46 : decode cX9_open 46 = .ok (.getfield 75, 3) := by decide +kernel
theorem dX9_open_49 : decode cX9_open 49 = .ok (.getfield 166, 3) := by decide +kernel
theorem dX9_open_52 : decode cX9_open 52 = .ok (.if_icmp .ge 46, 3) := by decide +kernel
theorem dX9_open_55 : decode cX9_open 55 = .ok (.aload_n 0, 1) := by decide +kernel
theorem dX9_open_56 : decode cX9_open 56 = .ok (.getfield 75, 3) := by decide +kernel
theorem dX9_open_59 : decode cX9_open 59 = .ok (.getfield 121, 3) := by decide +kernel
theorem dX9_open_62 : decode cX9_open 62 = .ok (.iload 4, 2) := by decide +kernel
theorem dX9_open_64 : decode cX9_open 64 = .ok (.iaload, 1) := by decide +kernel
theorem dX9_open_65 : decode cX9_open 65 = .ok (.iload_n 1, 1) := by decide +kernel
theorem dX9_open_66 : decode cX9_open 66 = .ok (.if_icmp .ne 26, 3) := by decide +kernel
theorem dX9_open_69 : decode cX9_open 69 = .ok (.aload_n 0, 1) := by decide +kernel
theorem dX9_open_70 : decode cX9_open 70 = .ok (.getfield 26, 3) := by decide +kernel
theorem dX9_open_73 : decode cX9_open 73 = .ok (.aload_n 0, 1) := by decide +kernel
theorem dX9_open_74 : decode cX9_open 74 = .ok (.getfield 75, 3) := by decide +kernel
theorem dX9_open_77 : decode cX9_open 77 = .ok (.iload 4, 2) := by decide +kernel
theorem dX9_open_79 : decode cX9_open 79 = .ok (.iload_n 3, 1) := by decide +kernel
theorem dX9_open_80 : decode cX9_open 80 = .ok (.invokevirtual 169, 3) := by decide +kernel
theorem dX9_open_83 : decode cX9_open 83 = .ok (.ifCond .eq 9, 3) := by decide +kernel
theorem dX9_open_86 : decode cX9_open 86 = .ok (.iload_n 2, 1) := by decide +kernel
theorem dX9_open_87 : decode cX9_open 87 = .ok (.iconst 1, 1) := by decide +kernel
theorem dX9_open_88 : decode cX9_open 88 = .ok (.iload_n 3, 1) := by decide +kernel
theorem dX9_open_89 : decode cX9_open 89 = .ok (.ishl, 1) := by decide +kernel
theorem dX9_open_90 : decode cX9_open 90 = .ok (.ior, 1) := by decide +kernel
theorem dX9_open_91 : decode cX9_open 91 = .ok (.istore_n 2, 1) := by decide +kernel
theorem dX9_open_92 : decode cX9_open 92 = .ok (.iinc 4 1, 3) := by decide +kernel
theorem dX9_open_95 : decode cX9_open 95 = .ok (.goto (-52), 3) := by decide +kernel
theorem dX9_open_98 : decode cX9_open 98 = .ok (.iinc 3 1, 3) := by decide +kernel
theorem dX9_open_101 : decode cX9_open 101 = .ok (.goto (-72), 3) := by decide +kernel
theorem dX9_open_104 : decode cX9_open 104 = .ok (.iload_n 2, 1) := by decide +kernel
theorem dX9_open_105 : decode cX9_open 105 = .ok (.ireturn, 1) := by decide +kernel
theorem dX9_best_0 : decode cX9_best 0 = .ok (.aload_n 0, 1) := by decide +kernel
theorem dX9_best_1 : decode cX9_best 1 = .ok (.getfield 75, 3) := by decide +kernel
theorem dX9_best_4 : decode cX9_best 4 = .ok (.iload_n 1, 1) := by decide +kernel
theorem dX9_best_5 : decode cX9_best 5 = .ok (.invokevirtual 147, 3) := by decide +kernel
theorem dX9_best_8 : decode cX9_best 8 = .ok (.ifCond .ne 6, 3) := by decide +kernel
theorem dX9_best_11 : decode cX9_best 11 = .ok (.bipush (-2), 2) := by decide +kernel
theorem dX9_best_13 : decode cX9_best 13 = .ok (.ireturn, 1) := by decide +kernel
theorem dX9_best_14 : decode cX9_best 14 = .ok (.aload_n 0, 1) := by decide +kernel
theorem dX9_best_15 : decode cX9_best 15 = .ok (.getfield 26, 3) := by decide +kernel
theorem dX9_best_18 : decode cX9_best 18 = .ok (.aload_n 0, 1) := by decide +kernel
theorem dX9_best_19 : decode cX9_best 19 = .ok (.getfield 75, 3) := by decide +kernel
theorem dX9_best_22 : decode cX9_best 22 = .ok (.invokevirtual 153, 3) := by decide +kernel
theorem dX9_best_25 : decode cX9_best 25 = .ok (.iconst (-1), 1) := by decide +kernel
theorem dX9_best_26 : decode cX9_best 26 = .ok (.istore_n 2, 1) := by decide +kernel
theorem dX9_best_27 : decode cX9_best 27 = .ok (.iconst (-1), 1) := by decide +kernel
theorem dX9_best_28 : decode cX9_best 28 = .ok (.istore_n 3, 1) := by decide +kernel
theorem dX9_best_29 : decode cX9_best 29 = .ok (.iconst 0, 1) := by decide +kernel
theorem dX9_best_30 : decode cX9_best 30 = .ok (.istore 4, 2) := by decide +kernel
theorem dX9_best_32 : decode cX9_best 32 = .ok (.iload 4, 2) := by decide +kernel
theorem dX9_best_34 : decode cX9_best 34 = .ok (.aload_n 0, 1) := by decide +kernel
theorem dX9_best_35 : decode cX9_best 35 = .ok (.getfield 75, 3) := by decide +kernel
theorem dX9_best_38 : decode cX9_best 38 = .ok (.getfield 166, 3) := by decide +kernel
theorem dX9_best_41 : decode cX9_best 41 = .ok (.if_icmp .ge 54, 3) := by decide +kernel
theorem dX9_best_44 : decode cX9_best 44 = .ok (.aload_n 0, 1) := by decide +kernel
theorem dX9_best_45 : decode cX9_best 45 = .ok (.getfield 75, 3) := by decide +kernel
theorem dX9_best_48 : decode cX9_best 48 = .ok (.getfield 124, 3) := by decide +kernel
theorem dX9_best_51 : decode cX9_best 51 = .ok (.iload 4, 2) := by decide +kernel
theorem dX9_best_53 : decode cX9_best 53 = .ok (.iaload, 1) := by decide +kernel
theorem dX9_best_54 : decode cX9_best 54 = .ok (.iload_n 3, 1) := by decide +kernel
theorem dX9_best_55 : decode cX9_best 55 = .ok (.if_icmp .le 34, 3) := by decide +kernel
theorem dX9_best_58 : decode cX9_best 58 = .ok (.aload_n 0, 1) := by decide +kernel
theorem dX9_best_59 : decode cX9_best 59 = .ok (.getfield 26, 3) := by decide +kernel
theorem dX9_best_62 : decode cX9_best 62 = .ok (.aload_n 0, 1) := by decide +kernel
theorem dX9_best_63 : decode cX9_best 63 = .ok (.getfield 75, 3) := by decide +kernel
theorem dX9_best_66 : decode cX9_best 66 = .ok (.iload 4, 2) := by decide +kernel
theorem dX9_best_68 : decode cX9_best 68 = .ok (.iload_n 1, 1) := by decide +kernel
theorem dX9_best_69 : decode cX9_best 69 = .ok (.invokevirtual 169, 3) := by decide +kernel
theorem dX9_best_72 : decode cX9_best 72 = .ok (.ifCond .eq 17, 3) := by decide +kernel
theorem dX9_best_75 : decode cX9_best 75 = .ok (.aload_n 0, 1) := by decide +kernel
theorem dX9_best_76 : decode cX9_best 76 = .ok (.getfield 75, 3) := by decide +kernel
theorem dX9_best_79 : decode cX9_best 79 = .ok (.getfield 124, 3) := by decide +kernel
theorem dX9_best_82 : decode cX9_best 82 = .ok (.iload 4, 2) := by decide +kernel
theorem dX9_best_84 : decode cX9_best 84 = .ok (.iaload, 1) := by decide +kernel
theorem dX9_best_85 : decode cX9_best 85 = .ok (.istore_n 3, 1) := by decide +kernel
theorem dX9_best_86 : decode cX9_best 86 = .ok (.iload 4, 2) := by decide +kernel
theorem dX9_best_88 : decode cX9_best 88 = .ok (.istore_n 2, 1) := by decide +kernel
theorem dX9_best_89 : decode cX9_best 89 = .ok (.iinc 4 1, 3) := by decide +kernel
theorem dX9_best_92 : decode cX9_best 92 = .ok (.goto (-60), 3) := by decide +kernel
theorem dX9_best_95 : decode cX9_best 95 = .ok (.iload_n 2, 1) := by decide +kernel
theorem dX9_best_96 : decode cX9_best 96 = .ok (.ireturn, 1) := by decide +kernel
theorem dX9_asked_0 : decode cX9_asked 0 = .ok (.aload_n 0, 1) := by decide +kernel
theorem dX9_asked_1 : decode cX9_asked 1 = .ok (.getfield 75, 3) := by decide +kernel
theorem dX9_asked_4 : decode cX9_asked 4 = .ok (.invokevirtual 130, 3) := by decide +kernel
theorem dX9_asked_7 : decode cX9_asked 7 = .ok (.ifCond .eq 13, 3) := by decide +kernel
theorem dX9_asked_10 : decode cX9_asked 10 = .ok (.aload_n 0, 1) := by decide +kernel
theorem dX9_asked_11 : decode cX9_asked 11 = .ok (.getfield 75, 3) := by decide +kernel
theorem dX9_asked_14 : decode cX9_asked 14 = .ok (.invokevirtual 173, 3) := by decide +kernel
theorem dX9_asked_17 : decode cX9_asked 17 = .ok (.goto 5, 3) := by decide +kernel
theorem dX9_asked_20 : decode cX9_asked 20 = .ok (.bipush (-2), 2) := by decide +kernel
theorem dX9_asked_22 : decode cX9_asked 22 = .ok (.ireturn, 1) := by decide +kernel
theorem dX9_fattened_0 : decode cX9_fattened 0 = .ok (.aload_n 0, 1) := by decide +kernel
theorem dX9_fattened_1 : decode cX9_fattened 1 = .ok (.getfield 75, 3) := by decide +kernel
theorem dX9_fattened_4 : decode cX9_fattened 4 = .ok (.invokevirtual 130, 3) := by decide +kernel
theorem dX9_fattened_7 : decode cX9_fattened 7 = .ok (.ifCond .eq 13, 3) := by decide +kernel
theorem dX9_fattened_10 : decode cX9_fattened 10 = .ok (.aload_n 0, 1) := by decide +kernel
theorem dX9_fattened_11 : decode cX9_fattened 11 = .ok (.getfield 75, 3) := by decide +kernel
theorem dX9_fattened_14 : decode cX9_fattened 14 = .ok (.invokevirtual 177, 3) := by decide +kernel
theorem dX9_fattened_17 : decode cX9_fattened 17 = .ok (.goto 5, 3) := by decide +kernel
theorem dX9_fattened_20 : decode cX9_fattened 20 = .ok (.bipush (-2), 2) := by decide +kernel
theorem dX9_fattened_22 : decode cX9_fattened 22 = .ok (.ireturn, 1) := by decide +kernel
theorem dX9_fast_0 : decode cX9_fast 0 = .ok (.aload_n 0, 1) := by decide +kernel
theorem dX9_fast_1 : decode cX9_fast 1 = .ok (.getfield 75, 3) := by decide +kernel
theorem dX9_fast_4 : decode cX9_fast 4 = .ok (.invokevirtual 130, 3) := by decide +kernel
theorem dX9_fast_7 : decode cX9_fast 7 = .ok (.ifCond .ne 6, 3) := by decide +kernel
theorem dX9_fast_10 : decode cX9_fast 10 = .ok (.bipush (-2), 2) := by decide +kernel
theorem dX9_fast_12 : decode cX9_fast 12 = .ok (.ireturn, 1) := by decide +kernel
theorem dX9_fast_13 : decode cX9_fast 13 = .ok (.aload_n 0, 1) := by decide +kernel
theorem dX9_fast_14 : decode cX9_fast 14 = .ok (.getfield 75, 3) := by decide +kernel
theorem dX9_fast_17 : decode cX9_fast 17 = .ok (.invokevirtual 180, 3) := by decide +kernel
theorem dX9_fast_20 : decode cX9_fast 20 = .ok (.aload_n 0, 1) := by decide +kernel
theorem dX9_fast_21 : decode cX9_fast 21 = .ok (.getfield 75, 3) := by decide +kernel
theorem dX9_fast_24 : decode cX9_fast 24 = .ok (.invokevirtual 173, 3) := by decide +kernel
theorem dX9_fast_27 : decode cX9_fast 27 = .ok (.iconst (-1), 1) := by decide +kernel
theorem dX9_fast_28 : decode cX9_fast 28 = .ok (.ixor, 1) := by decide +kernel
theorem dX9_fast_29 : decode cX9_fast 29 = .ok (.iand, 1) := by decide +kernel
theorem dX9_fast_30 : decode cX9_fast 30 = .ok (.aload_n 0, 1) := by decide +kernel
theorem dX9_fast_31 : decode cX9_fast 31 = .ok (.getfield 75, 3) := by decide +kernel
theorem dX9_fast_34 : decode cX9_fast 34 = .ok (.invokevirtual 177, 3) := by decide +kernel
theorem dX9_fast_37 : decode cX9_fast 37 = .ok (.iconst (-1), 1) := by decide +kernel
theorem dX9_fast_38 : decode cX9_fast 38 = .ok (.ixor, 1) := by decide +kernel
theorem dX9_fast_39 : decode cX9_fast 39 = .ok (.iand, 1) := by decide +kernel
theorem dX9_fast_40 : decode cX9_fast 40 = .ok (.invokestatic 183, 3) := by decide +kernel
theorem dX9_fast_43 : decode cX9_fast 43 = .ok (.ireturn, 1) := by decide +kernel
theorem dX9_first_0 : decode cX9_first 0 = .ok (.aload_n 0, 1) := by decide +kernel
theorem dX9_first_1 : decode cX9_first 1 = .ok (.getfield 75, 3) := by decide +kernel
theorem dX9_first_4 : decode cX9_first 4 = .ok (.iload_n 1, 1) := by decide +kernel
theorem dX9_first_5 : decode cX9_first 5 = .ok (.invokevirtual 147, 3) := by decide +kernel
theorem dX9_first_8 : decode cX9_first 8 = .ok (.ifCond .ne 6, 3) := by decide +kernel
theorem dX9_first_11 : decode cX9_first 11 = .ok (.bipush (-2), 2) := by decide +kernel
theorem dX9_first_13 : decode cX9_first 13 = .ok (.ireturn, 1) := by decide +kernel
theorem dX9_first_14 : decode cX9_first 14 = .ok (.aload_n 0, 1) := by decide +kernel
theorem dX9_first_15 : decode cX9_first 15 = .ok (.getfield 26, 3) := by decide +kernel
theorem dX9_first_18 : decode cX9_first 18 = .ok (.aload_n 0, 1) := by decide +kernel
theorem dX9_first_19 : decode cX9_first 19 = .ok (.getfield 75, 3) := by decide +kernel
theorem dX9_first_22 : decode cX9_first 22 = .ok (.invokevirtual 153, 3) := by decide +kernel
theorem dX9_first_25 : decode cX9_first 25 = .ok (.aload_n 0, 1) := by decide +kernel
theorem dX9_first_26 : decode cX9_first 26 = .ok (.getfield 26, 3) := by decide +kernel
theorem dX9_first_29 : decode cX9_first 29 = .ok (.iload_n 1, 1) := by decide +kernel
theorem dX9_first_30 : decode cX9_first 30 = .ok (.invokevirtual 186, 3) := by decide +kernel
theorem dX9_first_33 : decode cX9_first 33 = .ok (.istore_n 2, 1) := by decide +kernel
theorem dX9_first_34 : decode cX9_first 34 = .ok (.iload_n 2, 1) := by decide +kernel
theorem dX9_first_35 : decode cX9_first 35 = .ok (.iconst (-1), 1) := by decide +kernel
theorem dX9_first_36 : decode cX9_first 36 = .ok (.if_icmp .ne 17, 3) := by decide +kernel
theorem dX9_first_39 : decode cX9_first 39 = .ok (.iconst 0, 1) := by decide +kernel
theorem dX9_first_40 : decode cX9_first 40 = .ok (.aload_n 0, 1) := by decide +kernel
theorem dX9_first_41 : decode cX9_first 41 = .ok (.getfield 75, 3) := by decide +kernel
theorem dX9_first_44 : decode cX9_first 44 = .ok (.getfield 163, 3) := by decide +kernel
theorem dX9_first_47 : decode cX9_first 47 = .ok (.iload_n 1, 1) := by decide +kernel
theorem dX9_first_48 : decode cX9_first 48 = .ok (.isub, 1) := by decide +kernel
theorem dX9_first_49 : decode cX9_first 49 = .ok (.invokestatic 189, 3) := by decide +kernel
theorem dX9_first_52 : decode cX9_first 52 = .ok (.ireturn, 1) := by decide +kernel
theorem dX9_first_53 : decode cX9_first 53 = .ok (.iload_n 1, 1) := by decide +kernel
theorem dX9_first_54 : decode cX9_first 54 = .ok (.iload_n 2, 1) := by decide +kernel
theorem dX9_first_55 : decode cX9_first 55 = .ok (.isub, 1) := by decide +kernel
theorem dX9_first_56 : decode cX9_first 56 = .ok (.aload_n 0, 1) := by decide +kernel
theorem dX9_first_57 : decode cX9_first 57 = .ok (.getfield 75, 3) := by decide +kernel
theorem dX9_first_60 : decode cX9_first 60 = .ok (.getfield 163, 3) := by decide +kernel
theorem dX9_first_63 : decode cX9_first 63 = .ok (.if_icmp .lt 7, 3) := by decide +kernel
theorem dX9_first_66 : decode cX9_first 66 = .ok (.iconst 0, 1) := by decide +kernel
theorem dX9_first_67 : decode cX9_first 67 = .ok (.goto 4, 3) := by decide +kernel
theorem dX9_first_70 : decode cX9_first 70 = .ok (.iconst (-1), 1) := by decide +kernel
theorem dX9_first_71 : decode cX9_first 71 = .ok (.ireturn, 1) := by decide +kernel
theorem dX9_passed_0 : decode cX9_passed 0 = .ok (.aload_n 0, 1) := by decide +kernel
theorem dX9_passed_1 : decode cX9_passed 1 = .ok (.getfield 75, 3) := by decide +kernel
theorem dX9_passed_4 : decode cX9_passed 4 = .ok (.iload_n 1, 1) := by decide +kernel
theorem dX9_passed_5 : decode cX9_passed 5 = .ok (.invokevirtual 147, 3) := by decide +kernel
theorem dX9_passed_8 : decode cX9_passed 8 = .ok (.ifCond .ne 6, 3) := by decide +kernel
theorem dX9_passed_11 : decode cX9_passed 11 = .ok (.bipush (-2), 2) := by decide +kernel
theorem dX9_passed_13 : decode cX9_passed 13 = .ok (.ireturn, 1) := by decide +kernel
theorem dX9_passed_14 : decode cX9_passed 14 = .ok (.aload_n 0, 1) := by decide +kernel
theorem dX9_passed_15 : decode cX9_passed 15 = .ok (.getfield 26, 3) := by decide +kernel
theorem dX9_passed_18 : decode cX9_passed 18 = .ok (.aload_n 0, 1) := by decide +kernel
theorem dX9_passed_19 : decode cX9_passed 19 = .ok (.getfield 75, 3) := by decide +kernel
theorem dX9_passed_22 : decode cX9_passed 22 = .ok (.invokevirtual 153, 3) := by decide +kernel
theorem dX9_passed_25 : decode cX9_passed 25 = .ok (.aload_n 0, 1) := by decide +kernel
theorem dX9_passed_26 : decode cX9_passed 26 = .ok (.getfield 26, 3) := by decide +kernel
theorem dX9_passed_29 : decode cX9_passed 29 = .ok (.aload_n 0, 1) := by decide +kernel
theorem dX9_passed_30 : decode cX9_passed 30 = .ok (.getfield 75, 3) := by decide +kernel
theorem dX9_passed_33 : decode cX9_passed 33 = .ok (.iload_n 1, 1) := by decide +kernel
theorem dX9_passed_34 : decode cX9_passed 34 = .ok (.invokevirtual 195, 3) := by decide +kernel
theorem dX9_passed_37 : decode cX9_passed 37 = .ok (.ireturn, 1) := by decide +kernel
theorem dX9_when_0 : decode cX9_when 0 = .ok (.aload_n 0, 1) := by decide +kernel
theorem dX9_when_1 : decode cX9_when 1 = .ok (.getfield 75, 3) := by decide +kernel
theorem dX9_when_4 : decode cX9_when 4 = .ok (.iload_n 1, 1) := by decide +kernel
theorem dX9_when_5 : decode cX9_when 5 = .ok (.invokevirtual 118, 3) := by decide +kernel
theorem dX9_when_8 : decode cX9_when 8 = .ok (.ifCond .ne 6, 3) := by decide +kernel
theorem dX9_when_11 : decode cX9_when 11 = .ok (.bipush (-2), 2) := by decide +kernel
theorem dX9_when_13 : decode cX9_when 13 = .ok (.ireturn, 1) := by decide +kernel
theorem dX9_when_14 : decode cX9_when 14 = .ok (.aload_n 0, 1) := by decide +kernel
theorem dX9_when_15 : decode cX9_when 15 = .ok (.getfield 26, 3) := by decide +kernel
theorem dX9_when_18 : decode cX9_when 18 = .ok (.aload_n 0, 1) := by decide +kernel
theorem dX9_when_19 : decode cX9_when 19 = .ok (.getfield 75, 3) := by decide +kernel
theorem dX9_when_22 : decode cX9_when 22 = .ok (.invokevirtual 153, 3) := by decide +kernel
theorem dX9_when_25 : decode cX9_when 25 = .ok (.aload_n 0, 1) := by decide +kernel
theorem dX9_when_26 : decode cX9_when 26 = .ok (.getfield 26, 3) := by decide +kernel
theorem dX9_when_29 : decode cX9_when 29 = .ok (.getfield 199, 3) := by decide +kernel
theorem dX9_when_32 : decode cX9_when 32 = .ok (.iload_n 1, 1) := by decide +kernel
theorem dX9_when_33 : decode cX9_when 33 = .ok (.iaload, 1) := by decide +kernel
theorem dX9_when_34 : decode cX9_when 34 = .ok (.ireturn, 1) := by decide +kernel
theorem dX9_why_0 : decode cX9_why 0 = .ok (.aload_n 0, 1) := by decide +kernel
theorem dX9_why_1 : decode cX9_why 1 = .ok (.getfield 75, 3) := by decide +kernel
theorem dX9_why_4 : decode cX9_why 4 = .ok (.iload_n 1, 1) := by decide +kernel
theorem dX9_why_5 : decode cX9_why 5 = .ok (.invokevirtual 118, 3) := by decide +kernel
theorem dX9_why_8 : decode cX9_why 8 = .ok (.ifCond .ne 6, 3) := by decide +kernel
theorem dX9_why_11 : decode cX9_why 11 = .ok (.bipush (-2), 2) := by decide +kernel
theorem dX9_why_13 : decode cX9_why 13 = .ok (.ireturn, 1) := by decide +kernel
theorem dX9_why_14 : decode cX9_why 14 = .ok (.aload_n 0, 1) := by decide +kernel
theorem dX9_why_15 : decode cX9_why 15 = .ok (.getfield 26, 3) := by decide +kernel
theorem dX9_why_18 : decode cX9_why 18 = .ok (.aload_n 0, 1) := by decide +kernel
theorem dX9_why_19 : decode cX9_why 19 = .ok (.getfield 75, 3) := by decide +kernel
theorem dX9_why_22 : decode cX9_why 22 = .ok (.invokevirtual 153, 3) := by decide +kernel
theorem dX9_why_25 : decode cX9_why 25 = .ok (.aload_n 0, 1) := by decide +kernel
theorem dX9_why_26 : decode cX9_why 26 = .ok (.getfield 26, 3) := by decide +kernel
theorem dX9_why_29 : decode cX9_why 29 = .ok (.getfield 202, 3) := by decide +kernel
theorem dX9_why_32 : decode cX9_why 32 = .ok (.iload_n 1, 1) := by decide +kernel
theorem dX9_why_33 : decode cX9_why 33 = .ok (.iaload, 1) := by decide +kernel
theorem dX9_why_34 : decode cX9_why 34 = .ok (.ireturn, 1) := by decide +kernel
theorem dX9_worth_0 : decode cX9_worth 0 = .ok (.aload_n 0, 1) := by decide +kernel
theorem dX9_worth_1 : decode cX9_worth 1 = .ok (.getfield 75, 3) := by decide +kernel
theorem dX9_worth_4 : decode cX9_worth 4 = .ok (.iload_n 1, 1) := by decide +kernel
theorem dX9_worth_5 : decode cX9_worth 5 = .ok (.invokevirtual 137, 3) := by decide +kernel
theorem dX9_worth_8 : decode cX9_worth 8 = .ok (.ifCond .ne 6, 3) := by decide +kernel
theorem dX9_worth_11 : decode cX9_worth 11 = .ok (.bipush (-2), 2) := by decide +kernel
theorem dX9_worth_13 : decode cX9_worth 13 = .ok (.ireturn, 1) := by decide +kernel
theorem dX9_worth_14 : decode cX9_worth 14 = .ok (.aload_n 0, 1) := by decide +kernel
theorem dX9_worth_15 : decode cX9_worth 15 = .ok (.getfield 26, 3) := by decide +kernel
theorem dX9_worth_18 : decode cX9_worth 18 = .ok (.aload_n 0, 1) := by decide +kernel
theorem dX9_worth_19 : decode cX9_worth 19 = .ok (.getfield 75, 3) := by decide +kernel
theorem dX9_worth_22 : decode cX9_worth 22 = .ok (.invokevirtual 153, 3) := by decide +kernel
theorem dX9_worth_25 : decode cX9_worth 25 = .ok (.aload_n 0, 1) := by decide +kernel
theorem dX9_worth_26 : decode cX9_worth 26 = .ok (.getfield 75, 3) := by decide +kernel
theorem dX9_worth_29 : decode cX9_worth 29 = .ok (.aload_n 0, 1) := by decide +kernel
theorem dX9_worth_30 : decode cX9_worth 30 = .ok (.getfield 26, 3) := by decide +kernel
theorem dX9_worth_33 : decode cX9_worth 33 = .ok (.aload_n 0, 1) := by decide +kernel
theorem dX9_worth_34 : decode cX9_worth 34 = .ok (.getfield 75, 3) := by decide +kernel
theorem dX9_worth_37 : decode cX9_worth 37 = .ok (.invokevirtual 205, 3) := by decide +kernel
theorem dX9_worth_40 : decode cX9_worth 40 = .ok (.aload_n 0, 1) := by decide +kernel
theorem dX9_worth_41 : decode cX9_worth 41 = .ok (.getfield 75, 3) := by decide +kernel
theorem dX9_worth_44 : decode cX9_worth 44 = .ok (.iload_n 1, 1) := by decide +kernel
theorem dX9_worth_45 : decode cX9_worth 45 = .ok (.invokevirtual 209, 3) := by decide +kernel
theorem dX9_worth_48 : decode cX9_worth 48 = .ok (.iand, 1) := by decide +kernel
theorem dX9_worth_49 : decode cX9_worth 49 = .ok (.invokevirtual 212, 3) := by decide +kernel
theorem dX9_worth_52 : decode cX9_worth 52 = .ok (.ireturn, 1) := by decide +kernel
theorem dX9_plan_0 : decode cX9_plan 0 = .ok (.aload_n 0, 1) := by decide +kernel
theorem dX9_plan_1 : decode cX9_plan 1 = .ok (.getfield 75, 3) := by decide +kernel
theorem dX9_plan_4 : decode cX9_plan 4 = .ok (.iload_n 1, 1) := by decide +kernel
theorem dX9_plan_5 : decode cX9_plan 5 = .ok (.invokevirtual 137, 3) := by decide +kernel
theorem dX9_plan_8 : decode cX9_plan 8 = .ok (.ifCond .eq 11, 3) := by decide +kernel
theorem dX9_plan_11 : decode cX9_plan 11 = .ok (.aload_n 0, 1) := by decide +kernel
theorem dX9_plan_12 : decode cX9_plan 12 = .ok (.iload_n 1, 1) := by decide +kernel
theorem dX9_plan_13 : decode cX9_plan 13 = .ok (.invokevirtual 215, 3) := by decide +kernel
theorem dX9_plan_16 : decode cX9_plan 16 = .ok (.goto 5, 3) := by decide +kernel
theorem dX9_plan_19 : decode cX9_plan 19 = .ok (.bipush (-2), 2) := by decide +kernel
theorem dX9_plan_21 : decode cX9_plan 21 = .ok (.ireturn, 1) := by decide +kernel
theorem dX9_planned_0 : decode cX9_planned 0 = .ok (.aload_n 0, 1) := by decide +kernel
theorem dX9_planned_1 : decode cX9_planned 1 = .ok (.getfield 75, 3) := by decide +kernel
theorem dX9_planned_4 : decode cX9_planned 4 = .ok (.iload_n 1, 1) := by decide +kernel
theorem dX9_planned_5 : decode cX9_planned 5 = .ok (.invokevirtual 137, 3) := by decide +kernel
theorem dX9_planned_8 : decode cX9_planned 8 = .ok (.ifCond .eq 14, 3) := by decide +kernel
theorem dX9_planned_11 : decode cX9_planned 11 = .ok (.aload_n 0, 1) := by decide +kernel
theorem dX9_planned_12 : decode cX9_planned 12 = .ok (.getfield 75, 3) := by decide +kernel
theorem dX9_planned_15 : decode cX9_planned 15 = .ok (.iload_n 2, 1) := by decide +kernel
theorem dX9_planned_16 : decode cX9_planned 16 = .ok (.invokevirtual 147, 3) := by decide +kernel
theorem dX9_planned_19 : decode cX9_planned 19 = .ok (.ifCond .ne 6, 3) := by decide +kernel
theorem dX9_planned_22 : decode cX9_planned 22 = .ok (.bipush (-2), 2) := by decide +kernel
theorem dX9_planned_24 : decode cX9_planned 24 = .ok (.ireturn, 1) := by decide +kernel
theorem dX9_planned_25 : decode cX9_planned 25 = .ok (.aload_n 0, 1) := by decide +kernel
theorem dX9_planned_26 : decode cX9_planned 26 = .ok (.iload_n 1, 1) := by decide +kernel
theorem dX9_planned_27 : decode cX9_planned 27 = .ok (.invokevirtual 215, 3) := by decide +kernel
theorem dX9_planned_30 : decode cX9_planned 30 = .ok (.pop, 1) := by decide +kernel
theorem dX9_planned_31 : decode cX9_planned 31 = .ok (.aload_n 0, 1) := by decide +kernel
theorem dX9_planned_32 : decode cX9_planned 32 = .ok (.getfield 33, 3) := by decide +kernel
theorem dX9_planned_35 : decode cX9_planned 35 = .ok (.iload_n 2, 1) := by decide +kernel
theorem dX9_planned_36 : decode cX9_planned 36 = .ok (.invokevirtual 218, 3) := by decide +kernel
theorem dX9_planned_39 : decode cX9_planned 39 = .ok (.ireturn, 1) := by decide +kernel
theorem dX9_ways_0 : decode cX9_ways 0 = .ok (.aload_n 0, 1) := by decide +kernel
theorem dX9_ways_1 : decode cX9_ways 1 = .ok (.getfield 75, 3) := by decide +kernel
theorem dX9_ways_4 : decode cX9_ways 4 = .ok (.iload_n 1, 1) := by decide +kernel
theorem dX9_ways_5 : decode cX9_ways 5 = .ok (.invokevirtual 137, 3) := by decide +kernel
theorem dX9_ways_8 : decode cX9_ways 8 = .ok (.ifCond .ne 6, 3) := by decide +kernel
theorem dX9_ways_11 : decode cX9_ways 11 = .ok (.bipush (-2), 2) := by decide +kernel
theorem dX9_ways_13 : decode cX9_ways 13 = .ok (.ireturn, 1) := by decide +kernel
theorem dX9_ways_14 : decode cX9_ways 14 = .ok (.aload_n 0, 1) := by decide +kernel
theorem dX9_ways_15 : decode cX9_ways 15 = .ok (.iload_n 1, 1) := by decide +kernel
theorem dX9_ways_16 : decode cX9_ways 16 = .ok (.invokevirtual 215, 3) := by decide +kernel
theorem dX9_ways_19 : decode cX9_ways 19 = .ok (.pop, 1) := by decide +kernel
theorem dX9_ways_20 : decode cX9_ways 20 = .ok (.aload_n 0, 1) := by decide +kernel
theorem dX9_ways_21 : decode cX9_ways 21 = .ok (.getfield 33, 3) := by decide +kernel
theorem dX9_ways_24 : decode cX9_ways 24 = .ok (.invokevirtual 221, 3) := by decide +kernel
theorem dX9_ways_27 : decode cX9_ways 27 = .ok (.ireturn, 1) := by decide +kernel
theorem dX9_many_0 : decode cX9_many 0 = .ok (.aload_n 0, 1) := by decide +kernel
theorem dX9_many_1 : decode cX9_many 1 = .ok (.getfield 75, 3) := by decide +kernel
theorem dX9_many_4 : decode cX9_many 4 = .ok (.iload_n 1, 1) := by decide +kernel
theorem dX9_many_5 : decode cX9_many 5 = .ok (.invokevirtual 137, 3) := by decide +kernel
theorem dX9_many_8 : decode cX9_many 8 = .ok (.ifCond .ne 6, 3) := by decide +kernel
theorem dX9_many_11 : decode cX9_many 11 = .ok (.bipush (-2), 2) := by decide +kernel
theorem dX9_many_13 : decode cX9_many 13 = .ok (.ireturn, 1) := by decide +kernel
theorem dX9_many_14 : decode cX9_many 14 = .ok (.aload_n 0, 1) := by decide +kernel
theorem dX9_many_15 : decode cX9_many 15 = .ok (.getfield 33, 3) := by decide +kernel
theorem dX9_many_18 : decode cX9_many 18 = .ok (.aload_n 0, 1) := by decide +kernel
theorem dX9_many_19 : decode cX9_many 19 = .ok (.getfield 75, 3) := by decide +kernel
theorem dX9_many_22 : decode cX9_many 22 = .ok (.invokevirtual 224, 3) := by decide +kernel
theorem dX9_many_25 : decode cX9_many 25 = .ok (.aload_n 0, 1) := by decide +kernel
theorem dX9_many_26 : decode cX9_many 26 = .ok (.getfield 33, 3) := by decide +kernel
theorem dX9_many_29 : decode cX9_many 29 = .ok (.aload_n 0, 1) := by decide +kernel
theorem dX9_many_30 : decode cX9_many 30 = .ok (.getfield 75, 3) := by decide +kernel
theorem dX9_many_33 : decode cX9_many 33 = .ok (.aload_n 0, 1) := by decide +kernel
theorem dX9_many_34 : decode cX9_many 34 = .ok (.getfield 75, 3) := by decide +kernel
theorem dX9_many_37 : decode cX9_many 37 = .ok (.iload_n 1, 1) := by decide +kernel
theorem dX9_many_38 : decode cX9_many 38 = .ok (.invokevirtual 209, 3) := by decide +kernel
theorem dX9_many_41 : decode cX9_many 41 = .ok (.aload_n 0, 1) := by decide +kernel
theorem dX9_many_42 : decode cX9_many 42 = .ok (.getfield 75, 3) := by decide +kernel
theorem dX9_many_45 : decode cX9_many 45 = .ok (.getfield 134, 3) := by decide +kernel
theorem dX9_many_48 : decode cX9_many 48 = .ok (.sipush 255, 3) := by decide +kernel
theorem dX9_many_51 : decode cX9_many 51 = .ok (.iconst 0, 1) := by decide +kernel
theorem dX9_many_52 : decode cX9_many 52 = .ok (.invokevirtual 227, 3) := by decide +kernel
theorem dX9_many_55 : decode cX9_many 55 = .ok (.ireturn, 1) := by decide +kernel
theorem dX9_soonest_0 : decode cX9_soonest 0 = .ok (.aload_n 0, 1) := by decide +kernel
theorem dX9_soonest_1 : decode cX9_soonest 1 = .ok (.getfield 75, 3) := by decide +kernel
theorem dX9_soonest_4 : decode cX9_soonest 4 = .ok (.iload_n 1, 1) := by decide +kernel
theorem dX9_soonest_5 : decode cX9_soonest 5 = .ok (.invokevirtual 118, 3) := by decide +kernel
theorem dX9_soonest_8 : decode cX9_soonest 8 = .ok (.ifCond .ne 6, 3) := by decide +kernel
theorem dX9_soonest_11 : decode cX9_soonest 11 = .ok (.bipush (-2), 2) := by decide +kernel
theorem dX9_soonest_13 : decode cX9_soonest 13 = .ok (.ireturn, 1) := by decide +kernel
theorem dX9_soonest_14 : decode cX9_soonest 14 = .ok (.aload_n 0, 1) := by decide +kernel
theorem dX9_soonest_15 : decode cX9_soonest 15 = .ok (.getfield 40, 3) := by decide +kernel
theorem dX9_soonest_18 : decode cX9_soonest 18 = .ok (.aload_n 0, 1) := by decide +kernel
theorem dX9_soonest_19 : decode cX9_soonest 19 = .ok (.getfield 75, 3) := by decide +kernel
theorem dX9_soonest_22 : decode cX9_soonest 22 = .ok (.iload_n 1, 1) := by decide +kernel
theorem dX9_soonest_23 : decode cX9_soonest 23 = .ok (.invokevirtual 231, 3) := by decide +kernel
theorem dX9_soonest_26 : decode cX9_soonest 26 = .ok (.ireturn, 1) := by decide +kernel
theorem dX9_latest_0 : decode cX9_latest 0 = .ok (.aload_n 0, 1) := by decide +kernel
theorem dX9_latest_1 : decode cX9_latest 1 = .ok (.getfield 75, 3) := by decide +kernel
theorem dX9_latest_4 : decode cX9_latest 4 = .ok (.iload_n 1, 1) := by decide +kernel
theorem dX9_latest_5 : decode cX9_latest 5 = .ok (.invokevirtual 118, 3) := by decide +kernel
theorem dX9_latest_8 : decode cX9_latest 8 = .ok (.ifCond .ne 6, 3) := by decide +kernel
theorem dX9_latest_11 : decode cX9_latest 11 = .ok (.bipush (-2), 2) := by decide +kernel
theorem dX9_latest_13 : decode cX9_latest 13 = .ok (.ireturn, 1) := by decide +kernel
theorem dX9_latest_14 : decode cX9_latest 14 = .ok (.aload_n 0, 1) := by decide +kernel
theorem dX9_latest_15 : decode cX9_latest 15 = .ok (.getfield 40, 3) := by decide +kernel
theorem dX9_latest_18 : decode cX9_latest 18 = .ok (.aload_n 0, 1) := by decide +kernel
theorem dX9_latest_19 : decode cX9_latest 19 = .ok (.getfield 75, 3) := by decide +kernel
theorem dX9_latest_22 : decode cX9_latest 22 = .ok (.iload_n 1, 1) := by decide +kernel
theorem dX9_latest_23 : decode cX9_latest 23 = .ok (.invokevirtual 234, 3) := by decide +kernel
theorem dX9_latest_26 : decode cX9_latest 26 = .ok (.ireturn, 1) := by decide +kernel
theorem dX9_deepest_0 : decode cX9_deepest 0 = .ok (.aload_n 0, 1) := by decide +kernel
theorem dX9_deepest_1 : decode cX9_deepest 1 = .ok (.getfield 75, 3) := by decide +kernel
theorem dX9_deepest_4 : decode cX9_deepest 4 = .ok (.invokevirtual 130, 3) := by decide +kernel
theorem dX9_deepest_7 : decode cX9_deepest 7 = .ok (.ifCond .ne 6, 3) := by decide +kernel
theorem dX9_deepest_10 : decode cX9_deepest 10 = .ok (.bipush (-2), 2) := by decide +kernel
theorem dX9_deepest_12 : decode cX9_deepest 12 = .ok (.ireturn, 1) := by decide +kernel
theorem dX9_deepest_13 : decode cX9_deepest 13 = .ok (.iconst (-1), 1) := by decide +kernel
theorem dX9_deepest_14 : decode cX9_deepest 14 = .ok (.istore_n 1, 1) := by decide +kernel
theorem dX9_deepest_15 : decode cX9_deepest 15 = .ok (.iconst 0, 1) := by decide +kernel
theorem dX9_deepest_16 : decode cX9_deepest 16 = .ok (.istore_n 2, 1) := by decide +kernel
theorem dX9_deepest_17 : decode cX9_deepest 17 = .ok (.iconst 0, 1) := by decide +kernel
theorem dX9_deepest_18 : decode cX9_deepest 18 = .ok (.istore_n 3, 1) := by decide +kernel
theorem dX9_deepest_19 : decode cX9_deepest 19 = .ok (.iload_n 3, 1) := by decide +kernel
theorem dX9_deepest_20 : decode cX9_deepest 20 = .ok (.aload_n 0, 1) := by decide +kernel
theorem dX9_deepest_21 : decode cX9_deepest 21 = .ok (.getfield 75, 3) := by decide +kernel
theorem dX9_deepest_24 : decode cX9_deepest 24 = .ok (.getfield 166, 3) := by decide +kernel
theorem dX9_deepest_27 : decode cX9_deepest 27 = .ok (.if_icmp .ge 33, 3) := by decide +kernel
theorem dX9_deepest_30 : decode cX9_deepest 30 = .ok (.aload_n 0, 1) := by decide +kernel
theorem dX9_deepest_31 : decode cX9_deepest 31 = .ok (.getfield 75, 3) := by decide +kernel
theorem dX9_deepest_34 : decode cX9_deepest 34 = .ok (.iload_n 3, 1) := by decide +kernel
theorem dX9_deepest_35 : decode cX9_deepest 35 = .ok (.invokevirtual 237, 3) := by decide +kernel
theorem dX9_deepest_38 : decode cX9_deepest 38 = .ok (.invokestatic 240, 3) := by decide +kernel
theorem dX9_deepest_41 : decode cX9_deepest 41 = .ok (.istore 4, 2) := by decide +kernel
theorem dX9_deepest_43 : decode cX9_deepest 43 = .ok (.iload 4, 2) := by decide +kernel
theorem dX9_deepest_45 : decode cX9_deepest 45 = .ok (.iload_n 2, 1) := by decide +kernel
theorem dX9_deepest_46 : decode cX9_deepest 46 = .ok (.if_icmp .le 8, 3) := by decide +kernel
theorem dX9_deepest_49 : decode cX9_deepest 49 = .ok (.iload 4, 2) := by decide +kernel
theorem dX9_deepest_51 : decode cX9_deepest 51 = .ok (.istore_n 2, 1) := by decide +kernel
theorem dX9_deepest_52 : decode cX9_deepest 52 = .ok (.iload_n 3, 1) := by decide +kernel
theorem dX9_deepest_53 : decode cX9_deepest 53 = .ok (.istore_n 1, 1) := by decide +kernel
theorem dX9_deepest_54 : decode cX9_deepest 54 = .ok (.iinc 3 1, 3) := by decide +kernel
theorem dX9_deepest_57 : decode cX9_deepest 57 = .ok (.goto (-38), 3) := by decide +kernel
theorem dX9_deepest_60 : decode cX9_deepest 60 = .ok (.iload_n 1, 1) := by decide +kernel
theorem dX9_deepest_61 : decode cX9_deepest 61 = .ok (.ireturn, 1) := by decide +kernel
theorem dX9_without_0 : decode cX9_without 0 = .ok (.aload_n 0, 1) := by decide +kernel
theorem dX9_without_1 : decode cX9_without 1 = .ok (.getfield 75, 3) := by decide +kernel
theorem dX9_without_4 : decode cX9_without 4 = .ok (.iload_n 1, 1) := by decide +kernel
theorem dX9_without_5 : decode cX9_without 5 = .ok (.invokevirtual 118, 3) := by decide +kernel
theorem dX9_without_8 : decode cX9_without 8 = .ok (.ifCond .eq 11, 3) := by decide +kernel
theorem dX9_without_11 : decode cX9_without 11 = .ok (.aload_n 0, 1) := by decide +kernel
theorem dX9_without_12 : decode cX9_without 12 = .ok (.iload_n 1, 1) := by decide +kernel
theorem dX9_without_13 : decode cX9_without 13 = .ok (.invokevirtual 245, 3) := by decide +kernel
theorem dX9_without_16 : decode cX9_without 16 = .ok (.goto 5, 3) := by decide +kernel
theorem dX9_without_19 : decode cX9_without 19 = .ok (.bipush (-2), 2) := by decide +kernel
theorem dX9_without_21 : decode cX9_without 21 = .ok (.ireturn, 1) := by decide +kernel
theorem dX9_value_0 : decode cX9_value 0 = .ok (.aload_n 0, 1) := by decide +kernel
theorem dX9_value_1 : decode cX9_value 1 = .ok (.getfield 75, 3) := by decide +kernel
theorem dX9_value_4 : decode cX9_value 4 = .ok (.iload_n 1, 1) := by decide +kernel
theorem dX9_value_5 : decode cX9_value 5 = .ok (.invokevirtual 118, 3) := by decide +kernel
theorem dX9_value_8 : decode cX9_value 8 = .ok (.ifCond .ne 6, 3) := by decide +kernel
theorem dX9_value_11 : decode cX9_value 11 = .ok (.bipush (-2), 2) := by decide +kernel
theorem dX9_value_13 : decode cX9_value 13 = .ok (.ireturn, 1) := by decide +kernel
theorem dX9_value_14 : decode cX9_value 14 = .ok (.aload_n 0, 1) := by decide +kernel
theorem dX9_value_15 : decode cX9_value 15 = .ok (.aload_n 0, 1) := by decide +kernel
theorem dX9_value_16 : decode cX9_value 16 = .ok (.getfield 75, 3) := by decide +kernel
theorem dX9_value_19 : decode cX9_value 19 = .ok (.getfield 121, 3) := by decide +kernel
theorem dX9_value_22 : decode cX9_value 22 = .ok (.iload_n 1, 1) := by decide +kernel
theorem dX9_value_23 : decode cX9_value 23 = .ok (.iaload, 1) := by decide +kernel
theorem dX9_value_24 : decode cX9_value 24 = .ok (.invokevirtual 215, 3) := by decide +kernel
theorem dX9_value_27 : decode cX9_value 27 = .ok (.aload_n 0, 1) := by decide +kernel
theorem dX9_value_28 : decode cX9_value 28 = .ok (.iload_n 1, 1) := by decide +kernel
theorem dX9_value_29 : decode cX9_value 29 = .ok (.invokevirtual 245, 3) := by decide +kernel
theorem dX9_value_32 : decode cX9_value 32 = .ok (.isub, 1) := by decide +kernel
theorem dX9_value_33 : decode cX9_value 33 = .ok (.ireturn, 1) := by decide +kernel
theorem dX9_together_0 : decode cX9_together 0 = .ok (.aload_n 0, 1) := by decide +kernel
theorem dX9_together_1 : decode cX9_together 1 = .ok (.getfield 75, 3) := by decide +kernel
theorem dX9_together_4 : decode cX9_together 4 = .ok (.invokevirtual 130, 3) := by decide +kernel
theorem dX9_together_7 : decode cX9_together 7 = .ok (.ifCond .eq 28, 3) := by decide +kernel
theorem dX9_together_10 : decode cX9_together 10 = .ok (.aload_n 0, 1) := by decide +kernel
theorem dX9_together_11 : decode cX9_together 11 = .ok (.aload_n 0, 1) := by decide +kernel
theorem dX9_together_12 : decode cX9_together 12 = .ok (.getfield 75, 3) := by decide +kernel
theorem dX9_together_15 : decode cX9_together 15 = .ok (.invokevirtual 248, 3) := by decide +kernel
theorem dX9_together_18 : decode cX9_together 18 = .ok (.aload_n 0, 1) := by decide +kernel
theorem dX9_together_19 : decode cX9_together 19 = .ok (.getfield 75, 3) := by decide +kernel
theorem dX9_together_22 : decode cX9_together 22 = .ok (.getfield 134, 3) := by decide +kernel
theorem dX9_together_25 : decode cX9_together 25 = .ok (.sipush 255, 3) := by decide +kernel
theorem dX9_together_28 : decode cX9_together 28 = .ok (.iconst 0, 1) := by decide +kernel
theorem dX9_together_29 : decode cX9_together 29 = .ok (.invokevirtual 251, 3) := by decide +kernel
theorem dX9_together_32 : decode cX9_together 32 = .ok (.goto 5, 3) := by decide +kernel
theorem dX9_together_35 : decode cX9_together 35 = .ok (.bipush (-2), 2) := by decide +kernel
theorem dX9_together_37 : decode cX9_together 37 = .ok (.ireturn, 1) := by decide +kernel
theorem dX9_stop_0 : decode cX9_stop 0 = .ok (.aload_n 0, 1) := by decide +kernel
theorem dX9_stop_1 : decode cX9_stop 1 = .ok (.getfield 75, 3) := by decide +kernel
theorem dX9_stop_4 : decode cX9_stop 4 = .ok (.iload_n 1, 1) := by decide +kernel
theorem dX9_stop_5 : decode cX9_stop 5 = .ok (.invokevirtual 118, 3) := by decide +kernel
theorem dX9_stop_8 : decode cX9_stop 8 = .ok (.ifCond .eq 18, 3) := by decide +kernel
theorem dX9_stop_11 : decode cX9_stop 11 = .ok (.aload_n 0, 1) := by decide +kernel
theorem dX9_stop_12 : decode cX9_stop 12 = .ok (.getfield 40, 3) := by decide +kernel
theorem dX9_stop_15 : decode cX9_stop 15 = .ok (.aload_n 0, 1) := by decide +kernel
theorem dX9_stop_16 : decode cX9_stop 16 = .ok (.getfield 75, 3) := by decide +kernel
theorem dX9_stop_19 : decode cX9_stop 19 = .ok (.iload_n 1, 1) := by decide +kernel
theorem dX9_stop_20 : decode cX9_stop 20 = .ok (.invokevirtual 255, 3) := by decide +kernel
theorem dX9_stop_23 : decode cX9_stop 23 = .ok (.goto 5, 3) := by decide +kernel
theorem dX9_stop_26 : decode cX9_stop 26 = .ok (.bipush (-2), 2) := by decide +kernel
theorem dX9_stop_28 : decode cX9_stop 28 = .ok (.ireturn, 1) := by decide +kernel
theorem dX9_stops_0 : decode cX9_stops 0 = .ok (.aload_n 0, 1) := by decide +kernel
theorem dX9_stops_1 : decode cX9_stops 1 = .ok (.getfield 75, 3) := by decide +kernel
theorem dX9_stops_4 : decode cX9_stops 4 = .ok (.iload_n 1, 1) := by decide +kernel
theorem dX9_stops_5 : decode cX9_stops 5 = .ok (.invokevirtual 118, 3) := by decide +kernel
theorem dX9_stops_8 : decode cX9_stops 8 = .ok (.ifCond .eq 18, 3) := by decide +kernel
theorem dX9_stops_11 : decode cX9_stops 11 = .ok (.aload_n 0, 1) := by decide +kernel
theorem dX9_stops_12 : decode cX9_stops 12 = .ok (.getfield 40, 3) := by decide +kernel
theorem dX9_stops_15 : decode cX9_stops 15 = .ok (.aload_n 0, 1) := by decide +kernel
theorem dX9_stops_16 : decode cX9_stops 16 = .ok (.getfield 75, 3) := by decide +kernel
theorem dX9_stops_19 : decode cX9_stops 19 = .ok (.iload_n 1, 1) := by decide +kernel
theorem dX9_stops_20 : decode cX9_stops 20 = .ok (.invokevirtual 258, 3) := by decide +kernel
theorem dX9_stops_23 : decode cX9_stops 23 = .ok (.goto 5, 3) := by decide +kernel
theorem dX9_stops_26 : decode cX9_stops 26 = .ok (.bipush (-2), 2) := by decide +kernel
theorem dX9_stops_28 : decode cX9_stops 28 = .ok (.ireturn, 1) := by decide +kernel
theorem dX9_spoil_0 : decode cX9_spoil 0 = .ok (.aload_n 0, 1) := by decide +kernel
theorem dX9_spoil_1 : decode cX9_spoil 1 = .ok (.getfield 75, 3) := by decide +kernel
theorem dX9_spoil_4 : decode cX9_spoil 4 = .ok (.iload_n 1, 1) := by decide +kernel
theorem dX9_spoil_5 : decode cX9_spoil 5 = .ok (.invokevirtual 137, 3) := by decide +kernel
theorem dX9_spoil_8 : decode cX9_spoil 8 = .ok (.ifCond .eq 11, 3) := by decide +kernel
theorem dX9_spoil_11 : decode cX9_spoil 11 = .ok (.aload_n 0, 1) := by decide +kernel
theorem dX9_spoil_12 : decode cX9_spoil 12 = .ok (.iload_n 1, 1) := by decide +kernel
theorem dX9_spoil_13 : decode cX9_spoil 13 = .ok (.invokevirtual 261, 3) := by decide +kernel
theorem dX9_spoil_16 : decode cX9_spoil 16 = .ok (.goto 5, 3) := by decide +kernel
theorem dX9_spoil_19 : decode cX9_spoil 19 = .ok (.bipush (-2), 2) := by decide +kernel
theorem dX9_spoil_21 : decode cX9_spoil 21 = .ok (.ireturn, 1) := by decide +kernel
theorem dX9_spoilt_0 : decode cX9_spoilt 0 = .ok (.aload_n 0, 1) := by decide +kernel
theorem dX9_spoilt_1 : decode cX9_spoilt 1 = .ok (.getfield 75, 3) := by decide +kernel
theorem dX9_spoilt_4 : decode cX9_spoilt 4 = .ok (.iload_n 1, 1) := by decide +kernel
theorem dX9_spoilt_5 : decode cX9_spoilt 5 = .ok (.invokevirtual 137, 3) := by decide +kernel
theorem dX9_spoilt_8 : decode cX9_spoilt 8 = .ok (.ifCond .ne 6, 3) := by decide +kernel
theorem dX9_spoilt_11 : decode cX9_spoilt 11 = .ok (.bipush (-2), 2) := by decide +kernel
theorem dX9_spoilt_13 : decode cX9_spoilt 13 = .ok (.ireturn, 1) := by decide +kernel
theorem dX9_spoilt_14 : decode cX9_spoilt 14 = .ok (.aload_n 0, 1) := by decide +kernel
theorem dX9_spoilt_15 : decode cX9_spoilt 15 = .ok (.iload_n 1, 1) := by decide +kernel
theorem dX9_spoilt_16 : decode cX9_spoilt 16 = .ok (.invokevirtual 261, 3) := by decide +kernel
theorem dX9_spoilt_19 : decode cX9_spoilt 19 = .ok (.istore_n 2, 1) := by decide +kernel
theorem dX9_spoilt_20 : decode cX9_spoilt 20 = .ok (.aload_n 0, 1) := by decide +kernel
theorem dX9_spoilt_21 : decode cX9_spoilt 21 = .ok (.aload_n 0, 1) := by decide +kernel
theorem dX9_spoilt_22 : decode cX9_spoilt 22 = .ok (.getfield 75, 3) := by decide +kernel
theorem dX9_spoilt_25 : decode cX9_spoilt 25 = .ok (.iload_n 1, 1) := by decide +kernel
theorem dX9_spoilt_26 : decode cX9_spoilt 26 = .ok (.invokevirtual 209, 3) := by decide +kernel
theorem dX9_spoilt_29 : decode cX9_spoilt 29 = .ok (.aload_n 0, 1) := by decide +kernel
theorem dX9_spoilt_30 : decode cX9_spoilt 30 = .ok (.getfield 75, 3) := by decide +kernel
theorem dX9_spoilt_33 : decode cX9_spoilt 33 = .ok (.getfield 134, 3) := by decide +kernel
theorem dX9_spoilt_36 : decode cX9_spoilt 36 = .ok (.sipush 255, 3) := by decide +kernel
theorem dX9_spoilt_39 : decode cX9_spoilt 39 = .ok (.iload_n 2, 1) := by decide +kernel
theorem dX9_spoilt_40 : decode cX9_spoilt 40 = .ok (.iconst (-1), 1) := by decide +kernel
theorem dX9_spoilt_41 : decode cX9_spoilt 41 = .ok (.if_icmp .ne 7, 3) := by decide +kernel
theorem dX9_spoilt_44 : decode cX9_spoilt 44 = .ok (.iconst 0, 1) := by decide +kernel
theorem dX9_spoilt_45 : decode cX9_spoilt 45 = .ok (.goto 6, 3) := by decide +kernel
theorem dX9_spoilt_48 : decode cX9_spoilt 48 = .ok (.iconst 1, 1) := by decide +kernel
theorem dX9_spoilt_49 : decode cX9_spoilt 49 = .ok (.iload_n 2, 1) := by decide +kernel
theorem dX9_spoilt_50 : decode cX9_spoilt 50 = .ok (.ishl, 1) := by decide +kernel
theorem dX9_spoilt_51 : decode cX9_spoilt 51 = .ok (.invokevirtual 251, 3) := by decide +kernel
theorem dX9_spoilt_54 : decode cX9_spoilt 54 = .ok (.ireturn, 1) := by decide +kernel
theorem dX9_bribe_0 : decode cX9_bribe 0 = .ok (.aload_n 0, 1) := by decide +kernel
theorem dX9_bribe_1 : decode cX9_bribe 1 = .ok (.getfield 75, 3) := by decide +kernel
theorem dX9_bribe_4 : decode cX9_bribe 4 = .ok (.iload_n 1, 1) := by decide +kernel
theorem dX9_bribe_5 : decode cX9_bribe 5 = .ok (.invokevirtual 137, 3) := by decide +kernel
theorem dX9_bribe_8 : decode cX9_bribe 8 = .ok (.ifCond .ne 6, 3) := by decide +kernel
theorem dX9_bribe_11 : decode cX9_bribe 11 = .ok (.bipush (-2), 2) := by decide +kernel
theorem dX9_bribe_13 : decode cX9_bribe 13 = .ok (.ireturn, 1) := by decide +kernel
theorem dX9_bribe_14 : decode cX9_bribe 14 = .ok (.iconst (-1), 1) := by decide +kernel
theorem dX9_bribe_15 : decode cX9_bribe 15 = .ok (.istore_n 2, 1) := by decide +kernel
theorem dX9_bribe_16 : decode cX9_bribe 16 = .ok (.aload_n 0, 1) := by decide +kernel
theorem dX9_bribe_17 : decode cX9_bribe 17 = .ok (.iload_n 1, 1) := by decide +kernel
theorem dX9_bribe_18 : decode cX9_bribe 18 = .ok (.invokevirtual 215, 3) := by decide +kernel
theorem dX9_bribe_21 : decode cX9_bribe 21 = .ok (.istore_n 3, 1) := by decide +kernel
theorem dX9_bribe_22 : decode cX9_bribe 22 = .ok (.iconst 0, 1) := by decide +kernel
theorem dX9_bribe_23 : decode cX9_bribe 23 = .ok (.istore 4, 2) := by decide +kernel
theorem dX9_bribe_25 : decode cX9_bribe 25 = .ok (.iload 4, 2) := by decide +kernel
theorem dX9_bribe_27 : decode cX9_bribe 27 = .ok (.aload_n 0, 1) := by decide +kernel
theorem dX9_bribe_28 : decode cX9_bribe 28 = .ok (.getfield 75, 3) := by decide +kernel
theorem dX9_bribe_31 : decode cX9_bribe 31 = .ok (.getfield 264, 3) := by decide +kernel
theorem dX9_bribe_34 : decode cX9_bribe 34 = .ok (.if_icmp .ge 70, 3) := by decide +kernel
theorem dX9_bribe_37 : decode cX9_bribe 37 = .ok (.aload_n 0, 1) := by decide +kernel
theorem dX9_bribe_38 : decode cX9_bribe 38 = .ok (.getfield 75, 3) := by decide +kernel
theorem dX9_bribe_41 : decode cX9_bribe 41 = .ok (.getfield 108, 3) := by decide +kernel
theorem dX9_bribe_44 : decode cX9_bribe 44 = .ok (.iload 4, 2) := by decide +kernel
theorem dX9_bribe_46 : decode cX9_bribe 46 = .ok (.iaload, 1) := by decide +kernel
theorem dX9_bribe_47 : decode cX9_bribe 47 = .ok (.iload_n 1, 1) := by decide +kernel
theorem dX9_bribe_48 : decode cX9_bribe 48 = .ok (.if_icmp .ne 6, 3) := by decide +kernel
theorem dX9_bribe_51 : decode cX9_bribe 51 = .ok (.goto 47, 3) := by decide +kernel
theorem dX9_bribe_54 : decode cX9_bribe 54 = .ok (.aload_n 0, 1) := by decide +kernel
theorem dX9_bribe_55 : decode cX9_bribe 55 = .ok (.aload_n 0, 1) := by decide +kernel
theorem dX9_bribe_56 : decode cX9_bribe 56 = .ok (.getfield 75, 3) := by decide +kernel
theorem dX9_bribe_59 : decode cX9_bribe 59 = .ok (.iload_n 1, 1) := by decide +kernel
theorem dX9_bribe_60 : decode cX9_bribe 60 = .ok (.invokevirtual 209, 3) := by decide +kernel
theorem dX9_bribe_63 : decode cX9_bribe 63 = .ok (.aload_n 0, 1) := by decide +kernel
theorem dX9_bribe_64 : decode cX9_bribe 64 = .ok (.getfield 75, 3) := by decide +kernel
theorem dX9_bribe_67 : decode cX9_bribe 67 = .ok (.getfield 134, 3) := by decide +kernel
theorem dX9_bribe_70 : decode cX9_bribe 70 = .ok (.sipush 255, 3) := by decide +kernel
theorem dX9_bribe_73 : decode cX9_bribe 73 = .ok (.iconst 1, 1) := by decide +kernel
theorem dX9_bribe_74 : decode cX9_bribe 74 = .ok (.iload 4, 2) := by decide +kernel
theorem dX9_bribe_76 : decode cX9_bribe 76 = .ok (.ishl, 1) := by decide +kernel
theorem dX9_bribe_77 : decode cX9_bribe 77 = .ok (.iconst (-1), 1) := by decide +kernel
theorem dX9_bribe_78 : decode cX9_bribe 78 = .ok (.ixor, 1) := by decide +kernel
theorem dX9_bribe_79 : decode cX9_bribe 79 = .ok (.iand, 1) := by decide +kernel
theorem dX9_bribe_80 : decode cX9_bribe 80 = .ok (.iconst 0, 1) := by decide +kernel
theorem dX9_bribe_81 : decode cX9_bribe 81 = .ok (.invokevirtual 251, 3) := by decide +kernel
theorem dX9_bribe_84 : decode cX9_bribe 84 = .ok (.istore 5, 2) := by decide +kernel
theorem dX9_bribe_86 : decode cX9_bribe 86 = .ok (.iload 5, 2) := by decide +kernel
theorem dX9_bribe_88 : decode cX9_bribe 88 = .ok (.iload_n 3, 1) := by decide +kernel
theorem dX9_bribe_89 : decode cX9_bribe 89 = .ok (.if_icmp .le 9, 3) := by decide +kernel
theorem dX9_bribe_92 : decode cX9_bribe 92 = .ok (.iload 5, 2) := by decide +kernel
theorem dX9_bribe_94 : decode cX9_bribe 94 = .ok (.istore_n 3, 1) := by decide +kernel
theorem dX9_bribe_95 : decode cX9_bribe 95 = .ok (.iload 4, 2) := by decide +kernel
theorem dX9_bribe_97 : decode cX9_bribe 97 = .ok (.istore_n 2, 1) := by decide +kernel
theorem dX9_bribe_98 : decode cX9_bribe 98 = .ok (.iinc 4 1, 3) := by decide +kernel
theorem dX9_bribe_101 : decode cX9_bribe 101 = .ok (.goto (-76), 3) := by decide +kernel
theorem dX9_bribe_104 : decode cX9_bribe 104 = .ok (.iload_n 2, 1) := by decide +kernel
theorem dX9_bribe_105 : decode cX9_bribe 105 = .ok (.ireturn, 1) := by decide +kernel
theorem dX9_unmark_0 : decode cX9_unmark 0 = .ok (.aload_n 0, 1) := by decide +kernel
theorem dX9_unmark_1 : decode cX9_unmark 1 = .ok (.getfield 75, 3) := by decide +kernel
theorem dX9_unmark_4 : decode cX9_unmark 4 = .ok (.iload_n 1, 1) := by decide +kernel
theorem dX9_unmark_5 : decode cX9_unmark 5 = .ok (.invokevirtual 137, 3) := by decide +kernel
theorem dX9_unmark_8 : decode cX9_unmark 8 = .ok (.ifCond .ne 6, 3) := by decide +kernel
theorem dX9_unmark_11 : decode cX9_unmark 11 = .ok (.bipush (-2), 2) := by decide +kernel
theorem dX9_unmark_13 : decode cX9_unmark 13 = .ok (.ireturn, 1) := by decide +kernel
theorem dX9_unmark_14 : decode cX9_unmark 14 = .ok (.iconst (-1), 1) := by decide +kernel
theorem dX9_unmark_15 : decode cX9_unmark 15 = .ok (.istore_n 2, 1) := by decide +kernel
theorem dX9_unmark_16 : decode cX9_unmark 16 = .ok (.aload_n 0, 1) := by decide +kernel
theorem dX9_unmark_17 : decode cX9_unmark 17 = .ok (.iload_n 1, 1) := by decide +kernel
theorem dX9_unmark_18 : decode cX9_unmark 18 = .ok (.invokevirtual 215, 3) := by decide +kernel
theorem dX9_unmark_21 : decode cX9_unmark 21 = .ok (.istore_n 3, 1) := by decide +kernel
theorem dX9_unmark_22 : decode cX9_unmark 22 = .ok (.iconst 0, 1) := by decide +kernel
theorem dX9_unmark_23 : decode cX9_unmark 23 = .ok (.istore 4, 2) := by decide +kernel
theorem dX9_unmark_25 : decode cX9_unmark 25 = .ok (.iload 4, 2) := by decide +kernel
theorem dX9_unmark_27 : decode cX9_unmark 27 = .ok (.aload_n 0, 1) := by decide +kernel
theorem dX9_unmark_28 : decode cX9_unmark 28 = .ok (.getfield 75, 3) := by decide +kernel
theorem dX9_unmark_31 : decode cX9_unmark 31 = .ok (.getfield 160, 3) := by decide +kernel
theorem dX9_unmark_34 : decode cX9_unmark 34 = .ok (.if_icmp .ge 71, 3) := by decide +kernel
theorem dX9_unmark_37 : decode cX9_unmark 37 = .ok (.aload_n 0, 1) := by decide +kernel
theorem dX9_unmark_38 : decode cX9_unmark 38 = .ok (.getfield 75, 3) := by decide +kernel
theorem dX9_unmark_41 : decode cX9_unmark 41 = .ok (.getfield 134, 3) := by decide +kernel
theorem dX9_unmark_44 : decode cX9_unmark 44 = .ok (.iload 4, 2) := by decide +kernel
theorem dX9_unmark_46 : decode cX9_unmark 46 = .ok (.invokestatic 267, 3) := by decide +kernel
theorem dX9_unmark_49 : decode cX9_unmark 49 = .ok (.ifCond .ne 6, 3) := by decide +kernel
theorem dX9_unmark_52 : decode cX9_unmark 52 = .ok (.goto 47, 3) := by decide +kernel
theorem dX9_unmark_55 : decode cX9_unmark 55 = .ok (.aload_n 0, 1) := by decide +kernel
theorem dX9_unmark_56 : decode cX9_unmark 56 = .ok (.aload_n 0, 1) := by decide +kernel
theorem dX9_unmark_57 : decode cX9_unmark 57 = .ok (.getfield 75, 3) := by decide +kernel
theorem dX9_unmark_60 : decode cX9_unmark 60 = .ok (.iload_n 1, 1) := by decide +kernel
theorem dX9_unmark_61 : decode cX9_unmark 61 = .ok (.invokevirtual 209, 3) := by decide +kernel
theorem dX9_unmark_64 : decode cX9_unmark 64 = .ok (.aload_n 0, 1) := by decide +kernel
theorem dX9_unmark_65 : decode cX9_unmark 65 = .ok (.getfield 75, 3) := by decide +kernel
theorem dX9_unmark_68 : decode cX9_unmark 68 = .ok (.getfield 134, 3) := by decide +kernel
theorem dX9_unmark_71 : decode cX9_unmark 71 = .ok (.iconst 1, 1) := by decide +kernel
theorem dX9_unmark_72 : decode cX9_unmark 72 = .ok (.iload 4, 2) := by decide +kernel
theorem dX9_unmark_74 : decode cX9_unmark 74 = .ok (.ishl, 1) := by decide +kernel
theorem dX9_unmark_75 : decode cX9_unmark 75 = .ok (.iconst (-1), 1) := by decide +kernel
theorem dX9_unmark_76 : decode cX9_unmark 76 = .ok (.ixor, 1) := by decide +kernel
theorem dX9_unmark_77 : decode cX9_unmark 77 = .ok (.iand, 1) := by decide +kernel
theorem dX9_unmark_78 : decode cX9_unmark 78 = .ok (.sipush 255, 3) := by decide +kernel
theorem dX9_unmark_81 : decode cX9_unmark 81 = .ok (.iconst 0, 1) := by decide +kernel
theorem dX9_unmark_82 : decode cX9_unmark 82 = .ok (.invokevirtual 251, 3) := by decide +kernel
theorem dX9_unmark_85 : decode cX9_unmark 85 = .ok (.istore 5, 2) := by decide +kernel
theorem dX9_unmark_87 : decode cX9_unmark 87 = .ok (.iload 5, 2) := by decide +kernel
theorem dX9_unmark_89 : decode cX9_unmark 89 = .ok (.iload_n 3, 1) := by decide +kernel
theorem dX9_unmark_90 : decode cX9_unmark 90 = .ok (.if_icmp .le 9, 3) := by decide +kernel
theorem dX9_unmark_93 : decode cX9_unmark 93 = .ok (.iload 5, 2) := by decide +kernel
theorem dX9_unmark_95 : decode cX9_unmark 95 = .ok (.istore_n 3, 1) := by decide +kernel
theorem dX9_unmark_96 : decode cX9_unmark 96 = .ok (.iload 4, 2) := by decide +kernel
theorem dX9_unmark_98 : decode cX9_unmark 98 = .ok (.istore_n 2, 1) := by decide +kernel
theorem dX9_unmark_99 : decode cX9_unmark 99 = .ok (.iinc 4 1, 3) := by decide +kernel
theorem dX9_unmark_102 : decode cX9_unmark 102 = .ok (.goto (-77), 3) := by decide +kernel
theorem dX9_unmark_105 : decode cX9_unmark 105 = .ok (.iload_n 2, 1) := by decide +kernel
theorem dX9_unmark_106 : decode cX9_unmark 106 = .ok (.ireturn, 1) := by decide +kernel
theorem dX9_worthOfPlan_0 : decode cX9_worthOfPlan 0 = .ok (.aload_n 0, 1) := by decide +kernel
theorem dX9_worthOfPlan_1 : decode cX9_worthOfPlan 1 = .ok (.aload_n 0, 1) := by decide +kernel
theorem dX9_worthOfPlan_2 : decode cX9_worthOfPlan 2 = .ok (.getfield 75, 3) := by decide +kernel
theorem dX9_worthOfPlan_5 : decode cX9_worthOfPlan 5 = .ok (.iload_n 1, 1) := by decide +kernel
theorem dX9_worthOfPlan_6 : decode cX9_worthOfPlan 6 = .ok (.invokevirtual 209, 3) := by decide +kernel
theorem dX9_worthOfPlan_9 : decode cX9_worthOfPlan 9 = .ok (.aload_n 0, 1) := by decide +kernel
theorem dX9_worthOfPlan_10 : decode cX9_worthOfPlan 10 = .ok (.getfield 75, 3) := by decide +kernel
theorem dX9_worthOfPlan_13 : decode cX9_worthOfPlan 13 = .ok (.getfield 134, 3) := by decide +kernel
theorem dX9_worthOfPlan_16 : decode cX9_worthOfPlan 16 = .ok (.sipush 255, 3) := by decide +kernel
theorem dX9_worthOfPlan_19 : decode cX9_worthOfPlan 19 = .ok (.iconst 0, 1) := by decide +kernel
theorem dX9_worthOfPlan_20 : decode cX9_worthOfPlan 20 = .ok (.invokevirtual 251, 3) := by decide +kernel
theorem dX9_worthOfPlan_23 : decode cX9_worthOfPlan 23 = .ok (.ireturn, 1) := by decide +kernel
theorem dX9_worthWithout_0 : decode cX9_worthWithout 0 = .ok (.aload_n 0, 1) := by decide +kernel
theorem dX9_worthWithout_1 : decode cX9_worthWithout 1 = .ok (.getfield 75, 3) := by decide +kernel
theorem dX9_worthWithout_4 : decode cX9_worthWithout 4 = .ok (.aload_n 0, 1) := by decide +kernel
theorem dX9_worthWithout_5 : decode cX9_worthWithout 5 = .ok (.getfield 75, 3) := by decide +kernel
theorem dX9_worthWithout_8 : decode cX9_worthWithout 8 = .ok (.getfield 121, 3) := by decide +kernel
theorem dX9_worthWithout_11 : decode cX9_worthWithout 11 = .ok (.iload_n 1, 1) := by decide +kernel
theorem dX9_worthWithout_12 : decode cX9_worthWithout 12 = .ok (.iaload, 1) := by decide +kernel
theorem dX9_worthWithout_13 : decode cX9_worthWithout 13 = .ok (.invokevirtual 209, 3) := by decide +kernel
theorem dX9_worthWithout_16 : decode cX9_worthWithout 16 = .ok (.iconst 1, 1) := by decide +kernel
theorem dX9_worthWithout_17 : decode cX9_worthWithout 17 = .ok (.iload_n 1, 1) := by decide +kernel
theorem dX9_worthWithout_18 : decode cX9_worthWithout 18 = .ok (.ishl, 1) := by decide +kernel
theorem dX9_worthWithout_19 : decode cX9_worthWithout 19 = .ok (.iconst (-1), 1) := by decide +kernel
theorem dX9_worthWithout_20 : decode cX9_worthWithout 20 = .ok (.ixor, 1) := by decide +kernel
theorem dX9_worthWithout_21 : decode cX9_worthWithout 21 = .ok (.iand, 1) := by decide +kernel
theorem dX9_worthWithout_22 : decode cX9_worthWithout 22 = .ok (.istore_n 2, 1) := by decide +kernel
theorem dX9_worthWithout_23 : decode cX9_worthWithout 23 = .ok (.aload_n 0, 1) := by decide +kernel
theorem dX9_worthWithout_24 : decode cX9_worthWithout 24 = .ok (.iload_n 2, 1) := by decide +kernel
theorem dX9_worthWithout_25 : decode cX9_worthWithout 25 = .ok (.aload_n 0, 1) := by decide +kernel
theorem dX9_worthWithout_26 : decode cX9_worthWithout 26 = .ok (.getfield 75, 3) := by decide +kernel
theorem dX9_worthWithout_29 : decode cX9_worthWithout 29 = .ok (.getfield 134, 3) := by decide +kernel
theorem dX9_worthWithout_32 : decode cX9_worthWithout 32 = .ok (.sipush 255, 3) := by decide +kernel
theorem dX9_worthWithout_35 : decode cX9_worthWithout 35 = .ok (.iconst 0, 1) := by decide +kernel
theorem dX9_worthWithout_36 : decode cX9_worthWithout 36 = .ok (.invokevirtual 251, 3) := by decide +kernel
theorem dX9_worthWithout_39 : decode cX9_worthWithout 39 = .ok (.ireturn, 1) := by decide +kernel
theorem dX9_worthOfPlans_0 : decode cX9_worthOfPlans 0 = .ok (.aload_n 0, 1) := by decide +kernel
theorem dX9_worthOfPlans_1 : decode cX9_worthOfPlans 1 = .ok (.getfield 33, 3) := by decide +kernel
theorem dX9_worthOfPlans_4 : decode cX9_worthOfPlans 4 = .ok (.aload_n 0, 1) := by decide +kernel
theorem dX9_worthOfPlans_5 : decode cX9_worthOfPlans 5 = .ok (.getfield 75, 3) := by decide +kernel
theorem dX9_worthOfPlans_8 : decode cX9_worthOfPlans 8 = .ok (.invokevirtual 271, 3) := by decide +kernel
theorem dX9_worthOfPlans_11 : decode cX9_worthOfPlans 11 = .ok (.aload_n 0, 1) := by decide +kernel
theorem dX9_worthOfPlans_12 : decode cX9_worthOfPlans 12 = .ok (.getfield 33, 3) := by decide +kernel
theorem dX9_worthOfPlans_15 : decode cX9_worthOfPlans 15 = .ok (.aload_n 0, 1) := by decide +kernel
theorem dX9_worthOfPlans_16 : decode cX9_worthOfPlans 16 = .ok (.getfield 75, 3) := by decide +kernel
theorem dX9_worthOfPlans_19 : decode cX9_worthOfPlans 19 = .ok (.iload_n 1, 1) := by decide +kernel
theorem dX9_worthOfPlans_20 : decode cX9_worthOfPlans 20 = .ok (.iload_n 2, 1) := by decide +kernel
theorem dX9_worthOfPlans_21 : decode cX9_worthOfPlans 21 = .ok (.iload_n 3, 1) := by decide +kernel
theorem dX9_worthOfPlans_22 : decode cX9_worthOfPlans 22 = .ok (.iload 4, 2) := by decide +kernel
theorem dX9_worthOfPlans_24 : decode cX9_worthOfPlans 24 = .ok (.invokevirtual 227, 3) := by decide +kernel
theorem dX9_worthOfPlans_27 : decode cX9_worthOfPlans 27 = .ok (.ireturn, 1) := by decide +kernel
theorem dX9_spoilingDay_0 : decode cX9_spoilingDay 0 = .ok (.iconst (-1), 1) := by decide +kernel
theorem dX9_spoilingDay_1 : decode cX9_spoilingDay 1 = .ok (.istore_n 2, 1) := by decide +kernel
theorem dX9_spoilingDay_2 : decode cX9_spoilingDay 2 = .ok (.aload_n 0, 1) := by decide +kernel
theorem dX9_spoilingDay_3 : decode cX9_spoilingDay 3 = .ok (.iload_n 1, 1) := by decide +kernel
theorem dX9_spoilingDay_4 : decode cX9_spoilingDay 4 = .ok (.invokevirtual 215, 3) := by decide +kernel
theorem dX9_spoilingDay_7 : decode cX9_spoilingDay 7 = .ok (.istore_n 3, 1) := by decide +kernel
theorem dX9_spoilingDay_8 : decode cX9_spoilingDay 8 = .ok (.aload_n 0, 1) := by decide +kernel
theorem dX9_spoilingDay_9 : decode cX9_spoilingDay 9 = .ok (.getfield 33, 3) := by decide +kernel
theorem dX9_spoilingDay_12 : decode cX9_spoilingDay 12 = .ok (.invokevirtual 274, 3) := by decide +kernel
theorem dX9_spoilingDay_15 : decode cX9_spoilingDay 15 = .ok (.istore 4, 2) := by decide +kernel
theorem dX9_spoilingDay_17 : decode cX9_spoilingDay 17 = .ok (.iconst 0, 1) := by decide +kernel
theorem dX9_spoilingDay_18 : decode cX9_spoilingDay 18 = .ok (.istore 5, 2) := by decide +kernel
theorem dX9_spoilingDay_20 : decode cX9_spoilingDay 20 = .ok (.iload 5, 2) := by decide +kernel
theorem dX9_spoilingDay_22 : decode cX9_spoilingDay 22 = .ok (.aload_n 0, 1) := by decide +kernel
theorem dX9_spoilingDay_23 : decode cX9_spoilingDay 23 = .ok (.getfield 75, 3) := by decide +kernel
theorem dX9_spoilingDay_26 : decode cX9_spoilingDay 26 = .ok (.getfield 160, 3) := by decide +kernel
theorem dX9_spoilingDay_29 : decode cX9_spoilingDay 29 = .ok (.if_icmp .ge 62, 3) := by decide +kernel
theorem dX9_spoilingDay_32 : decode cX9_spoilingDay 32 = .ok (.iload 4, 2) := by decide +kernel
theorem dX9_spoilingDay_34 : decode cX9_spoilingDay 34 = .ok (.iload 5, 2) := by decide +kernel
theorem dX9_spoilingDay_36 : decode cX9_spoilingDay 36 = .ok (.invokestatic 267, 3) := by decide +kernel
theorem dX9_spoilingDay_39 : decode cX9_spoilingDay 39 = .ok (.ifCond .ne 6, 3) := by decide +kernel
theorem dX9_spoilingDay_42 : decode cX9_spoilingDay 42 = .ok (.goto 43, 3) := by decide +kernel
theorem dX9_spoilingDay_45 : decode cX9_spoilingDay 45 = .ok (.aload_n 0, 1) := by decide +kernel
theorem dX9_spoilingDay_46 : decode cX9_spoilingDay 46 = .ok (.aload_n 0, 1) := by decide +kernel
theorem dX9_spoilingDay_47 : decode cX9_spoilingDay 47 = .ok (.getfield 75, 3) := by decide +kernel
theorem dX9_spoilingDay_50 : decode cX9_spoilingDay 50 = .ok (.iload_n 1, 1) := by decide +kernel
theorem dX9_spoilingDay_51 : decode cX9_spoilingDay 51 = .ok (.invokevirtual 209, 3) := by decide +kernel
theorem dX9_spoilingDay_54 : decode cX9_spoilingDay 54 = .ok (.aload_n 0, 1) := by decide +kernel
theorem dX9_spoilingDay_55 : decode cX9_spoilingDay 55 = .ok (.getfield 75, 3) := by decide +kernel
theorem dX9_spoilingDay_58 : decode cX9_spoilingDay 58 = .ok (.getfield 134, 3) := by decide +kernel
theorem dX9_spoilingDay_61 : decode cX9_spoilingDay 61 = .ok (.sipush 255, 3) := by decide +kernel
theorem dX9_spoilingDay_64 : decode cX9_spoilingDay 64 = .ok (.iconst 1, 1) := by decide +kernel
theorem dX9_spoilingDay_65 : decode cX9_spoilingDay 65 = .ok (.iload 5, 2) := by decide +kernel
theorem dX9_spoilingDay_67 : decode cX9_spoilingDay 67 = .ok (.ishl, 1) := by decide +kernel
theorem dX9_spoilingDay_68 : decode cX9_spoilingDay 68 = .ok (.invokevirtual 251, 3) := by decide +kernel
theorem dX9_spoilingDay_71 : decode cX9_spoilingDay 71 = .ok (.istore 6, 2) := by decide +kernel
theorem dX9_spoilingDay_73 : decode cX9_spoilingDay 73 = .ok (.iload 6, 2) := by decide +kernel
theorem dX9_spoilingDay_75 : decode cX9_spoilingDay 75 = .ok (.iload_n 3, 1) := by decide +kernel
theorem dX9_spoilingDay_76 : decode cX9_spoilingDay 76 = .ok (.if_icmp .ge 9, 3) := by decide +kernel
theorem dX9_spoilingDay_79 : decode cX9_spoilingDay 79 = .ok (.iload 6, 2) := by decide +kernel
theorem dX9_spoilingDay_81 : decode cX9_spoilingDay 81 = .ok (.istore_n 3, 1) := by decide +kernel
theorem dX9_spoilingDay_82 : decode cX9_spoilingDay 82 = .ok (.iload 5, 2) := by decide +kernel
theorem dX9_spoilingDay_84 : decode cX9_spoilingDay 84 = .ok (.istore_n 2, 1) := by decide +kernel
theorem dX9_spoilingDay_85 : decode cX9_spoilingDay 85 = .ok (.iinc 5 1, 3) := by decide +kernel
theorem dX9_spoilingDay_88 : decode cX9_spoilingDay 88 = .ok (.goto (-68), 3) := by decide +kernel
theorem dX9_spoilingDay_91 : decode cX9_spoilingDay 91 = .ok (.iload_n 2, 1) := by decide +kernel
theorem dX9_spoilingDay_92 : decode cX9_spoilingDay 92 = .ok (.ireturn, 1) := by decide +kernel
theorem dX9_college_0 : decode cX9_college 0 = .ok (.aload_n 0, 1) := by decide +kernel
theorem dX9_college_1 : decode cX9_college 1 = .ok (.getfield 75, 3) := by decide +kernel
theorem dX9_college_4 : decode cX9_college 4 = .ok (.iload_n 1, 1) := by decide +kernel
theorem dX9_college_5 : decode cX9_college 5 = .ok (.invokevirtual 137, 3) := by decide +kernel
theorem dX9_college_8 : decode cX9_college 8 = .ok (.ifCond .eq 14, 3) := by decide +kernel
theorem dX9_college_11 : decode cX9_college 11 = .ok (.aload_n 0, 1) := by decide +kernel
theorem dX9_college_12 : decode cX9_college 12 = .ok (.iload_n 1, 1) := by decide +kernel
theorem dX9_college_13 : decode cX9_college 13 = .ok (.invokevirtual 277, 3) := by decide +kernel
theorem dX9_college_16 : decode cX9_college 16 = .ok (.invokestatic 240, 3) := by decide +kernel
theorem dX9_college_19 : decode cX9_college 19 = .ok (.goto 5, 3) := by decide +kernel
theorem dX9_college_22 : decode cX9_college 22 = .ok (.bipush (-2), 2) := by decide +kernel
theorem dX9_college_24 : decode cX9_college 24 = .ok (.ireturn, 1) := by decide +kernel
theorem dX9_chosen_0 : decode cX9_chosen 0 = .ok (.aload_n 0, 1) := by decide +kernel
theorem dX9_chosen_1 : decode cX9_chosen 1 = .ok (.getfield 75, 3) := by decide +kernel
theorem dX9_chosen_4 : decode cX9_chosen 4 = .ok (.iload_n 1, 1) := by decide +kernel
theorem dX9_chosen_5 : decode cX9_chosen 5 = .ok (.invokevirtual 137, 3) := by decide +kernel
theorem dX9_chosen_8 : decode cX9_chosen 8 = .ok (.ifCond .eq 11, 3) := by decide +kernel
theorem dX9_chosen_11 : decode cX9_chosen 11 = .ok (.aload_n 0, 1) := by decide +kernel
theorem dX9_chosen_12 : decode cX9_chosen 12 = .ok (.iload_n 1, 1) := by decide +kernel
theorem dX9_chosen_13 : decode cX9_chosen 13 = .ok (.invokevirtual 277, 3) := by decide +kernel
theorem dX9_chosen_16 : decode cX9_chosen 16 = .ok (.goto 5, 3) := by decide +kernel
theorem dX9_chosen_19 : decode cX9_chosen 19 = .ok (.bipush (-2), 2) := by decide +kernel
theorem dX9_chosen_21 : decode cX9_chosen 21 = .ok (.ireturn, 1) := by decide +kernel
theorem dX9_hold_0 : decode cX9_hold 0 = .ok (.aload_n 0, 1) := by decide +kernel
theorem dX9_hold_1 : decode cX9_hold 1 = .ok (.getfield 75, 3) := by decide +kernel
theorem dX9_hold_4 : decode cX9_hold 4 = .ok (.iload_n 1, 1) := by decide +kernel
theorem dX9_hold_5 : decode cX9_hold 5 = .ok (.invokevirtual 137, 3) := by decide +kernel
theorem dX9_hold_8 : decode cX9_hold 8 = .ok (.ifCond .eq 13, 3) := by decide +kernel
theorem dX9_hold_11 : decode cX9_hold 11 = .ok (.iload_n 2, 1) := by decide +kernel
theorem dX9_hold_12 : decode cX9_hold 12 = .ok (.ifCond .lt 9, 3) := by decide +kernel
theorem dX9_hold_15 : decode cX9_hold 15 = .ok (.iload_n 2, 1) := by decide +kernel
theorem dX9_hold_16 : decode cX9_hold 16 = .ok (.bipush 8, 2) := by decide +kernel
theorem dX9_hold_18 : decode cX9_hold 18 = .ok (.if_icmp .le 6, 3) := by decide +kernel
theorem dX9_hold_21 : decode cX9_hold 21 = .ok (.bipush (-2), 2) := by decide +kernel
theorem dX9_hold_23 : decode cX9_hold 23 = .ok (.ireturn, 1) := by decide +kernel
theorem dX9_hold_24 : decode cX9_hold 24 = .ok (.aload_n 0, 1) := by decide +kernel
theorem dX9_hold_25 : decode cX9_hold 25 = .ok (.getfield 75, 3) := by decide +kernel
theorem dX9_hold_28 : decode cX9_hold 28 = .ok (.iload_n 1, 1) := by decide +kernel
theorem dX9_hold_29 : decode cX9_hold 29 = .ok (.invokevirtual 140, 3) := by decide +kernel
theorem dX9_hold_32 : decode cX9_hold 32 = .ok (.istore_n 3, 1) := by decide +kernel
theorem dX9_hold_33 : decode cX9_hold 33 = .ok (.iconst 0, 1) := by decide +kernel
theorem dX9_hold_34 : decode cX9_hold 34 = .ok (.istore 4, 2) := by decide +kernel
theorem dX9_hold_36 : decode cX9_hold 36 = .ok (.iconst 0, 1) := by decide +kernel
theorem dX9_hold_37 : decode cX9_hold 37 = .ok (.istore 5, 2) := by decide +kernel
theorem dX9_hold_39 : decode cX9_hold 39 = .ok (.iload 5, 2) := by decide +kernel
theorem dX9_hold_41 : decode cX9_hold 41 = .ok (.sipush 256, 3) := by decide +kernel
theorem dX9_hold_44 : decode cX9_hold 44 = .ok (.if_icmp .ge 46, 3) := by decide +kernel
theorem dX9_hold_47 : decode cX9_hold 47 = .ok (.iload 5, 2) := by decide +kernel
theorem dX9_hold_49 : decode cX9_hold 49 = .ok (.iload_n 3, 1) := by decide +kernel
theorem dX9_hold_50 : decode cX9_hold 50 = .ok (.iand, 1) := by decide +kernel
theorem dX9_hold_51 : decode cX9_hold 51 = .ok (.iload 5, 2) := by decide +kernel
theorem dX9_hold_53 : decode cX9_hold 53 = .ok (.if_icmp .ne 31, 3) := by decide +kernel
theorem dX9_hold_56 : decode cX9_hold 56 = .ok (.iload 5, 2) := by decide +kernel
theorem dX9_hold_58 : decode cX9_hold 58 = .ok (.invokestatic 240, 3) := by decide +kernel
theorem dX9_hold_61 : decode cX9_hold 61 = .ok (.iload_n 2, 1) := by decide +kernel
theorem dX9_hold_62 : decode cX9_hold 62 = .ok (.if_icmp .gt 22, 3) := by decide +kernel
theorem dX9_hold_65 : decode cX9_hold 65 = .ok (.iload 4, 2) := by decide +kernel
theorem dX9_hold_67 : decode cX9_hold 67 = .ok (.aload_n 0, 1) := by decide +kernel
theorem dX9_hold_68 : decode cX9_hold 68 = .ok (.getfield 75, 3) := by decide +kernel
theorem dX9_hold_71 : decode cX9_hold 71 = .ok (.iload 5, 2) := by decide +kernel
theorem dX9_hold_73 : decode cX9_hold 73 = .ok (.invokevirtual 144, 3) := by decide +kernel
theorem dX9_hold_76 : decode cX9_hold 76 = .ok (.invokestatic 240, 3) := by decide +kernel
theorem dX9_hold_79 : decode cX9_hold 79 = .ok (.invokestatic 189, 3) := by decide +kernel
theorem dX9_hold_82 : decode cX9_hold 82 = .ok (.istore 4, 2) := by decide +kernel
theorem dX9_hold_84 : decode cX9_hold 84 = .ok (.iinc 5 1, 3) := by decide +kernel
theorem dX9_hold_87 : decode cX9_hold 87 = .ok (.goto (-48), 3) := by decide +kernel
theorem dX9_hold_90 : decode cX9_hold 90 = .ok (.iload 4, 2) := by decide +kernel
theorem dX9_hold_92 : decode cX9_hold 92 = .ok (.ireturn, 1) := by decide +kernel
theorem dX9_idle_0 : decode cX9_idle 0 = .ok (.aload_n 0, 1) := by decide +kernel
theorem dX9_idle_1 : decode cX9_idle 1 = .ok (.getfield 75, 3) := by decide +kernel
theorem dX9_idle_4 : decode cX9_idle 4 = .ok (.iload_n 1, 1) := by decide +kernel
theorem dX9_idle_5 : decode cX9_idle 5 = .ok (.invokevirtual 137, 3) := by decide +kernel
theorem dX9_idle_8 : decode cX9_idle 8 = .ok (.ifCond .eq 22, 3) := by decide +kernel
theorem dX9_idle_11 : decode cX9_idle 11 = .ok (.aload_n 0, 1) := by decide +kernel
theorem dX9_idle_12 : decode cX9_idle 12 = .ok (.getfield 75, 3) := by decide +kernel
theorem dX9_idle_15 : decode cX9_idle 15 = .ok (.iload_n 1, 1) := by decide +kernel
theorem dX9_idle_16 : decode cX9_idle 16 = .ok (.invokevirtual 140, 3) := by decide +kernel
theorem dX9_idle_19 : decode cX9_idle 19 = .ok (.aload_n 0, 1) := by decide +kernel
theorem dX9_idle_20 : decode cX9_idle 20 = .ok (.iload_n 1, 1) := by decide +kernel
theorem dX9_idle_21 : decode cX9_idle 21 = .ok (.invokevirtual 280, 3) := by decide +kernel
theorem dX9_idle_24 : decode cX9_idle 24 = .ok (.iconst (-1), 1) := by decide +kernel
theorem dX9_idle_25 : decode cX9_idle 25 = .ok (.ixor, 1) := by decide +kernel
theorem dX9_idle_26 : decode cX9_idle 26 = .ok (.iand, 1) := by decide +kernel
theorem dX9_idle_27 : decode cX9_idle 27 = .ok (.goto 5, 3) := by decide +kernel
theorem dX9_idle_30 : decode cX9_idle 30 = .ok (.bipush (-2), 2) := by decide +kernel
theorem dX9_idle_32 : decode cX9_idle 32 = .ok (.ireturn, 1) := by decide +kernel
theorem dX9_lone_0 : decode cX9_lone 0 = .ok (.aload_n 0, 1) := by decide +kernel
theorem dX9_lone_1 : decode cX9_lone 1 = .ok (.getfield 75, 3) := by decide +kernel
theorem dX9_lone_4 : decode cX9_lone 4 = .ok (.iload_n 1, 1) := by decide +kernel
theorem dX9_lone_5 : decode cX9_lone 5 = .ok (.invokevirtual 137, 3) := by decide +kernel
theorem dX9_lone_8 : decode cX9_lone 8 = .ok (.ifCond .eq 11, 3) := by decide +kernel
theorem dX9_lone_11 : decode cX9_lone 11 = .ok (.aload_n 0, 1) := by decide +kernel
theorem dX9_lone_12 : decode cX9_lone 12 = .ok (.iload_n 1, 1) := by decide +kernel
theorem dX9_lone_13 : decode cX9_lone 13 = .ok (.invokevirtual 280, 3) := by decide +kernel
theorem dX9_lone_16 : decode cX9_lone 16 = .ok (.goto 5, 3) := by decide +kernel
theorem dX9_lone_19 : decode cX9_lone 19 = .ok (.bipush (-2), 2) := by decide +kernel
theorem dX9_lone_21 : decode cX9_lone 21 = .ok (.ireturn, 1) := by decide +kernel
theorem dX9_tenure_0 : decode cX9_tenure 0 = .ok (.aload_n 0, 1) := by decide +kernel
theorem dX9_tenure_1 : decode cX9_tenure 1 = .ok (.getfield 75, 3) := by decide +kernel
theorem dX9_tenure_4 : decode cX9_tenure 4 = .ok (.iload_n 1, 1) := by decide +kernel
theorem dX9_tenure_5 : decode cX9_tenure 5 = .ok (.invokevirtual 137, 3) := by decide +kernel
theorem dX9_tenure_8 : decode cX9_tenure 8 = .ok (.ifCond .ne 6, 3) := by decide +kernel
theorem dX9_tenure_11 : decode cX9_tenure 11 = .ok (.bipush (-2), 2) := by decide +kernel
theorem dX9_tenure_13 : decode cX9_tenure 13 = .ok (.ireturn, 1) := by decide +kernel
theorem dX9_tenure_14 : decode cX9_tenure 14 = .ok (.iconst (-1), 1) := by decide +kernel
theorem dX9_tenure_15 : decode cX9_tenure 15 = .ok (.istore_n 2, 1) := by decide +kernel
theorem dX9_tenure_16 : decode cX9_tenure 16 = .ok (.iconst 0, 1) := by decide +kernel
theorem dX9_tenure_17 : decode cX9_tenure 17 = .ok (.istore_n 3, 1) := by decide +kernel
theorem dX9_tenure_18 : decode cX9_tenure 18 = .ok (.iconst 0, 1) := by decide +kernel
theorem dX9_tenure_19 : decode cX9_tenure 19 = .ok (.istore 4, 2) := by decide +kernel
theorem dX9_tenure_21 : decode cX9_tenure 21 = .ok (.iload 4, 2) := by decide +kernel
theorem dX9_tenure_23 : decode cX9_tenure 23 = .ok (.aload_n 0, 1) := by decide +kernel
theorem dX9_tenure_24 : decode cX9_tenure 24 = .ok (.getfield 75, 3) := by decide +kernel
theorem dX9_tenure_27 : decode cX9_tenure 27 = .ok (.getfield 264, 3) := by decide +kernel
theorem dX9_tenure_30 : decode cX9_tenure 30 = .ok (.if_icmp .ge 49, 3) := by decide +kernel
theorem dX9_tenure_33 : decode cX9_tenure 33 = .ok (.aload_n 0, 1) := by decide +kernel
theorem dX9_tenure_34 : decode cX9_tenure 34 = .ok (.getfield 75, 3) := by decide +kernel
theorem dX9_tenure_37 : decode cX9_tenure 37 = .ok (.iload 4, 2) := by decide +kernel
theorem dX9_tenure_39 : decode cX9_tenure 39 = .ok (.invokevirtual 283, 3) := by decide +kernel
theorem dX9_tenure_42 : decode cX9_tenure 42 = .ok (.invokestatic 240, 3) := by decide +kernel
theorem dX9_tenure_45 : decode cX9_tenure 45 = .ok (.istore 5, 2) := by decide +kernel
theorem dX9_tenure_47 : decode cX9_tenure 47 = .ok (.aload_n 0, 1) := by decide +kernel
theorem dX9_tenure_48 : decode cX9_tenure 48 = .ok (.getfield 75, 3) := by decide +kernel
theorem dX9_tenure_51 : decode cX9_tenure 51 = .ok (.getfield 108, 3) := by decide +kernel
theorem dX9_tenure_54 : decode cX9_tenure 54 = .ok (.iload 4, 2) := by decide +kernel
theorem dX9_tenure_56 : decode cX9_tenure 56 = .ok (.iaload, 1) := by decide +kernel
theorem dX9_tenure_57 : decode cX9_tenure 57 = .ok (.iload_n 1, 1) := by decide +kernel
theorem dX9_tenure_58 : decode cX9_tenure 58 = .ok (.if_icmp .ne 15, 3) := by decide +kernel
theorem dX9_tenure_61 : decode cX9_tenure 61 = .ok (.iload 5, 2) := by decide +kernel
theorem dX9_tenure_63 : decode cX9_tenure 63 = .ok (.iload_n 3, 1) := by decide +kernel
theorem dX9_tenure_64 : decode cX9_tenure 64 = .ok (.if_icmp .le 9, 3) := by decide +kernel
theorem dX9_tenure_67 : decode cX9_tenure 67 = .ok (.iload 5, 2) := by decide +kernel
theorem dX9_tenure_69 : decode cX9_tenure 69 = .ok (.istore_n 3, 1) := by decide +kernel
theorem dX9_tenure_70 : decode cX9_tenure 70 = .ok (.iload 4, 2) := by decide +kernel
theorem dX9_tenure_72 : decode cX9_tenure 72 = .ok (.istore_n 2, 1) := by decide +kernel
theorem dX9_tenure_73 : decode cX9_tenure 73 = .ok (.iinc 4 1, 3) := by decide +kernel
theorem dX9_tenure_76 : decode cX9_tenure 76 = .ok (.goto (-55), 3) := by decide +kernel
theorem dX9_tenure_79 : decode cX9_tenure 79 = .ok (.iload_n 2, 1) := by decide +kernel
theorem dX9_tenure_80 : decode cX9_tenure 80 = .ok (.ireturn, 1) := by decide +kernel
theorem dX9_clear_0 : decode cX9_clear 0 = .ok (.aload_n 0, 1) := by decide +kernel
theorem dX9_clear_1 : decode cX9_clear 1 = .ok (.getfield 75, 3) := by decide +kernel
theorem dX9_clear_4 : decode cX9_clear 4 = .ok (.iload_n 1, 1) := by decide +kernel
theorem dX9_clear_5 : decode cX9_clear 5 = .ok (.invokevirtual 137, 3) := by decide +kernel
theorem dX9_clear_8 : decode cX9_clear 8 = .ok (.ifCond .eq 14, 3) := by decide +kernel
theorem dX9_clear_11 : decode cX9_clear 11 = .ok (.aload_n 0, 1) := by decide +kernel
theorem dX9_clear_12 : decode cX9_clear 12 = .ok (.getfield 75, 3) := by decide +kernel
theorem dX9_clear_15 : decode cX9_clear 15 = .ok (.iload_n 1, 1) := by decide +kernel
theorem dX9_clear_16 : decode cX9_clear 16 = .ok (.invokevirtual 286, 3) := by decide +kernel
theorem dX9_clear_19 : decode cX9_clear 19 = .ok (.goto 5, 3) := by decide +kernel
theorem dX9_clear_22 : decode cX9_clear 22 = .ok (.bipush (-2), 2) := by decide +kernel
theorem dX9_clear_24 : decode cX9_clear 24 = .ok (.ireturn, 1) := by decide +kernel
theorem dX9_run_0 : decode cX9_run 0 = .ok (.aload_n 0, 1) := by decide +kernel
theorem dX9_run_1 : decode cX9_run 1 = .ok (.getfield 75, 3) := by decide +kernel
theorem dX9_run_4 : decode cX9_run 4 = .ok (.iload_n 1, 1) := by decide +kernel
theorem dX9_run_5 : decode cX9_run 5 = .ok (.invokevirtual 137, 3) := by decide +kernel
theorem dX9_run_8 : decode cX9_run 8 = .ok (.ifCond .eq 17, 3) := by decide +kernel
theorem dX9_run_11 : decode cX9_run 11 = .ok (.aload_n 0, 1) := by decide +kernel
theorem dX9_run_12 : decode cX9_run 12 = .ok (.getfield 75, 3) := by decide +kernel
theorem dX9_run_15 : decode cX9_run 15 = .ok (.iload_n 1, 1) := by decide +kernel
theorem dX9_run_16 : decode cX9_run 16 = .ok (.invokevirtual 286, 3) := by decide +kernel
theorem dX9_run_19 : decode cX9_run 19 = .ok (.invokestatic 183, 3) := by decide +kernel
theorem dX9_run_22 : decode cX9_run 22 = .ok (.goto 5, 3) := by decide +kernel
theorem dX9_run_25 : decode cX9_run 25 = .ok (.bipush (-2), 2) := by decide +kernel
theorem dX9_run_27 : decode cX9_run 27 = .ok (.ireturn, 1) := by decide +kernel
theorem dX9_both_0 : decode cX9_both 0 = .ok (.aload_n 0, 1) := by decide +kernel
theorem dX9_both_1 : decode cX9_both 1 = .ok (.getfield 75, 3) := by decide +kernel
theorem dX9_both_4 : decode cX9_both 4 = .ok (.invokevirtual 130, 3) := by decide +kernel
theorem dX9_both_7 : decode cX9_both 7 = .ok (.ifCond .eq 37, 3) := by decide +kernel
theorem dX9_both_10 : decode cX9_both 10 = .ok (.aload_n 0, 1) := by decide +kernel
theorem dX9_both_11 : decode cX9_both 11 = .ok (.getfield 75, 3) := by decide +kernel
theorem dX9_both_14 : decode cX9_both 14 = .ok (.aload_n 0, 1) := by decide +kernel
theorem dX9_both_15 : decode cX9_both 15 = .ok (.getfield 75, 3) := by decide +kernel
theorem dX9_both_18 : decode cX9_both 18 = .ok (.iconst 0, 1) := by decide +kernel
theorem dX9_both_19 : decode cX9_both 19 = .ok (.invokevirtual 140, 3) := by decide +kernel
theorem dX9_both_22 : decode cX9_both 22 = .ok (.invokevirtual 144, 3) := by decide +kernel
theorem dX9_both_25 : decode cX9_both 25 = .ok (.aload_n 0, 1) := by decide +kernel
theorem dX9_both_26 : decode cX9_both 26 = .ok (.getfield 75, 3) := by decide +kernel
theorem dX9_both_29 : decode cX9_both 29 = .ok (.aload_n 0, 1) := by decide +kernel
theorem dX9_both_30 : decode cX9_both 30 = .ok (.getfield 75, 3) := by decide +kernel
theorem dX9_both_33 : decode cX9_both 33 = .ok (.iconst 1, 1) := by decide +kernel
theorem dX9_both_34 : decode cX9_both 34 = .ok (.invokevirtual 140, 3) := by decide +kernel
theorem dX9_both_37 : decode cX9_both 37 = .ok (.invokevirtual 144, 3) := by decide +kernel
theorem dX9_both_40 : decode cX9_both 40 = .ok (.iand, 1) := by decide +kernel
theorem dX9_both_41 : decode cX9_both 41 = .ok (.goto 5, 3) := by decide +kernel
theorem dX9_both_44 : decode cX9_both 44 = .ok (.bipush (-2), 2) := by decide +kernel
theorem dX9_both_46 : decode cX9_both 46 = .ok (.ireturn, 1) := by decide +kernel
theorem dX9_fewestAugurs_0 : decode cX9_fewestAugurs 0 = .ok (.aload_n 0, 1) := by decide +kernel
theorem dX9_fewestAugurs_1 : decode cX9_fewestAugurs 1 = .ok (.getfield 75, 3) := by decide +kernel
theorem dX9_fewestAugurs_4 : decode cX9_fewestAugurs 4 = .ok (.iload_n 1, 1) := by decide +kernel
theorem dX9_fewestAugurs_5 : decode cX9_fewestAugurs 5 = .ok (.invokevirtual 140, 3) := by decide +kernel
theorem dX9_fewestAugurs_8 : decode cX9_fewestAugurs 8 = .ok (.istore_n 2, 1) := by decide +kernel
theorem dX9_fewestAugurs_9 : decode cX9_fewestAugurs 9 = .ok (.aload_n 0, 1) := by decide +kernel
theorem dX9_fewestAugurs_10 : decode cX9_fewestAugurs 10 = .ok (.getfield 75, 3) := by decide +kernel
theorem dX9_fewestAugurs_13 : decode cX9_fewestAugurs 13 = .ok (.iload_n 2, 1) := by decide +kernel
theorem dX9_fewestAugurs_14 : decode cX9_fewestAugurs 14 = .ok (.invokevirtual 144, 3) := by decide +kernel
theorem dX9_fewestAugurs_17 : decode cX9_fewestAugurs 17 = .ok (.istore_n 3, 1) := by decide +kernel
theorem dX9_fewestAugurs_18 : decode cX9_fewestAugurs 18 = .ok (.iload_n 2, 1) := by decide +kernel
theorem dX9_fewestAugurs_19 : decode cX9_fewestAugurs 19 = .ok (.istore 4, 2) := by decide +kernel
theorem dX9_fewestAugurs_21 : decode cX9_fewestAugurs 21 = .ok (.iconst 0, 1) := by decide +kernel
theorem dX9_fewestAugurs_22 : decode cX9_fewestAugurs 22 = .ok (.istore 5, 2) := by decide +kernel
theorem dX9_fewestAugurs_24 : decode cX9_fewestAugurs 24 = .ok (.iload 5, 2) := by decide +kernel
theorem dX9_fewestAugurs_26 : decode cX9_fewestAugurs 26 = .ok (.iload_n 2, 1) := by decide +kernel
theorem dX9_fewestAugurs_27 : decode cX9_fewestAugurs 27 = .ok (.if_icmp .ge 48, 3) := by decide +kernel
theorem dX9_fewestAugurs_30 : decode cX9_fewestAugurs 30 = .ok (.iload 5, 2) := by decide +kernel
theorem dX9_fewestAugurs_32 : decode cX9_fewestAugurs 32 = .ok (.iload_n 2, 1) := by decide +kernel
theorem dX9_fewestAugurs_33 : decode cX9_fewestAugurs 33 = .ok (.iand, 1) := by decide +kernel
theorem dX9_fewestAugurs_34 : decode cX9_fewestAugurs 34 = .ok (.iload 5, 2) := by decide +kernel
theorem dX9_fewestAugurs_36 : decode cX9_fewestAugurs 36 = .ok (.if_icmp .ne 33, 3) := by decide +kernel
theorem dX9_fewestAugurs_39 : decode cX9_fewestAugurs 39 = .ok (.iload 5, 2) := by decide +kernel
theorem dX9_fewestAugurs_41 : decode cX9_fewestAugurs 41 = .ok (.invokestatic 240, 3) := by decide +kernel
theorem dX9_fewestAugurs_44 : decode cX9_fewestAugurs 44 = .ok (.iload 4, 2) := by decide +kernel
theorem dX9_fewestAugurs_46 : decode cX9_fewestAugurs 46 = .ok (.invokestatic 240, 3) := by decide +kernel
theorem dX9_fewestAugurs_49 : decode cX9_fewestAugurs 49 = .ok (.if_icmp .ge 20, 3) := by decide +kernel
theorem dX9_fewestAugurs_52 : decode cX9_fewestAugurs 52 = .ok (.aload_n 0, 1) := by decide +kernel
theorem dX9_fewestAugurs_53 : decode cX9_fewestAugurs 53 = .ok (.getfield 75, 3) := by decide +kernel
theorem dX9_fewestAugurs_56 : decode cX9_fewestAugurs 56 = .ok (.iload 5, 2) := by decide +kernel
theorem dX9_fewestAugurs_58 : decode cX9_fewestAugurs 58 = .ok (.invokevirtual 144, 3) := by decide +kernel
theorem dX9_fewestAugurs_61 : decode cX9_fewestAugurs 61 = .ok (.iload_n 3, 1) := by decide +kernel
theorem dX9_fewestAugurs_62 : decode cX9_fewestAugurs 62 = .ok (.if_icmp .ne 7, 3) := by decide +kernel
theorem dX9_fewestAugurs_65 : decode cX9_fewestAugurs 65 = .ok (.iload 5, 2) := by decide +kernel
theorem dX9_fewestAugurs_67 : decode cX9_fewestAugurs 67 = .ok (.istore 4, 2) := by decide +kernel
theorem dX9_fewestAugurs_69 : decode cX9_fewestAugurs 69 = .ok (.iinc 5 1, 3) := by decide +kernel
theorem dX9_fewestAugurs_72 : decode cX9_fewestAugurs 72 = .ok (.goto (-48), 3) := by decide +kernel
theorem dX9_fewestAugurs_75 : decode cX9_fewestAugurs 75 = .ok (.iload 4, 2) := by decide +kernel
theorem dX9_fewestAugurs_77 : decode cX9_fewestAugurs 77 = .ok (.ireturn, 1) := by decide +kernel
theorem dX9_loneAugurs_0 : decode cX9_loneAugurs 0 = .ok (.aload_n 0, 1) := by decide +kernel
theorem dX9_loneAugurs_1 : decode cX9_loneAugurs 1 = .ok (.getfield 75, 3) := by decide +kernel
theorem dX9_loneAugurs_4 : decode cX9_loneAugurs 4 = .ok (.iload_n 1, 1) := by decide +kernel
theorem dX9_loneAugurs_5 : decode cX9_loneAugurs 5 = .ok (.invokevirtual 140, 3) := by decide +kernel
theorem dX9_loneAugurs_8 : decode cX9_loneAugurs 8 = .ok (.istore_n 2, 1) := by decide +kernel
theorem dX9_loneAugurs_9 : decode cX9_loneAugurs 9 = .ok (.aload_n 0, 1) := by decide +kernel
theorem dX9_loneAugurs_10 : decode cX9_loneAugurs 10 = .ok (.getfield 75, 3) := by decide +kernel
theorem dX9_loneAugurs_13 : decode cX9_loneAugurs 13 = .ok (.iload_n 2, 1) := by decide +kernel
theorem dX9_loneAugurs_14 : decode cX9_loneAugurs 14 = .ok (.invokevirtual 144, 3) := by decide +kernel
theorem dX9_loneAugurs_17 : decode cX9_loneAugurs 17 = .ok (.istore_n 3, 1) := by decide +kernel
theorem dX9_loneAugurs_18 : decode cX9_loneAugurs 18 = .ok (.iconst 0, 1) := by decide +kernel
theorem dX9_loneAugurs_19 : decode cX9_loneAugurs 19 = .ok (.istore 4, 2) := by decide +kernel
theorem dX9_loneAugurs_21 : decode cX9_loneAugurs 21 = .ok (.iconst 0, 1) := by decide +kernel
theorem dX9_loneAugurs_22 : decode cX9_loneAugurs 22 = .ok (.istore 5, 2) := by decide +kernel
theorem dX9_loneAugurs_24 : decode cX9_loneAugurs 24 = .ok (.iload 5, 2) := by decide +kernel
theorem dX9_loneAugurs_26 : decode cX9_loneAugurs 26 = .ok (.aload_n 0, 1) := by decide +kernel
theorem dX9_loneAugurs_27 : decode cX9_loneAugurs 27 = .ok (.getfield 75, 3) := by decide +kernel
theorem dX9_loneAugurs_30 : decode cX9_loneAugurs 30 = .ok (.getfield 264, 3) := by decide +kernel
theorem dX9_loneAugurs_33 : decode cX9_loneAugurs 33 = .ok (.if_icmp .ge 46, 3) := by decide +kernel
theorem dX9_loneAugurs_36 : decode cX9_loneAugurs 36 = .ok (.iconst 1, 1) := by decide +kernel
theorem dX9_loneAugurs_37 : decode cX9_loneAugurs 37 = .ok (.iload 5, 2) := by decide +kernel
theorem dX9_loneAugurs_39 : decode cX9_loneAugurs 39 = .ok (.ishl, 1) := by decide +kernel
theorem dX9_loneAugurs_40 : decode cX9_loneAugurs 40 = .ok (.istore 6, 2) := by decide +kernel
theorem dX9_loneAugurs_42 : decode cX9_loneAugurs 42 = .ok (.iload_n 2, 1) := by decide +kernel
theorem dX9_loneAugurs_43 : decode cX9_loneAugurs 43 = .ok (.iload 6, 2) := by decide +kernel
theorem dX9_loneAugurs_45 : decode cX9_loneAugurs 45 = .ok (.iand, 1) := by decide +kernel
theorem dX9_loneAugurs_46 : decode cX9_loneAugurs 46 = .ok (.ifCond .eq 27, 3) := by decide +kernel
theorem dX9_loneAugurs_49 : decode cX9_loneAugurs 49 = .ok (.aload_n 0, 1) := by decide +kernel
theorem dX9_loneAugurs_50 : decode cX9_loneAugurs 50 = .ok (.getfield 75, 3) := by decide +kernel
theorem dX9_loneAugurs_53 : decode cX9_loneAugurs 53 = .ok (.iload_n 2, 1) := by decide +kernel
theorem dX9_loneAugurs_54 : decode cX9_loneAugurs 54 = .ok (.iload 6, 2) := by decide +kernel
theorem dX9_loneAugurs_56 : decode cX9_loneAugurs 56 = .ok (.iconst (-1), 1) := by decide +kernel
theorem dX9_loneAugurs_57 : decode cX9_loneAugurs 57 = .ok (.ixor, 1) := by decide +kernel
theorem dX9_loneAugurs_58 : decode cX9_loneAugurs 58 = .ok (.iand, 1) := by decide +kernel
theorem dX9_loneAugurs_59 : decode cX9_loneAugurs 59 = .ok (.invokevirtual 144, 3) := by decide +kernel
theorem dX9_loneAugurs_62 : decode cX9_loneAugurs 62 = .ok (.iload_n 3, 1) := by decide +kernel
theorem dX9_loneAugurs_63 : decode cX9_loneAugurs 63 = .ok (.if_icmp .eq 10, 3) := by decide +kernel
theorem dX9_loneAugurs_66 : decode cX9_loneAugurs 66 = .ok (.iload 4, 2) := by decide +kernel
theorem dX9_loneAugurs_68 : decode cX9_loneAugurs 68 = .ok (.iload 6, 2) := by decide +kernel
theorem dX9_loneAugurs_70 : decode cX9_loneAugurs 70 = .ok (.ior, 1) := by decide +kernel
theorem dX9_loneAugurs_71 : decode cX9_loneAugurs 71 = .ok (.istore 4, 2) := by decide +kernel
theorem dX9_loneAugurs_73 : decode cX9_loneAugurs 73 = .ok (.iinc 5 1, 3) := by decide +kernel
theorem dX9_loneAugurs_76 : decode cX9_loneAugurs 76 = .ok (.goto (-52), 3) := by decide +kernel
theorem dX9_loneAugurs_79 : decode cX9_loneAugurs 79 = .ok (.iload 4, 2) := by decide +kernel
theorem dX9_loneAugurs_81 : decode cX9_loneAugurs 81 = .ok (.ireturn, 1) := by decide +kernel
theorem dX9_falls_0 : decode cX9_falls 0 = .ok (.aload_n 0, 1) := by decide +kernel
theorem dX9_falls_1 : decode cX9_falls 1 = .ok (.getfield 75, 3) := by decide +kernel
theorem dX9_falls_4 : decode cX9_falls 4 = .ok (.iload_n 1, 1) := by decide +kernel
theorem dX9_falls_5 : decode cX9_falls 5 = .ok (.invokevirtual 147, 3) := by decide +kernel
theorem dX9_falls_8 : decode cX9_falls 8 = .ok (.ifCond .ne 6, 3) := by decide +kernel
theorem dX9_falls_11 : decode cX9_falls 11 = .ok (.bipush (-2), 2) := by decide +kernel
theorem dX9_falls_13 : decode cX9_falls 13 = .ok (.ireturn, 1) := by decide +kernel
theorem dX9_falls_14 : decode cX9_falls 14 = .ok (.aload_n 0, 1) := by decide +kernel
theorem dX9_falls_15 : decode cX9_falls 15 = .ok (.getfield 26, 3) := by decide +kernel
theorem dX9_falls_18 : decode cX9_falls 18 = .ok (.aload_n 0, 1) := by decide +kernel
theorem dX9_falls_19 : decode cX9_falls 19 = .ok (.getfield 75, 3) := by decide +kernel
theorem dX9_falls_22 : decode cX9_falls 22 = .ok (.invokevirtual 153, 3) := by decide +kernel
theorem dX9_falls_25 : decode cX9_falls 25 = .ok (.aload_n 0, 1) := by decide +kernel
theorem dX9_falls_26 : decode cX9_falls 26 = .ok (.iload_n 1, 1) := by decide +kernel
theorem dX9_falls_27 : decode cX9_falls 27 = .ok (.invokevirtual 289, 3) := by decide +kernel
theorem dX9_falls_30 : decode cX9_falls 30 = .ok (.ireturn, 1) := by decide +kernel
theorem dX9_worst_0 : decode cX9_worst 0 = .ok (.aload_n 0, 1) := by decide +kernel
theorem dX9_worst_1 : decode cX9_worst 1 = .ok (.getfield 75, 3) := by decide +kernel
theorem dX9_worst_4 : decode cX9_worst 4 = .ok (.invokevirtual 130, 3) := by decide +kernel
theorem dX9_worst_7 : decode cX9_worst 7 = .ok (.ifCond .ne 6, 3) := by decide +kernel
theorem dX9_worst_10 : decode cX9_worst 10 = .ok (.bipush (-2), 2) := by decide +kernel
theorem dX9_worst_12 : decode cX9_worst 12 = .ok (.ireturn, 1) := by decide +kernel
theorem dX9_worst_13 : decode cX9_worst 13 = .ok (.aload_n 0, 1) := by decide +kernel
theorem dX9_worst_14 : decode cX9_worst 14 = .ok (.getfield 26, 3) := by decide +kernel
theorem dX9_worst_17 : decode cX9_worst 17 = .ok (.aload_n 0, 1) := by decide +kernel
theorem dX9_worst_18 : decode cX9_worst 18 = .ok (.getfield 75, 3) := by decide +kernel
theorem dX9_worst_21 : decode cX9_worst 21 = .ok (.invokevirtual 153, 3) := by decide +kernel
theorem dX9_worst_24 : decode cX9_worst 24 = .ok (.iconst (-1), 1) := by decide +kernel
theorem dX9_worst_25 : decode cX9_worst 25 = .ok (.istore_n 1, 1) := by decide +kernel
theorem dX9_worst_26 : decode cX9_worst 26 = .ok (.iconst 0, 1) := by decide +kernel
theorem dX9_worst_27 : decode cX9_worst 27 = .ok (.istore_n 2, 1) := by decide +kernel
theorem dX9_worst_28 : decode cX9_worst 28 = .ok (.iconst 0, 1) := by decide +kernel
theorem dX9_worst_29 : decode cX9_worst 29 = .ok (.istore_n 3, 1) := by decide +kernel
theorem dX9_worst_30 : decode cX9_worst 30 = .ok (.iload_n 3, 1) := by decide +kernel
theorem dX9_worst_31 : decode cX9_worst 31 = .ok (.aload_n 0, 1) := by decide +kernel
theorem dX9_worst_32 : decode cX9_worst 32 = .ok (.getfield 75, 3) := by decide +kernel
theorem dX9_worst_35 : decode cX9_worst 35 = .ok (.getfield 160, 3) := by decide +kernel
theorem dX9_worst_38 : decode cX9_worst 38 = .ok (.if_icmp .ge 34, 3) := by decide +kernel
theorem dX9_worst_41 : decode cX9_worst 41 = .ok (.aload_n 0, 1) := by decide +kernel
theorem dX9_worst_42 : decode cX9_worst 42 = .ok (.getfield 75, 3) := by decide +kernel
theorem dX9_worst_45 : decode cX9_worst 45 = .ok (.aload_n 0, 1) := by decide +kernel
theorem dX9_worst_46 : decode cX9_worst 46 = .ok (.iload_n 3, 1) := by decide +kernel
theorem dX9_worst_47 : decode cX9_worst 47 = .ok (.invokevirtual 289, 3) := by decide +kernel
theorem dX9_worst_50 : decode cX9_worst 50 = .ok (.invokevirtual 212, 3) := by decide +kernel
theorem dX9_worst_53 : decode cX9_worst 53 = .ok (.istore 4, 2) := by decide +kernel
theorem dX9_worst_55 : decode cX9_worst 55 = .ok (.iload 4, 2) := by decide +kernel
theorem dX9_worst_57 : decode cX9_worst 57 = .ok (.iload_n 2, 1) := by decide +kernel
theorem dX9_worst_58 : decode cX9_worst 58 = .ok (.if_icmp .le 8, 3) := by decide +kernel
theorem dX9_worst_61 : decode cX9_worst 61 = .ok (.iload 4, 2) := by decide +kernel
theorem dX9_worst_63 : decode cX9_worst 63 = .ok (.istore_n 2, 1) := by decide +kernel
theorem dX9_worst_64 : decode cX9_worst 64 = .ok (.iload_n 3, 1) := by decide +kernel
theorem dX9_worst_65 : decode cX9_worst 65 = .ok (.istore_n 1, 1) := by decide +kernel
theorem dX9_worst_66 : decode cX9_worst 66 = .ok (.iinc 3 1, 3) := by decide +kernel
theorem dX9_worst_69 : decode cX9_worst 69 = .ok (.goto (-39), 3) := by decide +kernel
theorem dX9_worst_72 : decode cX9_worst 72 = .ok (.iload_n 1, 1) := by decide +kernel
theorem dX9_worst_73 : decode cX9_worst 73 = .ok (.ireturn, 1) := by decide +kernel
theorem dX9_needs_0 : decode cX9_needs 0 = .ok (.aload_n 0, 1) := by decide +kernel
theorem dX9_needs_1 : decode cX9_needs 1 = .ok (.getfield 75, 3) := by decide +kernel
theorem dX9_needs_4 : decode cX9_needs 4 = .ok (.iload_n 1, 1) := by decide +kernel
theorem dX9_needs_5 : decode cX9_needs 5 = .ok (.invokevirtual 118, 3) := by decide +kernel
theorem dX9_needs_8 : decode cX9_needs 8 = .ok (.ifCond .eq 14, 3) := by decide +kernel
theorem dX9_needs_11 : decode cX9_needs 11 = .ok (.aload_n 0, 1) := by decide +kernel
theorem dX9_needs_12 : decode cX9_needs 12 = .ok (.getfield 75, 3) := by decide +kernel
theorem dX9_needs_15 : decode cX9_needs 15 = .ok (.iload_n 1, 1) := by decide +kernel
theorem dX9_needs_16 : decode cX9_needs 16 = .ok (.invokevirtual 237, 3) := by decide +kernel
theorem dX9_needs_19 : decode cX9_needs 19 = .ok (.goto 5, 3) := by decide +kernel
theorem dX9_needs_22 : decode cX9_needs 22 = .ok (.bipush (-2), 2) := by decide +kernel
theorem dX9_needs_24 : decode cX9_needs 24 = .ok (.ireturn, 1) := by decide +kernel
theorem dX9_heirs_0 : decode cX9_heirs 0 = .ok (.aload_n 0, 1) := by decide +kernel
theorem dX9_heirs_1 : decode cX9_heirs 1 = .ok (.getfield 75, 3) := by decide +kernel
theorem dX9_heirs_4 : decode cX9_heirs 4 = .ok (.iload_n 1, 1) := by decide +kernel
theorem dX9_heirs_5 : decode cX9_heirs 5 = .ok (.invokevirtual 118, 3) := by decide +kernel
theorem dX9_heirs_8 : decode cX9_heirs 8 = .ok (.ifCond .eq 14, 3) := by decide +kernel
theorem dX9_heirs_11 : decode cX9_heirs 11 = .ok (.aload_n 0, 1) := by decide +kernel
theorem dX9_heirs_12 : decode cX9_heirs 12 = .ok (.getfield 75, 3) := by decide +kernel
theorem dX9_heirs_15 : decode cX9_heirs 15 = .ok (.iload_n 1, 1) := by decide +kernel
theorem dX9_heirs_16 : decode cX9_heirs 16 = .ok (.invokevirtual 292, 3) := by decide +kernel
theorem dX9_heirs_19 : decode cX9_heirs 19 = .ok (.goto 5, 3) := by decide +kernel
theorem dX9_heirs_22 : decode cX9_heirs 22 = .ok (.bipush (-2), 2) := by decide +kernel
theorem dX9_heirs_24 : decode cX9_heirs 24 = .ok (.ireturn, 1) := by decide +kernel
theorem dX9_fallingWith_0 : decode cX9_fallingWith 0 = .ok (.aload_n 0, 1) := by decide +kernel
theorem dX9_fallingWith_1 : decode cX9_fallingWith 1 = .ok (.getfield 26, 3) := by decide +kernel
theorem dX9_fallingWith_4 : decode cX9_fallingWith 4 = .ok (.aload_n 0, 1) := by decide +kernel
theorem dX9_fallingWith_5 : decode cX9_fallingWith 5 = .ok (.getfield 75, 3) := by decide +kernel
theorem dX9_fallingWith_8 : decode cX9_fallingWith 8 = .ok (.iload_n 1, 1) := by decide +kernel
theorem dX9_fallingWith_9 : decode cX9_fallingWith 9 = .ok (.invokevirtual 195, 3) := by decide +kernel
theorem dX9_fallingWith_12 : decode cX9_fallingWith 12 = .ok (.istore_n 2, 1) := by decide +kernel
theorem dX9_fallingWith_13 : decode cX9_fallingWith 13 = .ok (.iload_n 2, 1) := by decide +kernel
theorem dX9_fallingWith_14 : decode cX9_fallingWith 14 = .ok (.iconst (-1), 1) := by decide +kernel
theorem dX9_fallingWith_15 : decode cX9_fallingWith 15 = .ok (.if_icmp .ne 7, 3) := by decide +kernel
theorem dX9_fallingWith_18 : decode cX9_fallingWith 18 = .ok (.iconst 0, 1) := by decide +kernel
theorem dX9_fallingWith_19 : decode cX9_fallingWith 19 = .ok (.goto 27, 3) := by decide +kernel
theorem dX9_fallingWith_22 : decode cX9_fallingWith 22 = .ok (.iconst 1, 1) := by decide +kernel
theorem dX9_fallingWith_23 : decode cX9_fallingWith 23 = .ok (.iload_n 2, 1) := by decide +kernel
theorem dX9_fallingWith_24 : decode cX9_fallingWith 24 = .ok (.ishl, 1) := by decide +kernel
theorem dX9_fallingWith_25 : decode cX9_fallingWith 25 = .ok (.aload_n 0, 1) := by decide +kernel
theorem dX9_fallingWith_26 : decode cX9_fallingWith 26 = .ok (.getfield 75, 3) := by decide +kernel
theorem dX9_fallingWith_29 : decode cX9_fallingWith 29 = .ok (.iload_n 2, 1) := by decide +kernel
theorem dX9_fallingWith_30 : decode cX9_fallingWith 30 = .ok (.invokevirtual 292, 3) := by decide +kernel
theorem dX9_fallingWith_33 : decode cX9_fallingWith 33 = .ok (.ior, 1) := by decide +kernel
theorem dX9_fallingWith_34 : decode cX9_fallingWith 34 = .ok (.aload_n 0, 1) := by decide +kernel
theorem dX9_fallingWith_35 : decode cX9_fallingWith 35 = .ok (.getfield 26, 3) := by decide +kernel
theorem dX9_fallingWith_38 : decode cX9_fallingWith 38 = .ok (.aload_n 0, 1) := by decide +kernel
theorem dX9_fallingWith_39 : decode cX9_fallingWith 39 = .ok (.getfield 75, 3) := by decide +kernel
theorem dX9_fallingWith_42 : decode cX9_fallingWith 42 = .ok (.invokevirtual 205, 3) := by decide +kernel
theorem dX9_fallingWith_45 : decode cX9_fallingWith 45 = .ok (.iand, 1) := by decide +kernel
theorem dX9_fallingWith_46 : decode cX9_fallingWith 46 = .ok (.ireturn, 1) := by decide +kernel
theorem dX9_fits_0 : decode cX9_fits 0 = .ok (.aload_n 0, 1) := by decide +kernel
theorem dX9_fits_1 : decode cX9_fits 1 = .ok (.iload_n 1, 1) := by decide +kernel
theorem dX9_fits_2 : decode cX9_fits 2 = .ok (.invokevirtual 295, 3) := by decide +kernel
theorem dX9_fits_5 : decode cX9_fits 5 = .ok (.istore_n 2, 1) := by decide +kernel
theorem dX9_fits_6 : decode cX9_fits 6 = .ok (.iload_n 2, 1) := by decide +kernel
theorem dX9_fits_7 : decode cX9_fits 7 = .ok (.ifCond .ge 7, 3) := by decide +kernel
theorem dX9_fits_10 : decode cX9_fits 10 = .ok (.iload_n 2, 1) := by decide +kernel
theorem dX9_fits_11 : decode cX9_fits 11 = .ok (.goto 10, 3) := by decide +kernel
theorem dX9_fits_14 : decode cX9_fits 14 = .ok (.aload_n 0, 1) := by decide +kernel
theorem dX9_fits_15 : decode cX9_fits 15 = .ok (.getfield 53, 3) := by decide +kernel
theorem dX9_fits_18 : decode cX9_fits 18 = .ok (.getfield 298, 3) := by decide +kernel
theorem dX9_fits_21 : decode cX9_fits 21 = .ok (.ireturn, 1) := by decide +kernel
theorem dX9_fed_0 : decode cX9_fed 0 = .ok (.aload_n 0, 1) := by decide +kernel
theorem dX9_fed_1 : decode cX9_fed 1 = .ok (.iload_n 1, 1) := by decide +kernel
theorem dX9_fed_2 : decode cX9_fed 2 = .ok (.invokevirtual 295, 3) := by decide +kernel
theorem dX9_fed_5 : decode cX9_fed 5 = .ok (.istore_n 2, 1) := by decide +kernel
theorem dX9_fed_6 : decode cX9_fed 6 = .ok (.iload_n 2, 1) := by decide +kernel
theorem dX9_fed_7 : decode cX9_fed 7 = .ok (.ifCond .ge 7, 3) := by decide +kernel
theorem dX9_fed_10 : decode cX9_fed 10 = .ok (.iload_n 2, 1) := by decide +kernel
theorem dX9_fed_11 : decode cX9_fed 11 = .ok (.goto 10, 3) := by decide +kernel
theorem dX9_fed_14 : decode cX9_fed 14 = .ok (.aload_n 0, 1) := by decide +kernel
theorem dX9_fed_15 : decode cX9_fed 15 = .ok (.getfield 53, 3) := by decide +kernel
theorem dX9_fed_18 : decode cX9_fed 18 = .ok (.getfield 301, 3) := by decide +kernel
theorem dX9_fed_21 : decode cX9_fed 21 = .ok (.ireturn, 1) := by decide +kernel
theorem dX9_starved_0 : decode cX9_starved 0 = .ok (.aload_n 0, 1) := by decide +kernel
theorem dX9_starved_1 : decode cX9_starved 1 = .ok (.iload_n 1, 1) := by decide +kernel
theorem dX9_starved_2 : decode cX9_starved 2 = .ok (.invokevirtual 295, 3) := by decide +kernel
theorem dX9_starved_5 : decode cX9_starved 5 = .ok (.istore_n 2, 1) := by decide +kernel
theorem dX9_starved_6 : decode cX9_starved 6 = .ok (.iload_n 2, 1) := by decide +kernel
theorem dX9_starved_7 : decode cX9_starved 7 = .ok (.ifCond .ge 7, 3) := by decide +kernel
theorem dX9_starved_10 : decode cX9_starved 10 = .ok (.iload_n 2, 1) := by decide +kernel
theorem dX9_starved_11 : decode cX9_starved 11 = .ok (.goto 10, 3) := by decide +kernel
theorem dX9_starved_14 : decode cX9_starved 14 = .ok (.aload_n 0, 1) := by decide +kernel
theorem dX9_starved_15 : decode cX9_starved 15 = .ok (.getfield 53, 3) := by decide +kernel
theorem dX9_starved_18 : decode cX9_starved 18 = .ok (.getfield 303, 3) := by decide +kernel
theorem dX9_starved_21 : decode cX9_starved 21 = .ok (.ireturn, 1) := by decide +kernel
theorem dX9_least_0 : decode cX9_least 0 = .ok (.aload_n 0, 1) := by decide +kernel
theorem dX9_least_1 : decode cX9_least 1 = .ok (.iload_n 1, 1) := by decide +kernel
theorem dX9_least_2 : decode cX9_least 2 = .ok (.invokevirtual 295, 3) := by decide +kernel
theorem dX9_least_5 : decode cX9_least 5 = .ok (.istore_n 2, 1) := by decide +kernel
theorem dX9_least_6 : decode cX9_least 6 = .ok (.iload_n 2, 1) := by decide +kernel
theorem dX9_least_7 : decode cX9_least 7 = .ok (.ifCond .ge 7, 3) := by decide +kernel
theorem dX9_least_10 : decode cX9_least 10 = .ok (.iload_n 2, 1) := by decide +kernel
theorem dX9_least_11 : decode cX9_least 11 = .ok (.goto 10, 3) := by decide +kernel
theorem dX9_least_14 : decode cX9_least 14 = .ok (.aload_n 0, 1) := by decide +kernel
theorem dX9_least_15 : decode cX9_least 15 = .ok (.getfield 53, 3) := by decide +kernel
theorem dX9_least_18 : decode cX9_least 18 = .ok (.getfield 306, 3) := by decide +kernel
theorem dX9_least_21 : decode cX9_least 21 = .ok (.ireturn, 1) := by decide +kernel
theorem dX9_ask_0 : decode cX9_ask 0 = .ok (.aload_n 0, 1) := by decide +kernel
theorem dX9_ask_1 : decode cX9_ask 1 = .ok (.iload_n 1, 1) := by decide +kernel
theorem dX9_ask_2 : decode cX9_ask 2 = .ok (.invokevirtual 295, 3) := by decide +kernel
theorem dX9_ask_5 : decode cX9_ask 5 = .ok (.istore_n 2, 1) := by decide +kernel
theorem dX9_ask_6 : decode cX9_ask 6 = .ok (.iload_n 2, 1) := by decide +kernel
theorem dX9_ask_7 : decode cX9_ask 7 = .ok (.ifCond .ge 7, 3) := by decide +kernel
theorem dX9_ask_10 : decode cX9_ask 10 = .ok (.iload_n 2, 1) := by decide +kernel
theorem dX9_ask_11 : decode cX9_ask 11 = .ok (.goto 17, 3) := by decide +kernel
theorem dX9_ask_14 : decode cX9_ask 14 = .ok (.aload_n 0, 1) := by decide +kernel
theorem dX9_ask_15 : decode cX9_ask 15 = .ok (.getfield 53, 3) := by decide +kernel
theorem dX9_ask_18 : decode cX9_ask 18 = .ok (.aload_n 0, 1) := by decide +kernel
theorem dX9_ask_19 : decode cX9_ask 19 = .ok (.getfield 75, 3) := by decide +kernel
theorem dX9_ask_22 : decode cX9_ask 22 = .ok (.getfield 160, 3) := by decide +kernel
theorem dX9_ask_25 : decode cX9_ask 25 = .ok (.invokevirtual 309, 3) := by decide +kernel
theorem dX9_ask_28 : decode cX9_ask 28 = .ok (.ireturn, 1) := by decide +kernel
theorem dX9_leaves_0 : decode cX9_leaves 0 = .ok (.aload_n 0, 1) := by decide +kernel
theorem dX9_leaves_1 : decode cX9_leaves 1 = .ok (.iload_n 1, 1) := by decide +kernel
theorem dX9_leaves_2 : decode cX9_leaves 2 = .ok (.invokevirtual 295, 3) := by decide +kernel
theorem dX9_leaves_5 : decode cX9_leaves 5 = .ok (.istore_n 2, 1) := by decide +kernel
theorem dX9_leaves_6 : decode cX9_leaves 6 = .ok (.iload_n 2, 1) := by decide +kernel
theorem dX9_leaves_7 : decode cX9_leaves 7 = .ok (.ifCond .ge 5, 3) := by decide +kernel
theorem dX9_leaves_10 : decode cX9_leaves 10 = .ok (.iload_n 2, 1) := by decide +kernel
theorem dX9_leaves_11 : decode cX9_leaves 11 = .ok (.ireturn, 1) := by decide +kernel
theorem dX9_leaves_12 : decode cX9_leaves 12 = .ok (.aload_n 0, 1) := by decide +kernel
theorem dX9_leaves_13 : decode cX9_leaves 13 = .ok (.getfield 53, 3) := by decide +kernel
theorem dX9_leaves_16 : decode cX9_leaves 16 = .ok (.aload_n 0, 1) := by decide +kernel
theorem dX9_leaves_17 : decode cX9_leaves 17 = .ok (.getfield 75, 3) := by decide +kernel
theorem dX9_leaves_20 : decode cX9_leaves 20 = .ok (.getfield 160, 3) := by decide +kernel
theorem dX9_leaves_23 : decode cX9_leaves 23 = .ok (.invokevirtual 309, 3) := by decide +kernel
theorem dX9_leaves_26 : decode cX9_leaves 26 = .ok (.istore_n 3, 1) := by decide +kernel
theorem dX9_leaves_27 : decode cX9_leaves 27 = .ok (.iload_n 3, 1) := by decide +kernel
theorem dX9_leaves_28 : decode cX9_leaves 28 = .ok (.iconst (-1), 1) := by decide +kernel
theorem dX9_leaves_29 : decode cX9_leaves 29 = .ok (.if_icmp .ne 13, 3) := by decide +kernel
theorem dX9_leaves_32 : decode cX9_leaves 32 = .ok (.aload_n 0, 1) := by decide +kernel
theorem dX9_leaves_33 : decode cX9_leaves 33 = .ok (.getfield 53, 3) := by decide +kernel
theorem dX9_leaves_36 : decode cX9_leaves 36 = .ok (.getfield 298, 3) := by decide +kernel
theorem dX9_leaves_39 : decode cX9_leaves 39 = .ok (.goto 11, 3) := by decide +kernel
theorem dX9_leaves_42 : decode cX9_leaves 42 = .ok (.aload_n 0, 1) := by decide +kernel
theorem dX9_leaves_43 : decode cX9_leaves 43 = .ok (.getfield 53, 3) := by decide +kernel
theorem dX9_leaves_46 : decode cX9_leaves 46 = .ok (.iload_n 3, 1) := by decide +kernel
theorem dX9_leaves_47 : decode cX9_leaves 47 = .ok (.invokevirtual 312, 3) := by decide +kernel
theorem dX9_leaves_50 : decode cX9_leaves 50 = .ok (.ireturn, 1) := by decide +kernel
theorem dX9_lookAtSeen_0 : decode cX9_lookAtSeen 0 = .ok (.iload_n 1, 1) := by decide +kernel
theorem dX9_lookAtSeen_1 : decode cX9_lookAtSeen 1 = .ok (.invokestatic 315, 3) := by decide +kernel
theorem dX9_lookAtSeen_4 : decode cX9_lookAtSeen 4 = .ok (.ifCond .eq 13, 3) := by decide +kernel
theorem dX9_lookAtSeen_7 : decode cX9_lookAtSeen 7 = .ok (.aload_n 0, 1) := by decide +kernel
theorem dX9_lookAtSeen_8 : decode cX9_lookAtSeen 8 = .ok (.getfield 75, 3) := by decide +kernel
theorem dX9_lookAtSeen_11 : decode cX9_lookAtSeen 11 = .ok (.invokevirtual 130, 3) := by decide +kernel
theorem dX9_lookAtSeen_14 : decode cX9_lookAtSeen 14 = .ok (.ifCond .ne 6, 3) := by decide +kernel
theorem dX9_lookAtSeen_17 : decode cX9_lookAtSeen 17 = .ok (.bipush (-2), 2) := by decide +kernel
theorem dX9_lookAtSeen_19 : decode cX9_lookAtSeen 19 = .ok (.ireturn, 1) := by decide +kernel
theorem dX9_lookAtSeen_20 : decode cX9_lookAtSeen 20 = .ok (.aload_n 0, 1) := by decide +kernel
theorem dX9_lookAtSeen_21 : decode cX9_lookAtSeen 21 = .ok (.getfield 46, 3) := by decide +kernel
theorem dX9_lookAtSeen_24 : decode cX9_lookAtSeen 24 = .ok (.iload_n 1, 1) := by decide +kernel
theorem dX9_lookAtSeen_25 : decode cX9_lookAtSeen 25 = .ok (.aaload, 1) := by decide +kernel
theorem dX9_lookAtSeen_26 : decode cX9_lookAtSeen 26 = .ok (.invokevirtual 318, 3) := by decide +kernel
theorem dX9_lookAtSeen_29 : decode cX9_lookAtSeen 29 = .ok (.ifCond .ne 6, 3) := by decide +kernel
theorem dX9_lookAtSeen_32 : decode cX9_lookAtSeen 32 = .ok (.bipush (-6), 2) := by decide +kernel
theorem dX9_lookAtSeen_34 : decode cX9_lookAtSeen 34 = .ok (.ireturn, 1) := by decide +kernel
theorem dX9_lookAtSeen_35 : decode cX9_lookAtSeen 35 = .ok (.aload_n 0, 1) := by decide +kernel
theorem dX9_lookAtSeen_36 : decode cX9_lookAtSeen 36 = .ok (.getfield 53, 3) := by decide +kernel
theorem dX9_lookAtSeen_39 : decode cX9_lookAtSeen 39 = .ok (.aload_n 0, 1) := by decide +kernel
theorem dX9_lookAtSeen_40 : decode cX9_lookAtSeen 40 = .ok (.getfield 75, 3) := by decide +kernel
theorem dX9_lookAtSeen_43 : decode cX9_lookAtSeen 43 = .ok (.aload_n 0, 1) := by decide +kernel
theorem dX9_lookAtSeen_44 : decode cX9_lookAtSeen 44 = .ok (.getfield 46, 3) := by decide +kernel
theorem dX9_lookAtSeen_47 : decode cX9_lookAtSeen 47 = .ok (.iload_n 1, 1) := by decide +kernel
theorem dX9_lookAtSeen_48 : decode cX9_lookAtSeen 48 = .ok (.aaload, 1) := by decide +kernel
theorem dX9_lookAtSeen_49 : decode cX9_lookAtSeen 49 = .ok (.invokevirtual 321, 3) := by decide +kernel
theorem dX9_lookAtSeen_52 : decode cX9_lookAtSeen 52 = .ok (.ifCond .eq 7, 3) := by decide +kernel
theorem dX9_lookAtSeen_55 : decode cX9_lookAtSeen 55 = .ok (.iconst 0, 1) := by decide +kernel
theorem dX9_lookAtSeen_56 : decode cX9_lookAtSeen 56 = .ok (.goto 5, 3) := by decide +kernel
theorem dX9_lookAtSeen_59 : decode cX9_lookAtSeen 59 = .ok (.bipush (-2), 2) := by decide +kernel
theorem dX9_lookAtSeen_61 : decode cX9_lookAtSeen 61 = .ok (.ireturn, 1) := by decide +kernel
theorem dX9_tally_0 : decode cX9_tally 0 = .ok (.iload_n 2, 1) := by decide +kernel
theorem dX9_tally_1 : decode cX9_tally 1 = .ok (.invokestatic 325, 3) := by decide +kernel
theorem dX9_tally_4 : decode cX9_tally 4 = .ok (.ifCond .eq 10, 3) := by decide +kernel
theorem dX9_tally_7 : decode cX9_tally 7 = .ok (.iload_n 3, 1) := by decide +kernel
theorem dX9_tally_8 : decode cX9_tally 8 = .ok (.invokestatic 325, 3) := by decide +kernel
theorem dX9_tally_11 : decode cX9_tally 11 = .ok (.ifCond .ne 6, 3) := by decide +kernel
theorem dX9_tally_14 : decode cX9_tally 14 = .ok (.bipush (-2), 2) := by decide +kernel
theorem dX9_tally_16 : decode cX9_tally 16 = .ok (.ireturn, 1) := by decide +kernel
theorem dX9_tally_17 : decode cX9_tally 17 = .ok (.aload_n 0, 1) := by decide +kernel
theorem dX9_tally_18 : decode cX9_tally 18 = .ok (.iload_n 1, 1) := by decide +kernel
theorem dX9_tally_19 : decode cX9_tally 19 = .ok (.invokevirtual 328, 3) := by decide +kernel
theorem dX9_tally_22 : decode cX9_tally 22 = .ok (.istore 4, 2) := by decide +kernel
theorem dX9_tally_24 : decode cX9_tally 24 = .ok (.iload 4, 2) := by decide +kernel
theorem dX9_tally_26 : decode cX9_tally 26 = .ok (.ifCond .ge 8, 3) := by decide +kernel
theorem dX9_tally_29 : decode cX9_tally 29 = .ok (.iload 4, 2) := by decide +kernel
theorem dX9_tally_31 : decode cX9_tally 31 = .ok (.goto 12, 3) := by decide +kernel
theorem dX9_tally_34 : decode cX9_tally 34 = .ok (.aload_n 0, 1) := by decide +kernel
theorem dX9_tally_35 : decode cX9_tally 35 = .ok (.getfield 60, 3) := by decide +kernel
theorem dX9_tally_38 : decode cX9_tally 38 = .ok (.iload_n 2, 1) := by decide +kernel
theorem dX9_tally_39 : decode cX9_tally 39 = .ok (.iload_n 3, 1) := by decide +kernel
theorem dX9_tally_40 : decode cX9_tally 40 = .ok (.invokevirtual 331, 3) := by decide +kernel
theorem dX9_tally_43 : decode cX9_tally 43 = .ok (.ireturn, 1) := by decide +kernel
theorem dX9_doubt_0 : decode cX9_doubt 0 = .ok (.iload_n 2, 1) := by decide +kernel
theorem dX9_doubt_1 : decode cX9_doubt 1 = .ok (.invokestatic 325, 3) := by decide +kernel
theorem dX9_doubt_4 : decode cX9_doubt 4 = .ok (.ifCond .ne 7, 3) := by decide +kernel
theorem dX9_doubt_7 : decode cX9_doubt 7 = .ok (.ldc2_w 334, 3) := by decide +kernel
theorem dX9_doubt_10 : decode cX9_doubt 10 = .ok (.lreturn, 1) := by decide +kernel
theorem dX9_doubt_11 : decode cX9_doubt 11 = .ok (.aload_n 0, 1) := by decide +kernel
theorem dX9_doubt_12 : decode cX9_doubt 12 = .ok (.iload_n 1, 1) := by decide +kernel
theorem dX9_doubt_13 : decode cX9_doubt 13 = .ok (.invokevirtual 328, 3) := by decide +kernel
theorem dX9_doubt_16 : decode cX9_doubt 16 = .ok (.istore_n 3, 1) := by decide +kernel
theorem dX9_doubt_17 : decode cX9_doubt 17 = .ok (.iload_n 3, 1) := by decide +kernel
theorem dX9_doubt_18 : decode cX9_doubt 18 = .ok (.ifCond .ge 6, 3) := by decide +kernel
theorem dX9_doubt_21 : decode cX9_doubt 21 = .ok (.iload_n 3, 1) := by decide +kernel
theorem dX9_doubt_22 : decode cX9_doubt 22 = .ok (.i2l, 1) := by decide +kernel
theorem dX9_doubt_23 : decode cX9_doubt 23 = .ok (.lreturn, 1) := by decide +kernel
theorem dX9_doubt_24 : decode cX9_doubt 24 = .ok (.aload_n 0, 1) := by decide +kernel
theorem dX9_doubt_25 : decode cX9_doubt 25 = .ok (.getfield 60, 3) := by decide +kernel
theorem dX9_doubt_28 : decode cX9_doubt 28 = .ok (.invokevirtual 336, 3) := by decide +kernel
theorem dX9_doubt_31 : decode cX9_doubt 31 = .ok (.lstore 4, 2) := by decide +kernel
theorem dX9_doubt_33 : decode cX9_doubt 33 = .ok (.aload_n 0, 1) := by decide +kernel
theorem dX9_doubt_34 : decode cX9_doubt 34 = .ok (.getfield 60, 3) := by decide +kernel
theorem dX9_doubt_37 : decode cX9_doubt 37 = .ok (.invokevirtual 340, 3) := by decide +kernel
theorem dX9_doubt_40 : decode cX9_doubt 40 = .ok (.lstore 6, 2) := by decide +kernel
theorem dX9_doubt_42 : decode cX9_doubt 42 = .ok (.lload 4, 2) := by decide +kernel
theorem dX9_doubt_44 : decode cX9_doubt 44 = .ok (.lload 6, 2) := by decide +kernel
theorem dX9_doubt_46 : decode cX9_doubt 46 = .ok (.iload_n 2, 1) := by decide +kernel
theorem dX9_doubt_47 : decode cX9_doubt 47 = .ok (.invokestatic 343, 3) := by decide +kernel
theorem dX9_doubt_50 : decode cX9_doubt 50 = .ok (.lreturn, 1) := by decide +kernel
theorem dX9_share_0 : decode cX9_share 0 = .ok (.iload_n 2, 1) := by decide +kernel
theorem dX9_share_1 : decode cX9_share 1 = .ok (.invokestatic 325, 3) := by decide +kernel
theorem dX9_share_4 : decode cX9_share 4 = .ok (.ifCond .eq 10, 3) := by decide +kernel
theorem dX9_share_7 : decode cX9_share 7 = .ok (.iload_n 3, 1) := by decide +kernel
theorem dX9_share_8 : decode cX9_share 8 = .ok (.invokestatic 325, 3) := by decide +kernel
theorem dX9_share_11 : decode cX9_share 11 = .ok (.ifCond .ne 6, 3) := by decide +kernel
theorem dX9_share_14 : decode cX9_share 14 = .ok (.bipush (-2), 2) := by decide +kernel
theorem dX9_share_16 : decode cX9_share 16 = .ok (.ireturn, 1) := by decide +kernel
theorem dX9_share_17 : decode cX9_share 17 = .ok (.aload_n 0, 1) := by decide +kernel
theorem dX9_share_18 : decode cX9_share 18 = .ok (.iload_n 1, 1) := by decide +kernel
theorem dX9_share_19 : decode cX9_share 19 = .ok (.invokevirtual 328, 3) := by decide +kernel
theorem dX9_share_22 : decode cX9_share 22 = .ok (.istore 4, 2) := by decide +kernel
theorem dX9_share_24 : decode cX9_share 24 = .ok (.iload 4, 2) := by decide +kernel
theorem dX9_share_26 : decode cX9_share 26 = .ok (.ifCond .ge 6, 3) := by decide +kernel
theorem dX9_share_29 : decode cX9_share 29 = .ok (.iload 4, 2) := by decide +kernel
theorem dX9_share_31 : decode cX9_share 31 = .ok (.ireturn, 1) := by decide +kernel
theorem dX9_share_32 : decode cX9_share 32 = .ok (.aload_n 0, 1) := by decide +kernel
theorem dX9_share_33 : decode cX9_share 33 = .ok (.getfield 60, 3) := by decide +kernel
theorem dX9_share_36 : decode cX9_share 36 = .ok (.iload_n 2, 1) := by decide +kernel
theorem dX9_share_37 : decode cX9_share 37 = .ok (.invokevirtual 347, 3) := by decide +kernel
theorem dX9_share_40 : decode cX9_share 40 = .ok (.istore 5, 2) := by decide +kernel
theorem dX9_share_42 : decode cX9_share 42 = .ok (.iload 5, 2) := by decide +kernel
theorem dX9_share_44 : decode cX9_share 44 = .ok (.ifCond .ne 7, 3) := by decide +kernel
theorem dX9_share_47 : decode cX9_share 47 = .ok (.iconst (-1), 1) := by decide +kernel
theorem dX9_share_48 : decode cX9_share 48 = .ok (.goto 21, 3) := by decide +kernel
theorem dX9_share_51 : decode cX9_share 51 = .ok (.aload_n 0, 1) := by decide +kernel
theorem dX9_share_52 : decode cX9_share 52 = .ok (.getfield 60, 3) := by decide +kernel
theorem dX9_share_55 : decode cX9_share 55 = .ok (.iload_n 2, 1) := by decide +kernel
theorem dX9_share_56 : decode cX9_share 56 = .ok (.iconst 1, 1) := by decide +kernel
theorem dX9_share_57 : decode cX9_share 57 = .ok (.invokevirtual 331, 3) := by decide +kernel
theorem dX9_share_60 : decode cX9_share 60 = .ok (.i2l, 1) := by decide +kernel
theorem dX9_share_61 : decode cX9_share 61 = .ok (.iload 5, 2) := by decide +kernel
theorem dX9_share_63 : decode cX9_share 63 = .ok (.i2l, 1) := by decide +kernel
theorem dX9_share_64 : decode cX9_share 64 = .ok (.iload_n 3, 1) := by decide +kernel
theorem dX9_share_65 : decode cX9_share 65 = .ok (.invokestatic 343, 3) := by decide +kernel
theorem dX9_share_68 : decode cX9_share 68 = .ok (.l2i, 1) := by decide +kernel
theorem dX9_share_69 : decode cX9_share 69 = .ok (.ireturn, 1) := by decide +kernel
theorem dX9_leans_0 : decode cX9_leans 0 = .ok (.aload_n 0, 1) := by decide +kernel
theorem dX9_leans_1 : decode cX9_leans 1 = .ok (.iload_n 1, 1) := by decide +kernel
theorem dX9_leans_2 : decode cX9_leans 2 = .ok (.invokevirtual 328, 3) := by decide +kernel
theorem dX9_leans_5 : decode cX9_leans 5 = .ok (.istore_n 2, 1) := by decide +kernel
theorem dX9_leans_6 : decode cX9_leans 6 = .ok (.iload_n 2, 1) := by decide +kernel
theorem dX9_leans_7 : decode cX9_leans 7 = .ok (.ifCond .ge 5, 3) := by decide +kernel
theorem dX9_leans_10 : decode cX9_leans 10 = .ok (.iload_n 2, 1) := by decide +kernel
theorem dX9_leans_11 : decode cX9_leans 11 = .ok (.ireturn, 1) := by decide +kernel
theorem dX9_leans_12 : decode cX9_leans 12 = .ok (.aload_n 0, 1) := by decide +kernel
theorem dX9_leans_13 : decode cX9_leans 13 = .ok (.getfield 60, 3) := by decide +kernel
theorem dX9_leans_16 : decode cX9_leans 16 = .ok (.iconst 1, 1) := by decide +kernel
theorem dX9_leans_17 : decode cX9_leans 17 = .ok (.iconst 1, 1) := by decide +kernel
theorem dX9_leans_18 : decode cX9_leans 18 = .ok (.invokevirtual 331, 3) := by decide +kernel
theorem dX9_leans_21 : decode cX9_leans 21 = .ok (.aload_n 0, 1) := by decide +kernel
theorem dX9_leans_22 : decode cX9_leans 22 = .ok (.getfield 60, 3) := by decide +kernel
theorem dX9_leans_25 : decode cX9_leans 25 = .ok (.iconst 0, 1) := by decide +kernel
theorem dX9_leans_26 : decode cX9_leans 26 = .ok (.invokevirtual 347, 3) := by decide +kernel
theorem dX9_leans_29 : decode cX9_leans 29 = .ok (.imul, 1) := by decide +kernel
theorem dX9_leans_30 : decode cX9_leans 30 = .ok (.istore_n 3, 1) := by decide +kernel
theorem dX9_leans_31 : decode cX9_leans 31 = .ok (.aload_n 0, 1) := by decide +kernel
theorem dX9_leans_32 : decode cX9_leans 32 = .ok (.getfield 60, 3) := by decide +kernel
theorem dX9_leans_35 : decode cX9_leans 35 = .ok (.iconst 0, 1) := by decide +kernel
theorem dX9_leans_36 : decode cX9_leans 36 = .ok (.iconst 1, 1) := by decide +kernel
theorem dX9_leans_37 : decode cX9_leans 37 = .ok (.invokevirtual 331, 3) := by decide +kernel
theorem dX9_leans_40 : decode cX9_leans 40 = .ok (.aload_n 0, 1) := by decide +kernel
theorem dX9_leans_41 : decode cX9_leans 41 = .ok (.getfield 60, 3) := by decide +kernel
theorem dX9_leans_44 : decode cX9_leans 44 = .ok (.iconst 1, 1) := by decide +kernel
theorem dX9_leans_45 : decode cX9_leans 45 = .ok (.invokevirtual 347, 3) := by decide +kernel
theorem dX9_leans_48 : decode cX9_leans 48 = .ok (.imul, 1) := by decide +kernel
theorem dX9_leans_49 : decode cX9_leans 49 = .ok (.istore 4, 2) := by decide +kernel
theorem dX9_leans_51 : decode cX9_leans 51 = .ok (.iload_n 3, 1) := by decide +kernel
theorem dX9_leans_52 : decode cX9_leans 52 = .ok (.iload 4, 2) := by decide +kernel
theorem dX9_leans_54 : decode cX9_leans 54 = .ok (.invokestatic 350, 3) := by decide +kernel
theorem dX9_leans_57 : decode cX9_leans 57 = .ok (.ireturn, 1) := by decide +kernel
theorem dX9_lookAtList_0 : decode cX9_lookAtList 0 = .ok (.iload_n 1, 1) := by decide +kernel
theorem dX9_lookAtList_1 : decode cX9_lookAtList 1 = .ok (.invokestatic 315, 3) := by decide +kernel
theorem dX9_lookAtList_4 : decode cX9_lookAtList 4 = .ok (.ifCond .eq 13, 3) := by decide +kernel
theorem dX9_lookAtList_7 : decode cX9_lookAtList 7 = .ok (.aload_n 0, 1) := by decide +kernel
theorem dX9_lookAtList_8 : decode cX9_lookAtList 8 = .ok (.getfield 75, 3) := by decide +kernel
theorem dX9_lookAtList_11 : decode cX9_lookAtList 11 = .ok (.invokevirtual 130, 3) := by decide +kernel
theorem dX9_lookAtList_14 : decode cX9_lookAtList 14 = .ok (.ifCond .ne 6, 3) := by decide +kernel
theorem dX9_lookAtList_17 : decode cX9_lookAtList 17 = .ok (.bipush (-2), 2) := by decide +kernel
theorem dX9_lookAtList_19 : decode cX9_lookAtList 19 = .ok (.ireturn, 1) := by decide +kernel
theorem dX9_lookAtList_20 : decode cX9_lookAtList 20 = .ok (.aload_n 0, 1) := by decide +kernel
theorem dX9_lookAtList_21 : decode cX9_lookAtList 21 = .ok (.getfield 46, 3) := by decide +kernel
theorem dX9_lookAtList_24 : decode cX9_lookAtList 24 = .ok (.iload_n 1, 1) := by decide +kernel
theorem dX9_lookAtList_25 : decode cX9_lookAtList 25 = .ok (.aaload, 1) := by decide +kernel
theorem dX9_lookAtList_26 : decode cX9_lookAtList 26 = .ok (.invokevirtual 318, 3) := by decide +kernel
theorem dX9_lookAtList_29 : decode cX9_lookAtList 29 = .ok (.ifCond .ne 6, 3) := by decide +kernel
theorem dX9_lookAtList_32 : decode cX9_lookAtList 32 = .ok (.bipush (-6), 2) := by decide +kernel
theorem dX9_lookAtList_34 : decode cX9_lookAtList 34 = .ok (.ireturn, 1) := by decide +kernel
theorem dX9_lookAtList_35 : decode cX9_lookAtList 35 = .ok (.aload_n 0, 1) := by decide +kernel
theorem dX9_lookAtList_36 : decode cX9_lookAtList 36 = .ok (.getfield 60, 3) := by decide +kernel
theorem dX9_lookAtList_39 : decode cX9_lookAtList 39 = .ok (.aload_n 0, 1) := by decide +kernel
theorem dX9_lookAtList_40 : decode cX9_lookAtList 40 = .ok (.getfield 46, 3) := by decide +kernel
theorem dX9_lookAtList_43 : decode cX9_lookAtList 43 = .ok (.iload_n 1, 1) := by decide +kernel
theorem dX9_lookAtList_44 : decode cX9_lookAtList 44 = .ok (.aaload, 1) := by decide +kernel
theorem dX9_lookAtList_45 : decode cX9_lookAtList 45 = .ok (.invokevirtual 353, 3) := by decide +kernel
theorem dX9_lookAtList_48 : decode cX9_lookAtList 48 = .ok (.ifCond .eq 7, 3) := by decide +kernel
theorem dX9_lookAtList_51 : decode cX9_lookAtList 51 = .ok (.iconst 0, 1) := by decide +kernel
theorem dX9_lookAtList_52 : decode cX9_lookAtList 52 = .ok (.goto 5, 3) := by decide +kernel
theorem dX9_lookAtList_55 : decode cX9_lookAtList 55 = .ok (.bipush (-2), 2) := by decide +kernel
theorem dX9_lookAtList_57 : decode cX9_lookAtList 57 = .ok (.ireturn, 1) := by decide +kernel
theorem dX9_rests_0 : decode cX9_rests 0 = .ok (.iload_n 1, 1) := by decide +kernel
theorem dX9_rests_1 : decode cX9_rests 1 = .ok (.invokestatic 356, 3) := by decide +kernel
theorem dX9_rests_4 : decode cX9_rests 4 = .ok (.ifCond .eq 10, 3) := by decide +kernel
theorem dX9_rests_7 : decode cX9_rests 7 = .ok (.iload_n 2, 1) := by decide +kernel
theorem dX9_rests_8 : decode cX9_rests 8 = .ok (.invokestatic 356, 3) := by decide +kernel
theorem dX9_rests_11 : decode cX9_rests 11 = .ok (.ifCond .ne 6, 3) := by decide +kernel
theorem dX9_rests_14 : decode cX9_rests 14 = .ok (.bipush (-2), 2) := by decide +kernel
theorem dX9_rests_16 : decode cX9_rests 16 = .ok (.ireturn, 1) := by decide +kernel
theorem dX9_rests_17 : decode cX9_rests 17 = .ok (.iconst 0, 1) := by decide +kernel
theorem dX9_rests_18 : decode cX9_rests 18 = .ok (.istore_n 3, 1) := by decide +kernel
theorem dX9_rests_19 : decode cX9_rests 19 = .ok (.iconst 0, 1) := by decide +kernel
theorem dX9_rests_20 : decode cX9_rests 20 = .ok (.istore 4, 2) := by decide +kernel
theorem dX9_rests_22 : decode cX9_rests 22 = .ok (.iload 4, 2) := by decide +kernel
theorem dX9_rests_24 : decode cX9_rests 24 = .ok (.iconst 4, 1) := by decide +kernel
theorem dX9_rests_25 : decode cX9_rests 25 = .ok (.if_icmp .ge 47, 3) := by decide +kernel
theorem dX9_rests_28 : decode cX9_rests 28 = .ok (.iload_n 1, 1) := by decide +kernel
theorem dX9_rests_29 : decode cX9_rests 29 = .ok (.iload_n 2, 1) := by decide +kernel
theorem dX9_rests_30 : decode cX9_rests 30 = .ok (.iload 4, 2) := by decide +kernel
theorem dX9_rests_32 : decode cX9_rests 32 = .ok (.iconst 2, 1) := by decide +kernel
theorem dX9_rests_33 : decode cX9_rests 33 = .ok (.if_icmp .ge 7, 3) := by decide +kernel
theorem dX9_rests_36 : decode cX9_rests 36 = .ok (.iconst 1, 1) := by decide +kernel
theorem dX9_rests_37 : decode cX9_rests 37 = .ok (.goto 4, 3) := by decide +kernel
theorem dX9_rests_40 : decode cX9_rests 40 = .ok (.iconst 0, 1) := by decide +kernel
theorem dX9_rests_41 : decode cX9_rests 41 = .ok (.iload 4, 2) := by decide +kernel
theorem dX9_rests_43 : decode cX9_rests 43 = .ok (.iconst 2, 1) := by decide +kernel
theorem dX9_rests_44 : decode cX9_rests 44 = .ok (.irem, 1) := by decide +kernel
theorem dX9_rests_45 : decode cX9_rests 45 = .ok (.ifCond .ne 7, 3) := by decide +kernel
theorem dX9_rests_48 : decode cX9_rests 48 = .ok (.iconst 1, 1) := by decide +kernel
theorem dX9_rests_49 : decode cX9_rests 49 = .ok (.goto 4, 3) := by decide +kernel
theorem dX9_rests_52 : decode cX9_rests 52 = .ok (.iconst 0, 1) := by decide +kernel
theorem dX9_rests_53 : decode cX9_rests 53 = .ok (.invokestatic 359, 3) := by decide +kernel
theorem dX9_rests_56 : decode cX9_rests 56 = .ok (.ifCond .eq 10, 3) := by decide +kernel
theorem dX9_rests_59 : decode cX9_rests 59 = .ok (.iload_n 3, 1) := by decide +kernel
theorem dX9_rests_60 : decode cX9_rests 60 = .ok (.iconst 1, 1) := by decide +kernel
theorem dX9_rests_61 : decode cX9_rests 61 = .ok (.iload 4, 2) := by decide +kernel
theorem dX9_rests_63 : decode cX9_rests 63 = .ok (.ishl, 1) := by decide +kernel
theorem dX9_rests_64 : decode cX9_rests 64 = .ok (.ior, 1) := by decide +kernel
theorem dX9_rests_65 : decode cX9_rests 65 = .ok (.istore_n 3, 1) := by decide +kernel
theorem dX9_rests_66 : decode cX9_rests 66 = .ok (.iinc 4 1, 3) := by decide +kernel
theorem dX9_rests_69 : decode cX9_rests 69 = .ok (.goto (-47), 3) := by decide +kernel
theorem dX9_rests_72 : decode cX9_rests 72 = .ok (.iload_n 3, 1) := by decide +kernel
theorem dX9_rests_73 : decode cX9_rests 73 = .ok (.ireturn, 1) := by decide +kernel
theorem dX9_believes_0 : decode cX9_believes 0 = .ok (.iload_n 1, 1) := by decide +kernel
theorem dX9_believes_1 : decode cX9_believes 1 = .ok (.invokestatic 356, 3) := by decide +kernel
theorem dX9_believes_4 : decode cX9_believes 4 = .ok (.ifCond .ne 6, 3) := by decide +kernel
theorem dX9_believes_7 : decode cX9_believes 7 = .ok (.bipush (-2), 2) := by decide +kernel
theorem dX9_believes_9 : decode cX9_believes 9 = .ok (.ireturn, 1) := by decide +kernel
theorem dX9_believes_10 : decode cX9_believes 10 = .ok (.iconst 0, 1) := by decide +kernel
theorem dX9_believes_11 : decode cX9_believes 11 = .ok (.istore_n 2, 1) := by decide +kernel
theorem dX9_believes_12 : decode cX9_believes 12 = .ok (.iload_n 2, 1) := by decide +kernel
theorem dX9_believes_13 : decode cX9_believes 13 = .ok (.bipush 99, 2) := by decide +kernel
theorem dX9_believes_15 : decode cX9_believes 15 = .ok (.if_icmp .gt 21, 3) := by decide +kernel
theorem dX9_believes_18 : decode cX9_believes 18 = .ok (.iload_n 1, 1) := by decide +kernel
theorem dX9_believes_19 : decode cX9_believes 19 = .ok (.iload_n 2, 1) := by decide +kernel
theorem dX9_believes_20 : decode cX9_believes 20 = .ok (.iconst 1, 1) := by decide +kernel
theorem dX9_believes_21 : decode cX9_believes 21 = .ok (.iconst 1, 1) := by decide +kernel
theorem dX9_believes_22 : decode cX9_believes 22 = .ok (.invokestatic 359, 3) := by decide +kernel
theorem dX9_believes_25 : decode cX9_believes 25 = .ok (.ifCond .eq 5, 3) := by decide +kernel
theorem dX9_believes_28 : decode cX9_believes 28 = .ok (.iload_n 2, 1) := by decide +kernel
theorem dX9_believes_29 : decode cX9_believes 29 = .ok (.ireturn, 1) := by decide +kernel
theorem dX9_believes_30 : decode cX9_believes 30 = .ok (.iinc 2 1, 3) := by decide +kernel
theorem dX9_believes_33 : decode cX9_believes 33 = .ok (.goto (-21), 3) := by decide +kernel
theorem dX9_believes_36 : decode cX9_believes 36 = .ok (.iconst (-1), 1) := by decide +kernel
theorem dX9_believes_37 : decode cX9_believes 37 = .ok (.ireturn, 1) := by decide +kernel
theorem dX9_isAtRest_0 : decode cX9_isAtRest 0 = .ok (.iload_n 0, 1) := by decide +kernel
theorem dX9_isAtRest_1 : decode cX9_isAtRest 1 = .ok (.iload_n 1, 1) := by decide +kernel
theorem dX9_isAtRest_2 : decode cX9_isAtRest 2 = .ok (.iload_n 2, 1) := by decide +kernel
theorem dX9_isAtRest_3 : decode cX9_isAtRest 3 = .ok (.iload_n 3, 1) := by decide +kernel
theorem dX9_isAtRest_4 : decode cX9_isAtRest 4 = .ok (.invokestatic 363, 3) := by decide +kernel
theorem dX9_isAtRest_7 : decode cX9_isAtRest 7 = .ok (.iload_n 0, 1) := by decide +kernel
theorem dX9_isAtRest_8 : decode cX9_isAtRest 8 = .ok (.iload_n 1, 1) := by decide +kernel
theorem dX9_isAtRest_9 : decode cX9_isAtRest 9 = .ok (.iload_n 2, 1) := by decide +kernel
theorem dX9_isAtRest_10 : decode cX9_isAtRest 10 = .ok (.ifCond .ne 7, 3) := by decide +kernel
theorem dX9_isAtRest_13 : decode cX9_isAtRest 13 = .ok (.iconst 1, 1) := by decide +kernel
theorem dX9_isAtRest_14 : decode cX9_isAtRest 14 = .ok (.goto 4, 3) := by decide +kernel
theorem dX9_isAtRest_17 : decode cX9_isAtRest 17 = .ok (.iconst 0, 1) := by decide +kernel
theorem dX9_isAtRest_18 : decode cX9_isAtRest 18 = .ok (.iload_n 3, 1) := by decide +kernel
theorem dX9_isAtRest_19 : decode cX9_isAtRest 19 = .ok (.invokestatic 363, 3) := by decide +kernel
theorem dX9_isAtRest_22 : decode cX9_isAtRest 22 = .ok (.if_icmp .lt 32, 3) := by decide +kernel
theorem dX9_isAtRest_25 : decode cX9_isAtRest 25 = .ok (.iload_n 0, 1) := by decide +kernel
theorem dX9_isAtRest_26 : decode cX9_isAtRest 26 = .ok (.iload_n 1, 1) := by decide +kernel
theorem dX9_isAtRest_27 : decode cX9_isAtRest 27 = .ok (.iload_n 2, 1) := by decide +kernel
theorem dX9_isAtRest_28 : decode cX9_isAtRest 28 = .ok (.iload_n 3, 1) := by decide +kernel
theorem dX9_isAtRest_29 : decode cX9_isAtRest 29 = .ok (.invokestatic 367, 3) := by decide +kernel
theorem dX9_isAtRest_32 : decode cX9_isAtRest 32 = .ok (.iload_n 0, 1) := by decide +kernel
theorem dX9_isAtRest_33 : decode cX9_isAtRest 33 = .ok (.iload_n 1, 1) := by decide +kernel
theorem dX9_isAtRest_34 : decode cX9_isAtRest 34 = .ok (.iload_n 2, 1) := by decide +kernel
theorem dX9_isAtRest_35 : decode cX9_isAtRest 35 = .ok (.iload_n 3, 1) := by decide +kernel
theorem dX9_isAtRest_36 : decode cX9_isAtRest 36 = .ok (.ifCond .ne 7, 3) := by decide +kernel
theorem dX9_isAtRest_39 : decode cX9_isAtRest 39 = .ok (.iconst 1, 1) := by decide +kernel
theorem dX9_isAtRest_40 : decode cX9_isAtRest 40 = .ok (.goto 4, 3) := by decide +kernel
theorem dX9_isAtRest_43 : decode cX9_isAtRest 43 = .ok (.iconst 0, 1) := by decide +kernel
theorem dX9_isAtRest_44 : decode cX9_isAtRest 44 = .ok (.invokestatic 367, 3) := by decide +kernel
theorem dX9_isAtRest_47 : decode cX9_isAtRest 47 = .ok (.if_icmp .lt 7, 3) := by decide +kernel
theorem dX9_isAtRest_50 : decode cX9_isAtRest 50 = .ok (.iconst 1, 1) := by decide +kernel
theorem dX9_isAtRest_51 : decode cX9_isAtRest 51 = .ok (.goto 4, 3) := by decide +kernel
theorem dX9_isAtRest_54 : decode cX9_isAtRest 54 = .ok (.iconst 0, 1) := by decide +kernel
theorem dX9_isAtRest_55 : decode cX9_isAtRest 55 = .ok (.ireturn, 1) := by decide +kernel
theorem dX9_generalHas_0 : decode cX9_generalHas 0 = .ok (.iload_n 2, 1) := by decide +kernel
theorem dX9_generalHas_1 : decode cX9_generalHas 1 = .ok (.ifCond .ne 7, 3) := by decide +kernel
theorem dX9_generalHas_4 : decode cX9_generalHas 4 = .ok (.iload_n 0, 1) := by decide +kernel
theorem dX9_generalHas_5 : decode cX9_generalHas 5 = .ok (.iload_n 1, 1) := by decide +kernel
theorem dX9_generalHas_6 : decode cX9_generalHas 6 = .ok (.isub, 1) := by decide +kernel
theorem dX9_generalHas_7 : decode cX9_generalHas 7 = .ok (.ireturn, 1) := by decide +kernel
theorem dX9_generalHas_8 : decode cX9_generalHas 8 = .ok (.iload_n 3, 1) := by decide +kernel
theorem dX9_generalHas_9 : decode cX9_generalHas 9 = .ok (.ifCond .eq 7, 3) := by decide +kernel
theorem dX9_generalHas_12 : decode cX9_generalHas 12 = .ok (.iconst 0, 1) := by decide +kernel
theorem dX9_generalHas_13 : decode cX9_generalHas 13 = .ok (.goto 4, 3) := by decide +kernel
theorem dX9_generalHas_16 : decode cX9_generalHas 16 = .ok (.iload_n 0, 1) := by decide +kernel
theorem dX9_generalHas_17 : decode cX9_generalHas 17 = .ok (.ireturn, 1) := by decide +kernel
theorem dX9_augurHas_0 : decode cX9_augurHas 0 = .ok (.iload_n 3, 1) := by decide +kernel
theorem dX9_augurHas_1 : decode cX9_augurHas 1 = .ok (.ifCond .eq 7, 3) := by decide +kernel
theorem dX9_augurHas_4 : decode cX9_augurHas 4 = .ok (.iconst 1, 1) := by decide +kernel
theorem dX9_augurHas_5 : decode cX9_augurHas 5 = .ok (.goto 4, 3) := by decide +kernel
theorem dX9_augurHas_8 : decode cX9_augurHas 8 = .ok (.iconst 0, 1) := by decide +kernel
theorem dX9_augurHas_9 : decode cX9_augurHas 9 = .ok (.istore 4, 2) := by decide +kernel
theorem dX9_augurHas_11 : decode cX9_augurHas 11 = .ok (.iload_n 2, 1) := by decide +kernel
theorem dX9_augurHas_12 : decode cX9_augurHas 12 = .ok (.ifCond .ne 8, 3) := by decide +kernel
theorem dX9_augurHas_15 : decode cX9_augurHas 15 = .ok (.iload_n 1, 1) := by decide +kernel
theorem dX9_augurHas_16 : decode cX9_augurHas 16 = .ok (.iload 4, 2) := by decide +kernel
theorem dX9_augurHas_18 : decode cX9_augurHas 18 = .ok (.isub, 1) := by decide +kernel
theorem dX9_augurHas_19 : decode cX9_augurHas 19 = .ok (.ireturn, 1) := by decide +kernel
theorem dX9_augurHas_20 : decode cX9_augurHas 20 = .ok (.iload_n 3, 1) := by decide +kernel
theorem dX9_augurHas_21 : decode cX9_augurHas 21 = .ok (.ifCond .eq 10, 3) := by decide +kernel
theorem dX9_augurHas_24 : decode cX9_augurHas 24 = .ok (.iload_n 0, 1) := by decide +kernel
theorem dX9_augurHas_25 : decode cX9_augurHas 25 = .ok (.iload 4, 2) := by decide +kernel
theorem dX9_augurHas_27 : decode cX9_augurHas 27 = .ok (.isub, 1) := by decide +kernel
theorem dX9_augurHas_28 : decode cX9_augurHas 28 = .ok (.goto 4, 3) := by decide +kernel
theorem dX9_augurHas_31 : decode cX9_augurHas 31 = .ok (.iconst 0, 1) := by decide +kernel
theorem dX9_augurHas_32 : decode cX9_augurHas 32 = .ok (.ireturn, 1) := by decide +kernel
theorem dX9_chance_0 : decode cX9_chance 0 = .ok (.iload_n 1, 1) := by decide +kernel
theorem dX9_chance_1 : decode cX9_chance 1 = .ok (.invokestatic 325, 3) := by decide +kernel
theorem dX9_chance_4 : decode cX9_chance 4 = .ok (.ifCond .eq 13, 3) := by decide +kernel
theorem dX9_chance_7 : decode cX9_chance 7 = .ok (.aload_n 0, 1) := by decide +kernel
theorem dX9_chance_8 : decode cX9_chance 8 = .ok (.getfield 75, 3) := by decide +kernel
theorem dX9_chance_11 : decode cX9_chance 11 = .ok (.invokevirtual 130, 3) := by decide +kernel
theorem dX9_chance_14 : decode cX9_chance 14 = .ok (.ifCond .ne 7, 3) := by decide +kernel
theorem dX9_chance_17 : decode cX9_chance 17 = .ok (.ldc2_w 334, 3) := by decide +kernel
theorem dX9_chance_20 : decode cX9_chance 20 = .ok (.lreturn, 1) := by decide +kernel
theorem dX9_chance_21 : decode cX9_chance 21 = .ok (.aload_n 0, 1) := by decide +kernel
theorem dX9_chance_22 : decode cX9_chance 22 = .ok (.getfield 26, 3) := by decide +kernel
theorem dX9_chance_25 : decode cX9_chance 25 = .ok (.aload_n 0, 1) := by decide +kernel
theorem dX9_chance_26 : decode cX9_chance 26 = .ok (.getfield 75, 3) := by decide +kernel
theorem dX9_chance_29 : decode cX9_chance 29 = .ok (.invokevirtual 153, 3) := by decide +kernel
theorem dX9_chance_32 : decode cX9_chance 32 = .ok (.aload_n 0, 1) := by decide +kernel
theorem dX9_chance_33 : decode cX9_chance 33 = .ok (.getfield 26, 3) := by decide +kernel
theorem dX9_chance_36 : decode cX9_chance 36 = .ok (.aload_n 0, 1) := by decide +kernel
theorem dX9_chance_37 : decode cX9_chance 37 = .ok (.getfield 75, 3) := by decide +kernel
theorem dX9_chance_40 : decode cX9_chance 40 = .ok (.invokevirtual 205, 3) := by decide +kernel
theorem dX9_chance_43 : decode cX9_chance 43 = .ok (.invokestatic 240, 3) := by decide +kernel
theorem dX9_chance_46 : decode cX9_chance 46 = .ok (.istore_n 2, 1) := by decide +kernel
theorem dX9_chance_47 : decode cX9_chance 47 = .ok (.lconst 1, 1) := by decide +kernel
theorem dX9_chance_48 : decode cX9_chance 48 = .ok (.lstore_n 3, 1) := by decide +kernel
theorem dX9_chance_49 : decode cX9_chance 49 = .ok (.lconst 1, 1) := by decide +kernel
theorem dX9_chance_50 : decode cX9_chance 50 = .ok (.lstore 5, 2) := by decide +kernel
theorem dX9_chance_52 : decode cX9_chance 52 = .ok (.iconst 0, 1) := by decide +kernel
theorem dX9_chance_53 : decode cX9_chance 53 = .ok (.istore 7, 2) := by decide +kernel
theorem dX9_chance_55 : decode cX9_chance 55 = .ok (.iload 7, 2) := by decide +kernel
theorem dX9_chance_57 : decode cX9_chance 57 = .ok (.iload_n 2, 1) := by decide +kernel
theorem dX9_chance_58 : decode cX9_chance 58 = .ok (.if_icmp .ge 28, 3) := by decide +kernel
theorem dX9_chance_61 : decode cX9_chance 61 = .ok (.lload_n 3, 1) := by decide +kernel
theorem dX9_chance_62 : decode cX9_chance 62 = .ok (.aload_n 0, 1) := by decide +kernel
theorem dX9_chance_63 : decode cX9_chance 63 = .ok (.getfield 75, 3) := by decide +kernel
theorem dX9_chance_66 : decode cX9_chance 66 = .ok (.getfield 370, 3) := by decide +kernel
theorem dX9_chance_69 : decode cX9_chance 69 = .ok (.i2l, 1) := by decide +kernel
theorem dX9_chance_70 : decode cX9_chance 70 = .ok (.lmul, 1) := by decide +kernel
theorem dX9_chance_71 : decode cX9_chance 71 = .ok (.lstore_n 3, 1) := by decide +kernel
theorem dX9_chance_72 : decode cX9_chance 72 = .ok (.lload 5, 2) := by decide +kernel
theorem dX9_chance_74 : decode cX9_chance 74 = .ok (.ldc2_w 373, 3) := by decide +kernel
theorem dX9_chance_77 : decode cX9_chance 77 = .ok (.lmul, 1) := by decide +kernel
theorem dX9_chance_78 : decode cX9_chance 78 = .ok (.lstore 5, 2) := by decide +kernel
theorem dX9_chance_80 : decode cX9_chance 80 = .ok (.iinc 7 1, 3) := by decide +kernel
theorem dX9_chance_83 : decode cX9_chance 83 = .ok (.goto (-28), 3) := by decide +kernel
theorem dX9_chance_86 : decode cX9_chance 86 = .ok (.lload_n 3, 1) := by decide +kernel
theorem dX9_chance_87 : decode cX9_chance 87 = .ok (.lload 5, 2) := by decide +kernel
theorem dX9_chance_89 : decode cX9_chance 89 = .ok (.iload_n 1, 1) := by decide +kernel
theorem dX9_chance_90 : decode cX9_chance 90 = .ok (.invokestatic 343, 3) := by decide +kernel
theorem dX9_chance_93 : decode cX9_chance 93 = .ok (.lreturn, 1) := by decide +kernel
theorem dX9_asks_0 : decode cX9_asks 0 = .ok (.aload_n 0, 1) := by decide +kernel
theorem dX9_asks_1 : decode cX9_asks 1 = .ok (.getfield 75, 3) := by decide +kernel
theorem dX9_asks_4 : decode cX9_asks 4 = .ok (.iload_n 1, 1) := by decide +kernel
theorem dX9_asks_5 : decode cX9_asks 5 = .ok (.invokevirtual 118, 3) := by decide +kernel
theorem dX9_asks_8 : decode cX9_asks 8 = .ok (.ifCond .eq 14, 3) := by decide +kernel
theorem dX9_asks_11 : decode cX9_asks 11 = .ok (.aload_n 0, 1) := by decide +kernel
theorem dX9_asks_12 : decode cX9_asks 12 = .ok (.getfield 75, 3) := by decide +kernel
theorem dX9_asks_15 : decode cX9_asks 15 = .ok (.iload_n 2, 1) := by decide +kernel
theorem dX9_asks_16 : decode cX9_asks 16 = .ok (.invokevirtual 147, 3) := by decide +kernel
theorem dX9_asks_19 : decode cX9_asks 19 = .ok (.ifCond .ne 6, 3) := by decide +kernel
theorem dX9_asks_22 : decode cX9_asks 22 = .ok (.bipush (-2), 2) := by decide +kernel
theorem dX9_asks_24 : decode cX9_asks 24 = .ok (.ireturn, 1) := by decide +kernel
theorem dX9_asks_25 : decode cX9_asks 25 = .ok (.aload_n 0, 1) := by decide +kernel
theorem dX9_asks_26 : decode cX9_asks 26 = .ok (.getfield 75, 3) := by decide +kernel
theorem dX9_asks_29 : decode cX9_asks 29 = .ok (.iload_n 2, 1) := by decide +kernel
theorem dX9_asks_30 : decode cX9_asks 30 = .ok (.invokevirtual 375, 3) := by decide +kernel
theorem dX9_asks_33 : decode cX9_asks 33 = .ok (.ifCond .eq 26, 3) := by decide +kernel
theorem dX9_asks_36 : decode cX9_asks 36 = .ok (.aload_n 0, 1) := by decide +kernel
theorem dX9_asks_37 : decode cX9_asks 37 = .ok (.getfield 75, 3) := by decide +kernel
theorem dX9_asks_40 : decode cX9_asks 40 = .ok (.iload_n 1, 1) := by decide +kernel
theorem dX9_asks_41 : decode cX9_asks 41 = .ok (.invokevirtual 378, 3) := by decide +kernel
theorem dX9_asks_44 : decode cX9_asks 44 = .ok (.ifCond .ne 15, 3) := by decide +kernel
theorem dX9_asks_47 : decode cX9_asks 47 = .ok (.aload_n 0, 1) := by decide +kernel
theorem dX9_asks_48 : decode cX9_asks 48 = .ok (.getfield 75, 3) := by decide +kernel
theorem dX9_asks_51 : decode cX9_asks 51 = .ok (.getfield 381, 3) := by decide +kernel
theorem dX9_asks_54 : decode cX9_asks 54 = .ok (.bipush 20, 2) := by decide +kernel
theorem dX9_asks_56 : decode cX9_asks 56 = .ok (.if_icmp .lt 6, 3) := by decide +kernel
theorem dX9_asks_59 : decode cX9_asks 59 = .ok (.bipush (-5), 2) := by decide +kernel
theorem dX9_asks_61 : decode cX9_asks 61 = .ok (.ireturn, 1) := by decide +kernel
theorem dX9_asks_62 : decode cX9_asks 62 = .ok (.aload_n 0, 1) := by decide +kernel
theorem dX9_asks_63 : decode cX9_asks 63 = .ok (.getfield 75, 3) := by decide +kernel
theorem dX9_asks_66 : decode cX9_asks 66 = .ok (.iload_n 2, 1) := by decide +kernel
theorem dX9_asks_67 : decode cX9_asks 67 = .ok (.iload_n 1, 1) := by decide +kernel
theorem dX9_asks_68 : decode cX9_asks 68 = .ok (.invokevirtual 384, 3) := by decide +kernel
theorem dX9_asks_71 : decode cX9_asks 71 = .ok (.aload_n 0, 1) := by decide +kernel
theorem dX9_asks_72 : decode cX9_asks 72 = .ok (.getfield 26, 3) := by decide +kernel
theorem dX9_asks_75 : decode cX9_asks 75 = .ok (.aload_n 0, 1) := by decide +kernel
theorem dX9_asks_76 : decode cX9_asks 76 = .ok (.getfield 75, 3) := by decide +kernel
theorem dX9_asks_79 : decode cX9_asks 79 = .ok (.invokevirtual 153, 3) := by decide +kernel
theorem dX9_asks_82 : decode cX9_asks 82 = .ok (.aload_n 0, 1) := by decide +kernel
theorem dX9_asks_83 : decode cX9_asks 83 = .ok (.getfield 26, 3) := by decide +kernel
theorem dX9_asks_86 : decode cX9_asks 86 = .ok (.getfield 199, 3) := by decide +kernel
theorem dX9_asks_89 : decode cX9_asks 89 = .ok (.iload_n 1, 1) := by decide +kernel
theorem dX9_asks_90 : decode cX9_asks 90 = .ok (.iaload, 1) := by decide +kernel
theorem dX9_asks_91 : decode cX9_asks 91 = .ok (.iconst (-1), 1) := by decide +kernel
theorem dX9_asks_92 : decode cX9_asks 92 = .ok (.if_icmp .ne 7, 3) := by decide +kernel
theorem dX9_asks_95 : decode cX9_asks 95 = .ok (.iconst 0, 1) := by decide +kernel
theorem dX9_asks_96 : decode cX9_asks 96 = .ok (.goto 4, 3) := by decide +kernel
theorem dX9_asks_99 : decode cX9_asks 99 = .ok (.iconst 1, 1) := by decide +kernel
theorem dX9_asks_100 : decode cX9_asks 100 = .ok (.ireturn, 1) := by decide +kernel
theorem dX9_feeds_0 : decode cX9_feeds 0 = .ok (.aload_n 0, 1) := by decide +kernel
theorem dX9_feeds_1 : decode cX9_feeds 1 = .ok (.getfield 75, 3) := by decide +kernel
theorem dX9_feeds_4 : decode cX9_feeds 4 = .ok (.iload_n 1, 1) := by decide +kernel
theorem dX9_feeds_5 : decode cX9_feeds 5 = .ok (.invokevirtual 147, 3) := by decide +kernel
theorem dX9_feeds_8 : decode cX9_feeds 8 = .ok (.ifCond .ne 6, 3) := by decide +kernel
theorem dX9_feeds_11 : decode cX9_feeds 11 = .ok (.bipush (-2), 2) := by decide +kernel
theorem dX9_feeds_13 : decode cX9_feeds 13 = .ok (.ireturn, 1) := by decide +kernel
theorem dX9_feeds_14 : decode cX9_feeds 14 = .ok (.aload_n 0, 1) := by decide +kernel
theorem dX9_feeds_15 : decode cX9_feeds 15 = .ok (.getfield 75, 3) := by decide +kernel
theorem dX9_feeds_18 : decode cX9_feeds 18 = .ok (.iload_n 1, 1) := by decide +kernel
theorem dX9_feeds_19 : decode cX9_feeds 19 = .ok (.invokevirtual 375, 3) := by decide +kernel
theorem dX9_feeds_22 : decode cX9_feeds 22 = .ok (.ifCond .eq 15, 3) := by decide +kernel
theorem dX9_feeds_25 : decode cX9_feeds 25 = .ok (.aload_n 0, 1) := by decide +kernel
theorem dX9_feeds_26 : decode cX9_feeds 26 = .ok (.getfield 75, 3) := by decide +kernel
theorem dX9_feeds_29 : decode cX9_feeds 29 = .ok (.getfield 381, 3) := by decide +kernel
theorem dX9_feeds_32 : decode cX9_feeds 32 = .ok (.bipush 20, 2) := by decide +kernel
theorem dX9_feeds_34 : decode cX9_feeds 34 = .ok (.if_icmp .lt 6, 3) := by decide +kernel
theorem dX9_feeds_37 : decode cX9_feeds 37 = .ok (.bipush (-5), 2) := by decide +kernel
theorem dX9_feeds_39 : decode cX9_feeds 39 = .ok (.ireturn, 1) := by decide +kernel
theorem dX9_feeds_40 : decode cX9_feeds 40 = .ok (.aload_n 0, 1) := by decide +kernel
theorem dX9_feeds_41 : decode cX9_feeds 41 = .ok (.getfield 75, 3) := by decide +kernel
theorem dX9_feeds_44 : decode cX9_feeds 44 = .ok (.iload_n 1, 1) := by decide +kernel
theorem dX9_feeds_45 : decode cX9_feeds 45 = .ok (.iconst (-1), 1) := by decide +kernel
theorem dX9_feeds_46 : decode cX9_feeds 46 = .ok (.invokevirtual 384, 3) := by decide +kernel
theorem dX9_feeds_49 : decode cX9_feeds 49 = .ok (.aload_n 0, 1) := by decide +kernel
theorem dX9_feeds_50 : decode cX9_feeds 50 = .ok (.getfield 26, 3) := by decide +kernel
theorem dX9_feeds_53 : decode cX9_feeds 53 = .ok (.aload_n 0, 1) := by decide +kernel
theorem dX9_feeds_54 : decode cX9_feeds 54 = .ok (.getfield 75, 3) := by decide +kernel
theorem dX9_feeds_57 : decode cX9_feeds 57 = .ok (.invokevirtual 153, 3) := by decide +kernel
theorem dX9_feeds_60 : decode cX9_feeds 60 = .ok (.aload_n 0, 1) := by decide +kernel
theorem dX9_feeds_61 : decode cX9_feeds 61 = .ok (.getfield 26, 3) := by decide +kernel
theorem dX9_feeds_64 : decode cX9_feeds 64 = .ok (.getfield 157, 3) := by decide +kernel
theorem dX9_feeds_67 : decode cX9_feeds 67 = .ok (.iload_n 1, 1) := by decide +kernel
theorem dX9_feeds_68 : decode cX9_feeds 68 = .ok (.iaload, 1) := by decide +kernel
theorem dX9_feeds_69 : decode cX9_feeds 69 = .ok (.ireturn, 1) := by decide +kernel
theorem dX9_undo_0 : decode cX9_undo 0 = .ok (.aload_n 0, 1) := by decide +kernel
theorem dX9_undo_1 : decode cX9_undo 1 = .ok (.getfield 75, 3) := by decide +kernel
theorem dX9_undo_4 : decode cX9_undo 4 = .ok (.invokevirtual 130, 3) := by decide +kernel
theorem dX9_undo_7 : decode cX9_undo 7 = .ok (.ifCond .ne 6, 3) := by decide +kernel
theorem dX9_undo_10 : decode cX9_undo 10 = .ok (.bipush (-2), 2) := by decide +kernel
theorem dX9_undo_12 : decode cX9_undo 12 = .ok (.ireturn, 1) := by decide +kernel
theorem dX9_undo_13 : decode cX9_undo 13 = .ok (.aload_n 0, 1) := by decide +kernel
theorem dX9_undo_14 : decode cX9_undo 14 = .ok (.getfield 75, 3) := by decide +kernel
theorem dX9_undo_17 : decode cX9_undo 17 = .ok (.getfield 381, 3) := by decide +kernel
theorem dX9_undo_20 : decode cX9_undo 20 = .ok (.ifCond .gt 6, 3) := by decide +kernel
theorem dX9_undo_23 : decode cX9_undo 23 = .ok (.bipush (-5), 2) := by decide +kernel
theorem dX9_undo_25 : decode cX9_undo 25 = .ok (.ireturn, 1) := by decide +kernel
theorem dX9_undo_26 : decode cX9_undo 26 = .ok (.aload_n 0, 1) := by decide +kernel
theorem dX9_undo_27 : decode cX9_undo 27 = .ok (.getfield 75, 3) := by decide +kernel
theorem dX9_undo_30 : decode cX9_undo 30 = .ok (.dup, 1) := by decide +kernel
theorem dX9_undo_31 : decode cX9_undo 31 = .ok (.getfield 381, 3) := by decide +kernel
theorem dX9_undo_34 : decode cX9_undo 34 = .ok (.iconst 1, 1) := by decide +kernel
theorem dX9_undo_35 : decode cX9_undo 35 = .ok (.isub, 1) := by decide +kernel
theorem dX9_undo_36 : decode cX9_undo 36 = .ok (.putfield 381, 3) := by decide +kernel
theorem dX9_undo_39 : decode cX9_undo 39 = .ok (.aload_n 0, 1) := by decide +kernel
theorem dX9_undo_40 : decode cX9_undo 40 = .ok (.getfield 75, 3) := by decide +kernel
theorem dX9_undo_43 : decode cX9_undo 43 = .ok (.getfield 381, 3) := by decide +kernel
theorem dX9_undo_46 : decode cX9_undo 46 = .ok (.ireturn, 1) := by decide +kernel
theorem dX9_anew_0 : decode cX9_anew 0 = .ok (.aload_n 0, 1) := by decide +kernel
theorem dX9_anew_1 : decode cX9_anew 1 = .ok (.getfield 75, 3) := by decide +kernel
theorem dX9_anew_4 : decode cX9_anew 4 = .ok (.invokevirtual 130, 3) := by decide +kernel
theorem dX9_anew_7 : decode cX9_anew 7 = .ok (.ifCond .ne 6, 3) := by decide +kernel
theorem dX9_anew_10 : decode cX9_anew 10 = .ok (.bipush (-2), 2) := by decide +kernel
theorem dX9_anew_12 : decode cX9_anew 12 = .ok (.ireturn, 1) := by decide +kernel
theorem dX9_anew_13 : decode cX9_anew 13 = .ok (.aload_n 0, 1) := by decide +kernel
theorem dX9_anew_14 : decode cX9_anew 14 = .ok (.getfield 75, 3) := by decide +kernel
theorem dX9_anew_17 : decode cX9_anew 17 = .ok (.getfield 381, 3) := by decide +kernel
theorem dX9_anew_20 : decode cX9_anew 20 = .ok (.istore_n 1, 1) := by decide +kernel
theorem dX9_anew_21 : decode cX9_anew 21 = .ok (.aload_n 0, 1) := by decide +kernel
theorem dX9_anew_22 : decode cX9_anew 22 = .ok (.getfield 75, 3) := by decide +kernel
theorem dX9_anew_25 : decode cX9_anew 25 = .ok (.iconst 0, 1) := by decide +kernel
theorem dX9_anew_26 : decode cX9_anew 26 = .ok (.putfield 381, 3) := by decide +kernel
theorem dX9_anew_29 : decode cX9_anew 29 = .ok (.iload_n 1, 1) := by decide +kernel
theorem dX9_anew_30 : decode cX9_anew 30 = .ok (.ireturn, 1) := by decide +kernel
theorem dX9_drawn_0 : decode cX9_drawn 0 = .ok (.iload_n 1, 1) := by decide +kernel
theorem dX9_drawn_1 : decode cX9_drawn 1 = .ok (.invokestatic 388, 3) := by decide +kernel
theorem dX9_drawn_4 : decode cX9_drawn 4 = .ok (.ifCond .eq 20, 3) := by decide +kernel
theorem dX9_drawn_7 : decode cX9_drawn 7 = .ok (.iload_n 2, 1) := by decide +kernel
theorem dX9_drawn_8 : decode cX9_drawn 8 = .ok (.invokestatic 325, 3) := by decide +kernel
theorem dX9_drawn_11 : decode cX9_drawn 11 = .ok (.ifCond .eq 13, 3) := by decide +kernel
theorem dX9_drawn_14 : decode cX9_drawn 14 = .ok (.aload_n 0, 1) := by decide +kernel
theorem dX9_drawn_15 : decode cX9_drawn 15 = .ok (.getfield 75, 3) := by decide +kernel
theorem dX9_drawn_18 : decode cX9_drawn 18 = .ok (.invokevirtual 130, 3) := by decide +kernel
theorem dX9_drawn_21 : decode cX9_drawn 21 = .ok (.ifCond .ne 6, 3) := by decide +kernel
theorem dX9_drawn_24 : decode cX9_drawn 24 = .ok (.bipush (-2), 2) := by decide +kernel
theorem dX9_drawn_26 : decode cX9_drawn 26 = .ok (.ireturn, 1) := by decide +kernel
theorem dX9_drawn_27 : decode cX9_drawn 27 = .ok (.aload_n 0, 1) := by decide +kernel
theorem dX9_drawn_28 : decode cX9_drawn 28 = .ok (.getfield 26, 3) := by decide +kernel
theorem dX9_drawn_31 : decode cX9_drawn 31 = .ok (.aload_n 0, 1) := by decide +kernel
theorem dX9_drawn_32 : decode cX9_drawn 32 = .ok (.getfield 75, 3) := by decide +kernel
theorem dX9_drawn_35 : decode cX9_drawn 35 = .ok (.iload_n 1, 1) := by decide +kernel
theorem dX9_drawn_36 : decode cX9_drawn 36 = .ok (.invokevirtual 391, 3) := by decide +kernel
theorem dX9_drawn_39 : decode cX9_drawn 39 = .ok (.iload_n 2, 1) := by decide +kernel
theorem dX9_drawn_40 : decode cX9_drawn 40 = .ok (.ifCond .ne 17, 3) := by decide +kernel
theorem dX9_drawn_43 : decode cX9_drawn 43 = .ok (.aload_n 0, 1) := by decide +kernel
theorem dX9_drawn_44 : decode cX9_drawn 44 = .ok (.getfield 26, 3) := by decide +kernel
theorem dX9_drawn_47 : decode cX9_drawn 47 = .ok (.aload_n 0, 1) := by decide +kernel
theorem dX9_drawn_48 : decode cX9_drawn 48 = .ok (.getfield 75, 3) := by decide +kernel
theorem dX9_drawn_51 : decode cX9_drawn 51 = .ok (.invokevirtual 205, 3) := by decide +kernel
theorem dX9_drawn_54 : decode cX9_drawn 54 = .ok (.goto 10, 3) := by decide +kernel
theorem dX9_drawn_57 : decode cX9_drawn 57 = .ok (.aload_n 0, 1) := by decide +kernel
theorem dX9_drawn_58 : decode cX9_drawn 58 = .ok (.getfield 26, 3) := by decide +kernel
theorem dX9_drawn_61 : decode cX9_drawn 61 = .ok (.getfield 395, 3) := by decide +kernel
theorem dX9_drawn_64 : decode cX9_drawn 64 = .ok (.ireturn, 1) := by decide +kernel
theorem dX9_luck_0 : decode cX9_luck 0 = .ok (.iload_n 1, 1) := by decide +kernel
theorem dX9_luck_1 : decode cX9_luck 1 = .ok (.invokestatic 388, 3) := by decide +kernel
theorem dX9_luck_4 : decode cX9_luck 4 = .ok (.ifCond .eq 25, 3) := by decide +kernel
theorem dX9_luck_7 : decode cX9_luck 7 = .ok (.iload_n 2, 1) := by decide +kernel
theorem dX9_luck_8 : decode cX9_luck 8 = .ok (.iconst 1, 1) := by decide +kernel
theorem dX9_luck_9 : decode cX9_luck 9 = .ok (.if_icmp .lt 20, 3) := by decide +kernel
theorem dX9_luck_12 : decode cX9_luck 12 = .ok (.iload_n 2, 1) := by decide +kernel
theorem dX9_luck_13 : decode cX9_luck 13 = .ok (.bipush 20, 2) := by decide +kernel
theorem dX9_luck_15 : decode cX9_luck 15 = .ok (.if_icmp .gt 14, 3) := by decide +kernel
theorem dX9_luck_18 : decode cX9_luck 18 = .ok (.aload_n 0, 1) := by decide +kernel
theorem dX9_luck_19 : decode cX9_luck 19 = .ok (.getfield 75, 3) := by decide +kernel
theorem dX9_luck_22 : decode cX9_luck 22 = .ok (.iload_n 3, 1) := by decide +kernel
theorem dX9_luck_23 : decode cX9_luck 23 = .ok (.invokevirtual 118, 3) := by decide +kernel
theorem dX9_luck_26 : decode cX9_luck 26 = .ok (.ifCond .ne 6, 3) := by decide +kernel
theorem dX9_luck_29 : decode cX9_luck 29 = .ok (.bipush (-2), 2) := by decide +kernel
theorem dX9_luck_31 : decode cX9_luck 31 = .ok (.ireturn, 1) := by decide +kernel
theorem dX9_luck_32 : decode cX9_luck 32 = .ok (.iconst 0, 1) := by decide +kernel
theorem dX9_luck_33 : decode cX9_luck 33 = .ok (.istore 4, 2) := by decide +kernel
theorem dX9_luck_35 : decode cX9_luck 35 = .ok (.iconst 0, 1) := by decide +kernel
theorem dX9_luck_36 : decode cX9_luck 36 = .ok (.istore 5, 2) := by decide +kernel
theorem dX9_luck_38 : decode cX9_luck 38 = .ok (.iload 5, 2) := by decide +kernel
theorem dX9_luck_40 : decode cX9_luck 40 = .ok (.iload_n 2, 1) := by decide +kernel
theorem dX9_luck_41 : decode cX9_luck 41 = .ok (.if_icmp .ge 40, 3) := by decide +kernel
theorem dX9_luck_44 : decode cX9_luck 44 = .ok (.aload_n 0, 1) := by decide +kernel
theorem dX9_luck_45 : decode cX9_luck 45 = .ok (.getfield 26, 3) := by decide +kernel
theorem dX9_luck_48 : decode cX9_luck 48 = .ok (.aload_n 0, 1) := by decide +kernel
theorem dX9_luck_49 : decode cX9_luck 49 = .ok (.getfield 75, 3) := by decide +kernel
theorem dX9_luck_52 : decode cX9_luck 52 = .ok (.iload_n 1, 1) := by decide +kernel
theorem dX9_luck_53 : decode cX9_luck 53 = .ok (.iload 5, 2) := by decide +kernel
theorem dX9_luck_55 : decode cX9_luck 55 = .ok (.iadd, 1) := by decide +kernel
theorem dX9_luck_56 : decode cX9_luck 56 = .ok (.invokevirtual 391, 3) := by decide +kernel
theorem dX9_luck_59 : decode cX9_luck 59 = .ok (.aload_n 0, 1) := by decide +kernel
theorem dX9_luck_60 : decode cX9_luck 60 = .ok (.getfield 26, 3) := by decide +kernel
theorem dX9_luck_63 : decode cX9_luck 63 = .ok (.getfield 199, 3) := by decide +kernel
theorem dX9_luck_66 : decode cX9_luck 66 = .ok (.iload_n 3, 1) := by decide +kernel
theorem dX9_luck_67 : decode cX9_luck 67 = .ok (.iaload, 1) := by decide +kernel
theorem dX9_luck_68 : decode cX9_luck 68 = .ok (.iconst (-1), 1) := by decide +kernel
theorem dX9_luck_69 : decode cX9_luck 69 = .ok (.if_icmp .eq 6, 3) := by decide +kernel
theorem dX9_luck_72 : decode cX9_luck 72 = .ok (.iinc 4 1, 3) := by decide +kernel
theorem dX9_luck_75 : decode cX9_luck 75 = .ok (.iinc 5 1, 3) := by decide +kernel
theorem dX9_luck_78 : decode cX9_luck 78 = .ok (.goto (-40), 3) := by decide +kernel
theorem dX9_luck_81 : decode cX9_luck 81 = .ok (.iload 4, 2) := by decide +kernel
theorem dX9_luck_83 : decode cX9_luck 83 = .ok (.ireturn, 1) := by decide +kernel
theorem dX9_rate_0 : decode cX9_rate 0 = .ok (.aload_n 0, 1) := by decide +kernel
theorem dX9_rate_1 : decode cX9_rate 1 = .ok (.getfield 75, 3) := by decide +kernel
theorem dX9_rate_4 : decode cX9_rate 4 = .ok (.iload_n 1, 1) := by decide +kernel
theorem dX9_rate_5 : decode cX9_rate 5 = .ok (.invokevirtual 118, 3) := by decide +kernel
theorem dX9_rate_8 : decode cX9_rate 8 = .ok (.ifCond .eq 10, 3) := by decide +kernel
theorem dX9_rate_11 : decode cX9_rate 11 = .ok (.iload_n 2, 1) := by decide +kernel
theorem dX9_rate_12 : decode cX9_rate 12 = .ok (.invokestatic 356, 3) := by decide +kernel
theorem dX9_rate_15 : decode cX9_rate 15 = .ok (.ifCond .ne 6, 3) := by decide +kernel
theorem dX9_rate_18 : decode cX9_rate 18 = .ok (.bipush (-2), 2) := by decide +kernel
theorem dX9_rate_20 : decode cX9_rate 20 = .ok (.ireturn, 1) := by decide +kernel
theorem dX9_rate_21 : decode cX9_rate 21 = .ok (.aload_n 0, 1) := by decide +kernel
theorem dX9_rate_22 : decode cX9_rate 22 = .ok (.getfield 75, 3) := by decide +kernel
theorem dX9_rate_25 : decode cX9_rate 25 = .ok (.getfield 381, 3) := by decide +kernel
theorem dX9_rate_28 : decode cX9_rate 28 = .ok (.ifCond .le 6, 3) := by decide +kernel
theorem dX9_rate_31 : decode cX9_rate 31 = .ok (.bipush (-5), 2) := by decide +kernel
theorem dX9_rate_33 : decode cX9_rate 33 = .ok (.ireturn, 1) := by decide +kernel
theorem dX9_rate_34 : decode cX9_rate 34 = .ok (.aload_n 0, 1) := by decide +kernel
theorem dX9_rate_35 : decode cX9_rate 35 = .ok (.getfield 75, 3) := by decide +kernel
theorem dX9_rate_38 : decode cX9_rate 38 = .ok (.getfield 124, 3) := by decide +kernel
theorem dX9_rate_41 : decode cX9_rate 41 = .ok (.iload_n 1, 1) := by decide +kernel
theorem dX9_rate_42 : decode cX9_rate 42 = .ok (.iaload, 1) := by decide +kernel
theorem dX9_rate_43 : decode cX9_rate 43 = .ok (.istore_n 3, 1) := by decide +kernel
theorem dX9_rate_44 : decode cX9_rate 44 = .ok (.aload_n 0, 1) := by decide +kernel
theorem dX9_rate_45 : decode cX9_rate 45 = .ok (.getfield 75, 3) := by decide +kernel
theorem dX9_rate_48 : decode cX9_rate 48 = .ok (.getfield 124, 3) := by decide +kernel
theorem dX9_rate_51 : decode cX9_rate 51 = .ok (.iload_n 1, 1) := by decide +kernel
theorem dX9_rate_52 : decode cX9_rate 52 = .ok (.iload_n 2, 1) := by decide +kernel
theorem dX9_rate_53 : decode cX9_rate 53 = .ok (.iastore, 1) := by decide +kernel
theorem dX9_rate_54 : decode cX9_rate 54 = .ok (.iload_n 3, 1) := by decide +kernel
theorem dX9_rate_55 : decode cX9_rate 55 = .ok (.ireturn, 1) := by decide +kernel
theorem dX9_count_0 : decode cX9_count 0 = .ok (.iload_n 1, 1) := by decide +kernel
theorem dX9_count_1 : decode cX9_count 1 = .ok (.tableswitch 132 0 9 #[55, 63, 71, 79, 87, 95, 103, 111, 119, 127], 55) := by decide +kernel
theorem dX9_count_56 : decode cX9_count 56 = .ok (.aload_n 0, 1) := by decide +kernel
theorem dX9_count_57 : decode cX9_count 57 = .ok (.getfield 75, 3) := by decide +kernel
theorem dX9_count_60 : decode cX9_count 60 = .ok (.getfield 160, 3) := by decide +kernel
theorem dX9_count_63 : decode cX9_count 63 = .ok (.ireturn, 1) := by decide +kernel
theorem dX9_count_64 : decode cX9_count 64 = .ok (.aload_n 0, 1) := by decide +kernel
theorem dX9_count_65 : decode cX9_count 65 = .ok (.getfield 75, 3) := by decide +kernel
theorem dX9_count_68 : decode cX9_count 68 = .ok (.getfield 398, 3) := by decide +kernel
theorem dX9_count_71 : decode cX9_count 71 = .ok (.ireturn, 1) := by decide +kernel
theorem dX9_count_72 : decode cX9_count 72 = .ok (.aload_n 0, 1) := by decide +kernel
theorem dX9_count_73 : decode cX9_count 73 = .ok (.getfield 75, 3) := by decide +kernel
theorem dX9_count_76 : decode cX9_count 76 = .ok (.getfield 163, 3) := by decide +kernel
theorem dX9_count_79 : decode cX9_count 79 = .ok (.ireturn, 1) := by decide +kernel
theorem dX9_count_80 : decode cX9_count 80 = .ok (.aload_n 0, 1) := by decide +kernel
theorem dX9_count_81 : decode cX9_count 81 = .ok (.getfield 75, 3) := by decide +kernel
theorem dX9_count_84 : decode cX9_count 84 = .ok (.getfield 370, 3) := by decide +kernel
theorem dX9_count_87 : decode cX9_count 87 = .ok (.ireturn, 1) := by decide +kernel
theorem dX9_count_88 : decode cX9_count 88 = .ok (.aload_n 0, 1) := by decide +kernel
theorem dX9_count_89 : decode cX9_count 89 = .ok (.getfield 75, 3) := by decide +kernel
theorem dX9_count_92 : decode cX9_count 92 = .ok (.getfield 264, 3) := by decide +kernel
theorem dX9_count_95 : decode cX9_count 95 = .ok (.ireturn, 1) := by decide +kernel
theorem dX9_count_96 : decode cX9_count 96 = .ok (.aload_n 0, 1) := by decide +kernel
theorem dX9_count_97 : decode cX9_count 97 = .ok (.getfield 75, 3) := by decide +kernel
theorem dX9_count_100 : decode cX9_count 100 = .ok (.getfield 166, 3) := by decide +kernel
theorem dX9_count_103 : decode cX9_count 103 = .ok (.ireturn, 1) := by decide +kernel
theorem dX9_count_104 : decode cX9_count 104 = .ok (.aload_n 0, 1) := by decide +kernel
theorem dX9_count_105 : decode cX9_count 105 = .ok (.getfield 75, 3) := by decide +kernel
theorem dX9_count_108 : decode cX9_count 108 = .ok (.getfield 381, 3) := by decide +kernel
theorem dX9_count_111 : decode cX9_count 111 = .ok (.ireturn, 1) := by decide +kernel
theorem dX9_count_112 : decode cX9_count 112 = .ok (.aload_n 0, 1) := by decide +kernel
theorem dX9_count_113 : decode cX9_count 113 = .ok (.getfield 75, 3) := by decide +kernel
theorem dX9_count_116 : decode cX9_count 116 = .ok (.getfield 95, 3) := by decide +kernel
theorem dX9_count_119 : decode cX9_count 119 = .ok (.ireturn, 1) := by decide +kernel
theorem dX9_count_120 : decode cX9_count 120 = .ok (.aload_n 0, 1) := by decide +kernel
theorem dX9_count_121 : decode cX9_count 121 = .ok (.getfield 10, 3) := by decide +kernel
theorem dX9_count_124 : decode cX9_count 124 = .ok (.getfield 83, 3) := by decide +kernel
theorem dX9_count_127 : decode cX9_count 127 = .ok (.ireturn, 1) := by decide +kernel
theorem dX9_count_128 : decode cX9_count 128 = .ok (.aload_n 0, 1) := by decide +kernel
theorem dX9_count_129 : decode cX9_count 129 = .ok (.invokevirtual 401, 3) := by decide +kernel
theorem dX9_count_132 : decode cX9_count 132 = .ok (.ireturn, 1) := by decide +kernel
theorem dX9_count_133 : decode cX9_count 133 = .ok (.iconst (-1), 1) := by decide +kernel
theorem dX9_count_134 : decode cX9_count 134 = .ok (.ireturn, 1) := by decide +kernel
theorem dX9_image_0 : decode cX9_image 0 = .ok (.iload_n 1, 1) := by decide +kernel
theorem dX9_image_1 : decode cX9_image 1 = .ok (.invokestatic 404, 3) := by decide +kernel
theorem dX9_image_4 : decode cX9_image 4 = .ok (.ifCond .ne 6, 3) := by decide +kernel
theorem dX9_image_7 : decode cX9_image 7 = .ok (.bipush (-2), 2) := by decide +kernel
theorem dX9_image_9 : decode cX9_image 9 = .ok (.ireturn, 1) := by decide +kernel
theorem dX9_image_10 : decode cX9_image 10 = .ok (.aload_n 0, 1) := by decide +kernel
theorem dX9_image_11 : decode cX9_image 11 = .ok (.getfield 66, 3) := by decide +kernel
theorem dX9_image_14 : decode cX9_image 14 = .ok (.iload_n 1, 1) := by decide +kernel
theorem dX9_image_15 : decode cX9_image 15 = .ok (.aaload, 1) := by decide +kernel
theorem dX9_image_16 : decode cX9_image 16 = .ok (.aload_n 0, 1) := by decide +kernel
theorem dX9_image_17 : decode cX9_image 17 = .ok (.getfield 75, 3) := by decide +kernel
theorem dX9_image_20 : decode cX9_image 20 = .ok (.invokevirtual 407, 3) := by decide +kernel
theorem dX9_image_23 : decode cX9_image 23 = .ok (.aload_n 0, 1) := by decide +kernel
theorem dX9_image_24 : decode cX9_image 24 = .ok (.getfield 70, 3) := by decide +kernel
theorem dX9_image_27 : decode cX9_image 27 = .ok (.iload_n 1, 1) := by decide +kernel
theorem dX9_image_28 : decode cX9_image 28 = .ok (.iconst 1, 1) := by decide +kernel
theorem dX9_image_29 : decode cX9_image 29 = .ok (.bastore, 1) := by decide +kernel
theorem dX9_image_30 : decode cX9_image 30 = .ok (.iconst 0, 1) := by decide +kernel
theorem dX9_image_31 : decode cX9_image 31 = .ok (.ireturn, 1) := by decide +kernel
theorem dX9_back_0 : decode cX9_back 0 = .ok (.iload_n 1, 1) := by decide +kernel
theorem dX9_back_1 : decode cX9_back 1 = .ok (.invokestatic 404, 3) := by decide +kernel
theorem dX9_back_4 : decode cX9_back 4 = .ok (.ifCond .ne 6, 3) := by decide +kernel
theorem dX9_back_7 : decode cX9_back 7 = .ok (.bipush (-2), 2) := by decide +kernel
theorem dX9_back_9 : decode cX9_back 9 = .ok (.ireturn, 1) := by decide +kernel
theorem dX9_back_10 : decode cX9_back 10 = .ok (.aload_n 0, 1) := by decide +kernel
theorem dX9_back_11 : decode cX9_back 11 = .ok (.getfield 70, 3) := by decide +kernel
theorem dX9_back_14 : decode cX9_back 14 = .ok (.iload_n 1, 1) := by decide +kernel
theorem dX9_back_15 : decode cX9_back 15 = .ok (.baload, 1) := by decide +kernel
theorem dX9_back_16 : decode cX9_back 16 = .ok (.ifCond .ne 6, 3) := by decide +kernel
theorem dX9_back_19 : decode cX9_back 19 = .ok (.bipush (-6), 2) := by decide +kernel
theorem dX9_back_21 : decode cX9_back 21 = .ok (.ireturn, 1) := by decide +kernel
theorem dX9_back_22 : decode cX9_back 22 = .ok (.aload_n 0, 1) := by decide +kernel
theorem dX9_back_23 : decode cX9_back 23 = .ok (.getfield 75, 3) := by decide +kernel
theorem dX9_back_26 : decode cX9_back 26 = .ok (.aload_n 0, 1) := by decide +kernel
theorem dX9_back_27 : decode cX9_back 27 = .ok (.getfield 66, 3) := by decide +kernel
theorem dX9_back_30 : decode cX9_back 30 = .ok (.iload_n 1, 1) := by decide +kernel
theorem dX9_back_31 : decode cX9_back 31 = .ok (.aaload, 1) := by decide +kernel
theorem dX9_back_32 : decode cX9_back 32 = .ok (.invokevirtual 407, 3) := by decide +kernel
theorem dX9_back_35 : decode cX9_back 35 = .ok (.iconst 0, 1) := by decide +kernel
theorem dX9_back_36 : decode cX9_back 36 = .ok (.ireturn, 1) := by decide +kernel
theorem dX9_row_0 : decode cX9_row 0 = .ok (.iload_n 1, 1) := by decide +kernel
theorem dX9_row_1 : decode cX9_row 1 = .ok (.invokestatic 315, 3) := by decide +kernel
theorem dX9_row_4 : decode cX9_row 4 = .ok (.ifCond .eq 18, 3) := by decide +kernel
theorem dX9_row_7 : decode cX9_row 7 = .ok (.iload_n 2, 1) := by decide +kernel
theorem dX9_row_8 : decode cX9_row 8 = .ok (.ifCond .lt 14, 3) := by decide +kernel
theorem dX9_row_11 : decode cX9_row 11 = .ok (.iload_n 2, 1) := by decide +kernel
theorem dX9_row_12 : decode cX9_row 12 = .ok (.iconst 3, 1) := by decide +kernel
theorem dX9_row_13 : decode cX9_row 13 = .ok (.if_icmp .gt 9, 3) := by decide +kernel
theorem dX9_row_16 : decode cX9_row 16 = .ok (.iload_n 3, 1) := by decide +kernel
theorem dX9_row_17 : decode cX9_row 17 = .ok (.bipush 60, 2) := by decide +kernel
theorem dX9_row_19 : decode cX9_row 19 = .ok (.if_icmp .le 6, 3) := by decide +kernel
theorem dX9_row_22 : decode cX9_row 22 = .ok (.bipush (-2), 2) := by decide +kernel
theorem dX9_row_24 : decode cX9_row 24 = .ok (.ireturn, 1) := by decide +kernel
theorem dX9_row_25 : decode cX9_row 25 = .ok (.iload_n 3, 1) := by decide +kernel
theorem dX9_row_26 : decode cX9_row 26 = .ok (.ifCond .ge 6, 3) := by decide +kernel
theorem dX9_row_29 : decode cX9_row 29 = .ok (.bipush (-3), 2) := by decide +kernel
theorem dX9_row_31 : decode cX9_row 31 = .ok (.ireturn, 1) := by decide +kernel
theorem dX9_row_32 : decode cX9_row 32 = .ok (.aload_n 0, 1) := by decide +kernel
theorem dX9_row_33 : decode cX9_row 33 = .ok (.getfield 46, 3) := by decide +kernel
theorem dX9_row_36 : decode cX9_row 36 = .ok (.iload_n 1, 1) := by decide +kernel
theorem dX9_row_37 : decode cX9_row 37 = .ok (.aaload, 1) := by decide +kernel
theorem dX9_row_38 : decode cX9_row 38 = .ok (.iload_n 2, 1) := by decide +kernel
theorem dX9_row_39 : decode cX9_row 39 = .ok (.iload_n 3, 1) := by decide +kernel
theorem dX9_row_40 : decode cX9_row 40 = .ok (.invokevirtual 410, 3) := by decide +kernel
theorem dX9_row_43 : decode cX9_row 43 = .ok (.iconst 0, 1) := by decide +kernel
theorem dX9_row_44 : decode cX9_row 44 = .ok (.ireturn, 1) := by decide +kernel
theorem dX9_write_0 : decode cX9_write 0 = .ok (.iload_n 1, 1) := by decide +kernel
theorem dX9_write_1 : decode cX9_write 1 = .ok (.invokestatic 315, 3) := by decide +kernel
theorem dX9_write_4 : decode cX9_write 4 = .ok (.ifCond .ne 6, 3) := by decide +kernel
theorem dX9_write_7 : decode cX9_write 7 = .ok (.bipush (-2), 2) := by decide +kernel
theorem dX9_write_9 : decode cX9_write 9 = .ok (.ireturn, 1) := by decide +kernel
theorem dX9_write_10 : decode cX9_write 10 = .ok (.aload_n 0, 1) := by decide +kernel
theorem dX9_write_11 : decode cX9_write 11 = .ok (.getfield 46, 3) := by decide +kernel
theorem dX9_write_14 : decode cX9_write 14 = .ok (.iload_n 1, 1) := by decide +kernel
theorem dX9_write_15 : decode cX9_write 15 = .ok (.aaload, 1) := by decide +kernel
theorem dX9_write_16 : decode cX9_write 16 = .ok (.astore 5, 2) := by decide +kernel
theorem dX9_write_18 : decode cX9_write 18 = .ok (.aload 5, 2) := by decide +kernel
theorem dX9_write_20 : decode cX9_write 20 = .ok (.invokevirtual 318, 3) := by decide +kernel
theorem dX9_write_23 : decode cX9_write 23 = .ok (.ifCond .ne 6, 3) := by decide +kernel
theorem dX9_write_26 : decode cX9_write 26 = .ok (.bipush (-6), 2) := by decide +kernel
theorem dX9_write_28 : decode cX9_write 28 = .ok (.ireturn, 1) := by decide +kernel
theorem dX9_write_29 : decode cX9_write 29 = .ok (.iload_n 2, 1) := by decide +kernel
theorem dX9_write_30 : decode cX9_write 30 = .ok (.ifCond .lt 12, 3) := by decide +kernel
theorem dX9_write_33 : decode cX9_write 33 = .ok (.iload_n 2, 1) := by decide +kernel
theorem dX9_write_34 : decode cX9_write 34 = .ok (.aload 5, 2) := by decide +kernel
theorem dX9_write_36 : decode cX9_write 36 = .ok (.getfield 413, 3) := by decide +kernel
theorem dX9_write_39 : decode cX9_write 39 = .ok (.if_icmp .lt 6, 3) := by decide +kernel
theorem dX9_write_42 : decode cX9_write 42 = .ok (.bipush (-7), 2) := by decide +kernel
theorem dX9_write_44 : decode cX9_write 44 = .ok (.ireturn, 1) := by decide +kernel
theorem dX9_write_45 : decode cX9_write 45 = .ok (.aload 5, 2) := by decide +kernel
theorem dX9_write_47 : decode cX9_write 47 = .ok (.getfield 416, 3) := by decide +kernel
theorem dX9_write_50 : decode cX9_write 50 = .ok (.iload_n 2, 1) := by decide +kernel
theorem dX9_write_51 : decode cX9_write 51 = .ok (.aload 5, 2) := by decide +kernel
theorem dX9_write_53 : decode cX9_write 53 = .ok (.lload_n 3, 1) := by decide +kernel
theorem dX9_write_54 : decode cX9_write 54 = .ok (.invokevirtual 420, 3) := by decide +kernel
theorem dX9_write_57 : decode cX9_write 57 = .ok (.lastore, 1) := by decide +kernel
theorem dX9_write_58 : decode cX9_write 58 = .ok (.iconst 0, 1) := by decide +kernel
theorem dX9_write_59 : decode cX9_write 59 = .ok (.ireturn, 1) := by decide +kernel
theorem dX9_paste_0 : decode cX9_paste 0 = .ok (.iload_n 1, 1) := by decide +kernel
theorem dX9_paste_1 : decode cX9_paste 1 = .ok (.invokestatic 315, 3) := by decide +kernel
theorem dX9_paste_4 : decode cX9_paste 4 = .ok (.ifCond .eq 10, 3) := by decide +kernel
theorem dX9_paste_7 : decode cX9_paste 7 = .ok (.iload_n 3, 1) := by decide +kernel
theorem dX9_paste_8 : decode cX9_paste 8 = .ok (.invokestatic 315, 3) := by decide +kernel
theorem dX9_paste_11 : decode cX9_paste 11 = .ok (.ifCond .ne 6, 3) := by decide +kernel
theorem dX9_paste_14 : decode cX9_paste 14 = .ok (.bipush (-2), 2) := by decide +kernel
theorem dX9_paste_16 : decode cX9_paste 16 = .ok (.ireturn, 1) := by decide +kernel
theorem dX9_paste_17 : decode cX9_paste 17 = .ok (.aload_n 0, 1) := by decide +kernel
theorem dX9_paste_18 : decode cX9_paste 18 = .ok (.getfield 46, 3) := by decide +kernel
theorem dX9_paste_21 : decode cX9_paste 21 = .ok (.iload_n 1, 1) := by decide +kernel
theorem dX9_paste_22 : decode cX9_paste 22 = .ok (.aaload, 1) := by decide +kernel
theorem dX9_paste_23 : decode cX9_paste 23 = .ok (.astore 6, 2) := by decide +kernel
theorem dX9_paste_25 : decode cX9_paste 25 = .ok (.aload_n 0, 1) := by decide +kernel
theorem dX9_paste_26 : decode cX9_paste 26 = .ok (.getfield 46, 3) := by decide +kernel
theorem dX9_paste_29 : decode cX9_paste 29 = .ok (.iload_n 3, 1) := by decide +kernel
theorem dX9_paste_30 : decode cX9_paste 30 = .ok (.aaload, 1) := by decide +kernel
theorem dX9_paste_31 : decode cX9_paste 31 = .ok (.astore 7, 2) := by decide +kernel
theorem dX9_paste_33 : decode cX9_paste 33 = .ok (.aload 6, 2) := by decide +kernel
theorem dX9_paste_35 : decode cX9_paste 35 = .ok (.invokevirtual 318, 3) := by decide +kernel
theorem dX9_paste_38 : decode cX9_paste 38 = .ok (.ifCond .eq 11, 3) := by decide +kernel
theorem dX9_paste_41 : decode cX9_paste 41 = .ok (.aload 7, 2) := by decide +kernel
theorem dX9_paste_43 : decode cX9_paste 43 = .ok (.invokevirtual 318, 3) := by decide +kernel
theorem dX9_paste_46 : decode cX9_paste 46 = .ok (.ifCond .ne 6, 3) := by decide +kernel
theorem dX9_paste_49 : decode cX9_paste 49 = .ok (.bipush (-6), 2) := by decide +kernel
theorem dX9_paste_51 : decode cX9_paste 51 = .ok (.ireturn, 1) := by decide +kernel
theorem dX9_paste_52 : decode cX9_paste 52 = .ok (.aload 6, 2) := by decide +kernel
theorem dX9_paste_54 : decode cX9_paste 54 = .ok (.getfield 424, 3) := by decide +kernel
theorem dX9_paste_57 : decode cX9_paste 57 = .ok (.aload 7, 2) := by decide +kernel
theorem dX9_paste_59 : decode cX9_paste 59 = .ok (.getfield 424, 3) := by decide +kernel
theorem dX9_paste_62 : decode cX9_paste 62 = .ok (.if_icmp .eq 6, 3) := by decide +kernel
theorem dX9_paste_65 : decode cX9_paste 65 = .ok (.bipush (-8), 2) := by decide +kernel
theorem dX9_paste_67 : decode cX9_paste 67 = .ok (.ireturn, 1) := by decide +kernel
theorem dX9_paste_68 : decode cX9_paste 68 = .ok (.aload 6, 2) := by decide +kernel
theorem dX9_paste_70 : decode cX9_paste 70 = .ok (.iload_n 2, 1) := by decide +kernel
theorem dX9_paste_71 : decode cX9_paste 71 = .ok (.iload 5, 2) := by decide +kernel
theorem dX9_paste_73 : decode cX9_paste 73 = .ok (.invokevirtual 427, 3) := by decide +kernel
theorem dX9_paste_76 : decode cX9_paste 76 = .ok (.ifCond .eq 15, 3) := by decide +kernel
theorem dX9_paste_79 : decode cX9_paste 79 = .ok (.aload 7, 2) := by decide +kernel
theorem dX9_paste_81 : decode cX9_paste 81 = .ok (.iload 4, 2) := by decide +kernel
theorem dX9_paste_83 : decode cX9_paste 83 = .ok (.iload 5, 2) := by decide +kernel
theorem dX9_paste_85 : decode cX9_paste 85 = .ok (.invokevirtual 427, 3) := by decide +kernel
theorem dX9_paste_88 : decode cX9_paste 88 = .ok (.ifCond .ne 6, 3) := by decide +kernel
theorem dX9_paste_91 : decode cX9_paste 91 = .ok (.bipush (-7), 2) := by decide +kernel
theorem dX9_paste_93 : decode cX9_paste 93 = .ok (.ireturn, 1) := by decide +kernel
theorem dX9_paste_94 : decode cX9_paste 94 = .ok (.aload 6, 2) := by decide +kernel
theorem dX9_paste_96 : decode cX9_paste 96 = .ok (.getfield 416, 3) := by decide +kernel
theorem dX9_paste_99 : decode cX9_paste 99 = .ok (.iload_n 2, 1) := by decide +kernel
theorem dX9_paste_100 : decode cX9_paste 100 = .ok (.aload 7, 2) := by decide +kernel
theorem dX9_paste_102 : decode cX9_paste 102 = .ok (.getfield 416, 3) := by decide +kernel
theorem dX9_paste_105 : decode cX9_paste 105 = .ok (.iload 4, 2) := by decide +kernel
theorem dX9_paste_107 : decode cX9_paste 107 = .ok (.iload 5, 2) := by decide +kernel
theorem dX9_paste_109 : decode cX9_paste 109 = .ok (.invokestatic 430, 3) := by decide +kernel
theorem dX9_paste_112 : decode cX9_paste 112 = .ok (.iconst 0, 1) := by decide +kernel
theorem dX9_paste_113 : decode cX9_paste 113 = .ok (.ireturn, 1) := by decide +kernel
theorem dX9_slotsInUse_0 : decode cX9_slotsInUse 0 = .ok (.iconst 0, 1) := by decide +kernel
theorem dX9_slotsInUse_1 : decode cX9_slotsInUse 1 = .ok (.istore_n 1, 1) := by decide +kernel
theorem dX9_slotsInUse_2 : decode cX9_slotsInUse 2 = .ok (.iconst 0, 1) := by decide +kernel
theorem dX9_slotsInUse_3 : decode cX9_slotsInUse 3 = .ok (.istore_n 2, 1) := by decide +kernel
theorem dX9_slotsInUse_4 : decode cX9_slotsInUse 4 = .ok (.iload_n 2, 1) := by decide +kernel
theorem dX9_slotsInUse_5 : decode cX9_slotsInUse 5 = .ok (.iconst 4, 1) := by decide +kernel
theorem dX9_slotsInUse_6 : decode cX9_slotsInUse 6 = .ok (.if_icmp .ge 24, 3) := by decide +kernel
theorem dX9_slotsInUse_9 : decode cX9_slotsInUse 9 = .ok (.aload_n 0, 1) := by decide +kernel
theorem dX9_slotsInUse_10 : decode cX9_slotsInUse 10 = .ok (.getfield 46, 3) := by decide +kernel
theorem dX9_slotsInUse_13 : decode cX9_slotsInUse 13 = .ok (.iload_n 2, 1) := by decide +kernel
theorem dX9_slotsInUse_14 : decode cX9_slotsInUse 14 = .ok (.aaload, 1) := by decide +kernel
theorem dX9_slotsInUse_15 : decode cX9_slotsInUse 15 = .ok (.invokevirtual 318, 3) := by decide +kernel
theorem dX9_slotsInUse_18 : decode cX9_slotsInUse 18 = .ok (.ifCond .eq 6, 3) := by decide +kernel
theorem dX9_slotsInUse_21 : decode cX9_slotsInUse 21 = .ok (.iinc 1 1, 3) := by decide +kernel
theorem dX9_slotsInUse_24 : decode cX9_slotsInUse 24 = .ok (.iinc 2 1, 3) := by decide +kernel
theorem dX9_slotsInUse_27 : decode cX9_slotsInUse 27 = .ok (.goto (-23), 3) := by decide +kernel
theorem dX9_slotsInUse_30 : decode cX9_slotsInUse 30 = .ok (.iload_n 1, 1) := by decide +kernel
theorem dX9_slotsInUse_31 : decode cX9_slotsInUse 31 = .ok (.ireturn, 1) := by decide +kernel
theorem dX9_hasSlot_0 : decode cX9_hasSlot 0 = .ok (.iload_n 0, 1) := by decide +kernel
theorem dX9_hasSlot_1 : decode cX9_hasSlot 1 = .ok (.ifCond .lt 12, 3) := by decide +kernel
theorem dX9_hasSlot_4 : decode cX9_hasSlot 4 = .ok (.iload_n 0, 1) := by decide +kernel
theorem dX9_hasSlot_5 : decode cX9_hasSlot 5 = .ok (.iconst 4, 1) := by decide +kernel
theorem dX9_hasSlot_6 : decode cX9_hasSlot 6 = .ok (.if_icmp .ge 7, 3) := by decide +kernel
theorem dX9_hasSlot_9 : decode cX9_hasSlot 9 = .ok (.iconst 1, 1) := by decide +kernel
theorem dX9_hasSlot_10 : decode cX9_hasSlot 10 = .ok (.goto 4, 3) := by decide +kernel
theorem dX9_hasSlot_13 : decode cX9_hasSlot 13 = .ok (.iconst 0, 1) := by decide +kernel
theorem dX9_hasSlot_14 : decode cX9_hasSlot 14 = .ok (.ireturn, 1) := by decide +kernel
theorem dX9_hasImage_0 : decode cX9_hasImage 0 = .ok (.iload_n 0, 1) := by decide +kernel
theorem dX9_hasImage_1 : decode cX9_hasImage 1 = .ok (.ifCond .lt 12, 3) := by decide +kernel
theorem dX9_hasImage_4 : decode cX9_hasImage 4 = .ok (.iload_n 0, 1) := by decide +kernel
theorem dX9_hasImage_5 : decode cX9_hasImage 5 = .ok (.iconst 3, 1) := by decide +kernel
theorem dX9_hasImage_6 : decode cX9_hasImage 6 = .ok (.if_icmp .ge 7, 3) := by decide +kernel
theorem dX9_hasImage_9 : decode cX9_hasImage 9 = .ok (.iconst 1, 1) := by decide +kernel
theorem dX9_hasImage_10 : decode cX9_hasImage 10 = .ok (.goto 4, 3) := by decide +kernel
theorem dX9_hasImage_13 : decode cX9_hasImage 13 = .ok (.iconst 0, 1) := by decide +kernel
theorem dX9_hasImage_14 : decode cX9_hasImage 14 = .ok (.ireturn, 1) := by decide +kernel
theorem dX9_isChoice_0 : decode cX9_isChoice 0 = .ok (.iload_n 0, 1) := by decide +kernel
theorem dX9_isChoice_1 : decode cX9_isChoice 1 = .ok (.ifCond .eq 8, 3) := by decide +kernel
theorem dX9_isChoice_4 : decode cX9_isChoice 4 = .ok (.iload_n 0, 1) := by decide +kernel
theorem dX9_isChoice_5 : decode cX9_isChoice 5 = .ok (.iconst 1, 1) := by decide +kernel
theorem dX9_isChoice_6 : decode cX9_isChoice 6 = .ok (.if_icmp .ne 7, 3) := by decide +kernel
theorem dX9_isChoice_9 : decode cX9_isChoice 9 = .ok (.iconst 1, 1) := by decide +kernel
theorem dX9_isChoice_10 : decode cX9_isChoice 10 = .ok (.goto 4, 3) := by decide +kernel
theorem dX9_isChoice_13 : decode cX9_isChoice 13 = .ok (.iconst 0, 1) := by decide +kernel
theorem dX9_isChoice_14 : decode cX9_isChoice 14 = .ok (.ireturn, 1) := by decide +kernel
theorem dX9_isWorth_0 : decode cX9_isWorth 0 = .ok (.iload_n 0, 1) := by decide +kernel
theorem dX9_isWorth_1 : decode cX9_isWorth 1 = .ok (.ifCond .lt 13, 3) := by decide +kernel
theorem dX9_isWorth_4 : decode cX9_isWorth 4 = .ok (.iload_n 0, 1) := by decide +kernel
theorem dX9_isWorth_5 : decode cX9_isWorth 5 = .ok (.bipush 99, 2) := by decide +kernel
theorem dX9_isWorth_7 : decode cX9_isWorth 7 = .ok (.if_icmp .gt 7, 3) := by decide +kernel
theorem dX9_isWorth_10 : decode cX9_isWorth 10 = .ok (.iconst 1, 1) := by decide +kernel
theorem dX9_isWorth_11 : decode cX9_isWorth 11 = .ok (.goto 4, 3) := by decide +kernel
theorem dX9_isWorth_14 : decode cX9_isWorth 14 = .ok (.iconst 0, 1) := by decide +kernel
theorem dX9_isWorth_15 : decode cX9_isWorth 15 = .ok (.ireturn, 1) := by decide +kernel
theorem dX9_isSeed_0 : decode cX9_isSeed 0 = .ok (.iload_n 0, 1) := by decide +kernel
theorem dX9_isSeed_1 : decode cX9_isSeed 1 = .ok (.ifCond .lt 14, 3) := by decide +kernel
theorem dX9_isSeed_4 : decode cX9_isSeed 4 = .ok (.iload_n 0, 1) := by decide +kernel
theorem dX9_isSeed_5 : decode cX9_isSeed 5 = .ok (.ldc_w 436, 3) := by decide +kernel
theorem dX9_isSeed_8 : decode cX9_isSeed 8 = .ok (.if_icmp .gt 7, 3) := by decide +kernel
theorem dX9_isSeed_11 : decode cX9_isSeed 11 = .ok (.iconst 1, 1) := by decide +kernel
theorem dX9_isSeed_12 : decode cX9_isSeed 12 = .ok (.goto 4, 3) := by decide +kernel
theorem dX9_isSeed_15 : decode cX9_isSeed 15 = .ok (.iconst 0, 1) := by decide +kernel
theorem dX9_isSeed_16 : decode cX9_isSeed 16 = .ok (.ireturn, 1) := by decide +kernel
theorem dX9_holds_0 : decode cX9_holds 0 = .ok (.iload_n 0, 1) := by decide +kernel
theorem dX9_holds_1 : decode cX9_holds 1 = .ok (.iload_n 1, 1) := by decide +kernel
theorem dX9_holds_2 : decode cX9_holds 2 = .ok (.ishr, 1) := by decide +kernel
theorem dX9_holds_3 : decode cX9_holds 3 = .ok (.iconst 1, 1) := by decide +kernel
theorem dX9_holds_4 : decode cX9_holds 4 = .ok (.iand, 1) := by decide +kernel
theorem dX9_holds_5 : decode cX9_holds 5 = .ok (.ifCond .eq 7, 3) := by decide +kernel
theorem dX9_holds_8 : decode cX9_holds 8 = .ok (.iconst 1, 1) := by decide +kernel
theorem dX9_holds_9 : decode cX9_holds 9 = .ok (.goto 4, 3) := by decide +kernel
theorem dX9_holds_12 : decode cX9_holds 12 = .ok (.iconst 0, 1) := by decide +kernel
theorem dX9_holds_13 : decode cX9_holds 13 = .ok (.ireturn, 1) := by decide +kernel
theorem dX9_longestRun_0 : decode cX9_longestRun 0 = .ok (.iconst 0, 1) := by decide +kernel
theorem dX9_longestRun_1 : decode cX9_longestRun 1 = .ok (.istore_n 1, 1) := by decide +kernel
theorem dX9_longestRun_2 : decode cX9_longestRun 2 = .ok (.iconst 0, 1) := by decide +kernel
theorem dX9_longestRun_3 : decode cX9_longestRun 3 = .ok (.istore_n 2, 1) := by decide +kernel
theorem dX9_longestRun_4 : decode cX9_longestRun 4 = .ok (.iconst 0, 1) := by decide +kernel
theorem dX9_longestRun_5 : decode cX9_longestRun 5 = .ok (.istore_n 3, 1) := by decide +kernel
theorem dX9_longestRun_6 : decode cX9_longestRun 6 = .ok (.iload_n 3, 1) := by decide +kernel
theorem dX9_longestRun_7 : decode cX9_longestRun 7 = .ok (.bipush 14, 2) := by decide +kernel
theorem dX9_longestRun_9 : decode cX9_longestRun 9 = .ok (.if_icmp .ge 31, 3) := by decide +kernel
theorem dX9_longestRun_12 : decode cX9_longestRun 12 = .ok (.iload_n 0, 1) := by decide +kernel
theorem dX9_longestRun_13 : decode cX9_longestRun 13 = .ok (.iload_n 3, 1) := by decide +kernel
theorem dX9_longestRun_14 : decode cX9_longestRun 14 = .ok (.invokestatic 267, 3) := by decide +kernel
theorem dX9_longestRun_17 : decode cX9_longestRun 17 = .ok (.ifCond .eq 9, 3) := by decide +kernel
theorem dX9_longestRun_20 : decode cX9_longestRun 20 = .ok (.iload_n 2, 1) := by decide +kernel
theorem dX9_longestRun_21 : decode cX9_longestRun 21 = .ok (.iconst 1, 1) := by decide +kernel
theorem dX9_longestRun_22 : decode cX9_longestRun 22 = .ok (.iadd, 1) := by decide +kernel
theorem dX9_longestRun_23 : decode cX9_longestRun 23 = .ok (.goto 4, 3) := by decide +kernel
theorem dX9_longestRun_26 : decode cX9_longestRun 26 = .ok (.iconst 0, 1) := by decide +kernel
theorem dX9_longestRun_27 : decode cX9_longestRun 27 = .ok (.istore_n 2, 1) := by decide +kernel
theorem dX9_longestRun_28 : decode cX9_longestRun 28 = .ok (.iload_n 1, 1) := by decide +kernel
theorem dX9_longestRun_29 : decode cX9_longestRun 29 = .ok (.iload_n 2, 1) := by decide +kernel
theorem dX9_longestRun_30 : decode cX9_longestRun 30 = .ok (.invokestatic 189, 3) := by decide +kernel
theorem dX9_longestRun_33 : decode cX9_longestRun 33 = .ok (.istore_n 1, 1) := by decide +kernel
theorem dX9_longestRun_34 : decode cX9_longestRun 34 = .ok (.iinc 3 1, 3) := by decide +kernel
theorem dX9_longestRun_37 : decode cX9_longestRun 37 = .ok (.goto (-31), 3) := by decide +kernel
theorem dX9_longestRun_40 : decode cX9_longestRun 40 = .ok (.iload_n 1, 1) := by decide +kernel
theorem dX9_longestRun_41 : decode cX9_longestRun 41 = .ok (.ireturn, 1) := by decide +kernel
theorem dX9_partOfFraction_0 : decode cX9_partOfFraction 0 = .ok (.lload_n 0, 1) := by decide +kernel
theorem dX9_partOfFraction_1 : decode cX9_partOfFraction 1 = .ok (.lload_n 2, 1) := by decide +kernel
theorem dX9_partOfFraction_2 : decode cX9_partOfFraction 2 = .ok (.invokestatic 437, 3) := by decide +kernel
theorem dX9_partOfFraction_5 : decode cX9_partOfFraction 5 = .ok (.lstore 5, 2) := by decide +kernel
theorem dX9_partOfFraction_7 : decode cX9_partOfFraction 7 = .ok (.lload 5, 2) := by decide +kernel
theorem dX9_partOfFraction_9 : decode cX9_partOfFraction 9 = .ok (.lconst 0, 1) := by decide +kernel
theorem dX9_partOfFraction_10 : decode cX9_partOfFraction 10 = .ok (.lcmp, 1) := by decide +kernel
theorem dX9_partOfFraction_11 : decode cX9_partOfFraction 11 = .ok (.ifCond .ne 5, 3) := by decide +kernel
theorem dX9_partOfFraction_14 : decode cX9_partOfFraction 14 = .ok (.lconst 0, 1) := by decide +kernel
theorem dX9_partOfFraction_15 : decode cX9_partOfFraction 15 = .ok (.lreturn, 1) := by decide +kernel
theorem dX9_partOfFraction_16 : decode cX9_partOfFraction 16 = .ok (.iload 4, 2) := by decide +kernel
theorem dX9_partOfFraction_18 : decode cX9_partOfFraction 18 = .ok (.ifCond .ne 7, 3) := by decide +kernel
theorem dX9_partOfFraction_21 : decode cX9_partOfFraction 21 = .ok (.lload_n 0, 1) := by decide +kernel
theorem dX9_partOfFraction_22 : decode cX9_partOfFraction 22 = .ok (.goto 4, 3) := by decide +kernel
theorem dX9_partOfFraction_25 : decode cX9_partOfFraction 25 = .ok (.lload_n 2, 1) := by decide +kernel
theorem dX9_partOfFraction_26 : decode cX9_partOfFraction 26 = .ok (.lload 5, 2) := by decide +kernel
theorem dX9_partOfFraction_28 : decode cX9_partOfFraction 28 = .ok (.ldiv, 1) := by decide +kernel
theorem dX9_partOfFraction_29 : decode cX9_partOfFraction 29 = .ok (.lreturn, 1) := by decide +kernel
theorem dX9_greatestCommon_0 : decode cX9_greatestCommon 0 = .ok (.iconst 0, 1) := by decide +kernel
theorem dX9_greatestCommon_1 : decode cX9_greatestCommon 1 = .ok (.istore 4, 2) := by decide +kernel
theorem dX9_greatestCommon_3 : decode cX9_greatestCommon 3 = .ok (.iload 4, 2) := by decide +kernel
theorem dX9_greatestCommon_5 : decode cX9_greatestCommon 5 = .ok (.bipush 100, 2) := by decide +kernel
theorem dX9_greatestCommon_7 : decode cX9_greatestCommon 7 = .ok (.if_icmp .ge 25, 3) := by decide +kernel
theorem dX9_greatestCommon_10 : decode cX9_greatestCommon 10 = .ok (.lload_n 2, 1) := by decide +kernel
theorem dX9_greatestCommon_11 : decode cX9_greatestCommon 11 = .ok (.lconst 0, 1) := by decide +kernel
theorem dX9_greatestCommon_12 : decode cX9_greatestCommon 12 = .ok (.lcmp, 1) := by decide +kernel
theorem dX9_greatestCommon_13 : decode cX9_greatestCommon 13 = .ok (.ifCond .eq 19, 3) := by decide +kernel
theorem dX9_greatestCommon_16 : decode cX9_greatestCommon 16 = .ok (.lload_n 0, 1) := by decide +kernel
theorem dX9_greatestCommon_17 : decode cX9_greatestCommon 17 = .ok (.lload_n 2, 1) := by decide +kernel
theorem dX9_greatestCommon_18 : decode cX9_greatestCommon 18 = .ok (.lrem, 1) := by decide +kernel
theorem dX9_greatestCommon_19 : decode cX9_greatestCommon 19 = .ok (.lstore 5, 2) := by decide +kernel
theorem dX9_greatestCommon_21 : decode cX9_greatestCommon 21 = .ok (.lload_n 2, 1) := by decide +kernel
theorem dX9_greatestCommon_22 : decode cX9_greatestCommon 22 = .ok (.lstore_n 0, 1) := by decide +kernel
theorem dX9_greatestCommon_23 : decode cX9_greatestCommon 23 = .ok (.lload 5, 2) := by decide +kernel
theorem dX9_greatestCommon_25 : decode cX9_greatestCommon 25 = .ok (.lstore_n 2, 1) := by decide +kernel
theorem dX9_greatestCommon_26 : decode cX9_greatestCommon 26 = .ok (.iinc 4 1, 3) := by decide +kernel
theorem dX9_greatestCommon_29 : decode cX9_greatestCommon 29 = .ok (.goto (-26), 3) := by decide +kernel
theorem dX9_greatestCommon_32 : decode cX9_greatestCommon 32 = .ok (.lload_n 0, 1) := by decide +kernel
theorem dX9_greatestCommon_33 : decode cX9_greatestCommon 33 = .ok (.lreturn, 1) := by decide +kernel
theorem dX10_in_0 : decode cX10_in 0 = .ok (.lload_n 0, 1) := by decide +kernel
theorem dX10_in_1 : decode cX10_in 1 = .ok (.lload_n 2, 1) := by decide +kernel
theorem dX10_in_2 : decode cX10_in 2 = .ok (.lcmp, 1) := by decide +kernel
theorem dX10_in_3 : decode cX10_in 3 = .ok (.ifCond .lt 14, 3) := by decide +kernel
theorem dX10_in_6 : decode cX10_in 6 = .ok (.lload_n 0, 1) := by decide +kernel
theorem dX10_in_7 : decode cX10_in 7 = .ok (.lload 4, 2) := by decide +kernel
theorem dX10_in_9 : decode cX10_in 9 = .ok (.lcmp, 1) := by decide +kernel
theorem dX10_in_10 : decode cX10_in 10 = .ok (.ifCond .gt 7, 3) := by decide +kernel
theorem dX10_in_13 : decode cX10_in 13 = .ok (.iconst 1, 1) := by decide +kernel
theorem dX10_in_14 : decode cX10_in 14 = .ok (.goto 4, 3) := by decide +kernel
theorem dX10_in_17 : decode cX10_in 17 = .ok (.iconst 0, 1) := by decide +kernel
theorem dX10_in_18 : decode cX10_in 18 = .ok (.ireturn, 1) := by decide +kernel
theorem dX10_bits_0 : decode cX10_bits 0 = .ok (.iconst 0, 1) := by decide +kernel
theorem dX10_bits_1 : decode cX10_bits 1 = .ok (.istore_n 1, 1) := by decide +kernel
theorem dX10_bits_2 : decode cX10_bits 2 = .ok (.iconst 0, 1) := by decide +kernel
theorem dX10_bits_3 : decode cX10_bits 3 = .ok (.istore_n 2, 1) := by decide +kernel
theorem dX10_bits_4 : decode cX10_bits 4 = .ok (.iload_n 2, 1) := by decide +kernel
theorem dX10_bits_5 : decode cX10_bits 5 = .ok (.bipush 14, 2) := by decide +kernel
theorem dX10_bits_7 : decode cX10_bits 7 = .ok (.if_icmp .ge 17, 3) := by decide +kernel
theorem dX10_bits_10 : decode cX10_bits 10 = .ok (.iload_n 1, 1) := by decide +kernel
theorem dX10_bits_11 : decode cX10_bits 11 = .ok (.iload_n 0, 1) := by decide +kernel
theorem dX10_bits_12 : decode cX10_bits 12 = .ok (.iload_n 2, 1) := by decide +kernel
theorem dX10_bits_13 : decode cX10_bits 13 = .ok (.ishr, 1) := by decide +kernel
theorem dX10_bits_14 : decode cX10_bits 14 = .ok (.iconst 1, 1) := by decide +kernel
theorem dX10_bits_15 : decode cX10_bits 15 = .ok (.iand, 1) := by decide +kernel
theorem dX10_bits_16 : decode cX10_bits 16 = .ok (.iadd, 1) := by decide +kernel
theorem dX10_bits_17 : decode cX10_bits 17 = .ok (.istore_n 1, 1) := by decide +kernel
theorem dX10_bits_18 : decode cX10_bits 18 = .ok (.iinc 2 1, 3) := by decide +kernel
theorem dX10_bits_21 : decode cX10_bits 21 = .ok (.goto (-17), 3) := by decide +kernel
theorem dX10_bits_24 : decode cX10_bits 24 = .ok (.iload_n 1, 1) := by decide +kernel
theorem dX10_bits_25 : decode cX10_bits 25 = .ok (.ireturn, 1) := by decide +kernel
theorem dX10_bit_0 : decode cX10_bit 0 = .ok (.iload_n 0, 1) := by decide +kernel
theorem dX10_bit_1 : decode cX10_bit 1 = .ok (.iload_n 1, 1) := by decide +kernel
theorem dX10_bit_2 : decode cX10_bit 2 = .ok (.ishr, 1) := by decide +kernel
theorem dX10_bit_3 : decode cX10_bit 3 = .ok (.iconst 1, 1) := by decide +kernel
theorem dX10_bit_4 : decode cX10_bit 4 = .ok (.iand, 1) := by decide +kernel
theorem dX10_bit_5 : decode cX10_bit 5 = .ok (.ireturn, 1) := by decide +kernel
theorem dX10_image_0 : decode cX10_image 0 = .ok (.iload_n 1, 1) := by decide +kernel
theorem dX10_image_1 : decode cX10_image 1 = .ok (.i2l, 1) := by decide +kernel
theorem dX10_image_2 : decode cX10_image 2 = .ok (.lconst 0, 1) := by decide +kernel
theorem dX10_image_3 : decode cX10_image 3 = .ok (.ldc2_w 90, 3) := by decide +kernel
theorem dX10_image_6 : decode cX10_image 6 = .ok (.invokestatic 92, 3) := by decide +kernel
theorem dX10_image_9 : decode cX10_image 9 = .ok (.ifCond .ne 6, 3) := by decide +kernel
theorem dX10_image_12 : decode cX10_image 12 = .ok (.bipush (-2), 2) := by decide +kernel
theorem dX10_image_14 : decode cX10_image 14 = .ok (.ireturn, 1) := by decide +kernel
theorem dX10_image_15 : decode cX10_image 15 = .ok (.iconst 0, 1) := by decide +kernel
theorem dX10_image_16 : decode cX10_image 16 = .ok (.istore_n 2, 1) := by decide +kernel
theorem dX10_image_17 : decode cX10_image 17 = .ok (.iload_n 2, 1) := by decide +kernel
theorem dX10_image_18 : decode cX10_image 18 = .ok (.bipush 77, 2) := by decide +kernel
theorem dX10_image_20 : decode cX10_image 20 = .ok (.if_icmp .ge 26, 3) := by decide +kernel
theorem dX10_image_23 : decode cX10_image 23 = .ok (.aload_n 0, 1) := by decide +kernel
theorem dX10_image_24 : decode cX10_image 24 = .ok (.getfield 13, 3) := by decide +kernel
theorem dX10_image_27 : decode cX10_image 27 = .ok (.bipush 77, 2) := by decide +kernel
theorem dX10_image_29 : decode cX10_image 29 = .ok (.iload_n 1, 1) := by decide +kernel
theorem dX10_image_30 : decode cX10_image 30 = .ok (.imul, 1) := by decide +kernel
theorem dX10_image_31 : decode cX10_image 31 = .ok (.iload_n 2, 1) := by decide +kernel
theorem dX10_image_32 : decode cX10_image 32 = .ok (.iadd, 1) := by decide +kernel
theorem dX10_image_33 : decode cX10_image 33 = .ok (.aload_n 0, 1) := by decide +kernel
theorem dX10_image_34 : decode cX10_image 34 = .ok (.getfield 9, 3) := by decide +kernel
theorem dX10_image_37 : decode cX10_image 37 = .ok (.iload_n 2, 1) := by decide +kernel
theorem dX10_image_38 : decode cX10_image 38 = .ok (.iaload, 1) := by decide +kernel
theorem dX10_image_39 : decode cX10_image 39 = .ok (.iastore, 1) := by decide +kernel
theorem dX10_image_40 : decode cX10_image 40 = .ok (.iinc 2 1, 3) := by decide +kernel
theorem dX10_image_43 : decode cX10_image 43 = .ok (.goto (-26), 3) := by decide +kernel
theorem dX10_image_46 : decode cX10_image 46 = .ok (.aload_n 0, 1) := by decide +kernel
theorem dX10_image_47 : decode cX10_image 47 = .ok (.getfield 16, 3) := by decide +kernel
theorem dX10_image_50 : decode cX10_image 50 = .ok (.iload_n 1, 1) := by decide +kernel
theorem dX10_image_51 : decode cX10_image 51 = .ok (.iconst 1, 1) := by decide +kernel
theorem dX10_image_52 : decode cX10_image 52 = .ok (.bastore, 1) := by decide +kernel
theorem dX10_image_53 : decode cX10_image 53 = .ok (.iconst 0, 1) := by decide +kernel
theorem dX10_image_54 : decode cX10_image 54 = .ok (.ireturn, 1) := by decide +kernel
theorem dX10_back_0 : decode cX10_back 0 = .ok (.iload_n 1, 1) := by decide +kernel
theorem dX10_back_1 : decode cX10_back 1 = .ok (.i2l, 1) := by decide +kernel
theorem dX10_back_2 : decode cX10_back 2 = .ok (.lconst 0, 1) := by decide +kernel
theorem dX10_back_3 : decode cX10_back 3 = .ok (.ldc2_w 90, 3) := by decide +kernel
theorem dX10_back_6 : decode cX10_back 6 = .ok (.invokestatic 92, 3) := by decide +kernel
theorem dX10_back_9 : decode cX10_back 9 = .ok (.ifCond .ne 6, 3) := by decide +kernel
theorem dX10_back_12 : decode cX10_back 12 = .ok (.bipush (-2), 2) := by decide +kernel
theorem dX10_back_14 : decode cX10_back 14 = .ok (.ireturn, 1) := by decide +kernel
theorem dX10_back_15 : decode cX10_back 15 = .ok (.aload_n 0, 1) := by decide +kernel
theorem dX10_back_16 : decode cX10_back 16 = .ok (.getfield 16, 3) := by decide +kernel
theorem dX10_back_19 : decode cX10_back 19 = .ok (.iload_n 1, 1) := by decide +kernel
theorem dX10_back_20 : decode cX10_back 20 = .ok (.baload, 1) := by decide +kernel
theorem dX10_back_21 : decode cX10_back 21 = .ok (.ifCond .ne 6, 3) := by decide +kernel
theorem dX10_back_24 : decode cX10_back 24 = .ok (.bipush (-6), 2) := by decide +kernel
theorem dX10_back_26 : decode cX10_back 26 = .ok (.ireturn, 1) := by decide +kernel
theorem dX10_back_27 : decode cX10_back 27 = .ok (.iconst 0, 1) := by decide +kernel
theorem dX10_back_28 : decode cX10_back 28 = .ok (.istore_n 2, 1) := by decide +kernel
theorem dX10_back_29 : decode cX10_back 29 = .ok (.iload_n 2, 1) := by decide +kernel
theorem dX10_back_30 : decode cX10_back 30 = .ok (.bipush 77, 2) := by decide +kernel
theorem dX10_back_32 : decode cX10_back 32 = .ok (.if_icmp .ge 26, 3) := by decide +kernel
theorem dX10_back_35 : decode cX10_back 35 = .ok (.aload_n 0, 1) := by decide +kernel
theorem dX10_back_36 : decode cX10_back 36 = .ok (.getfield 9, 3) := by decide +kernel
theorem dX10_back_39 : decode cX10_back 39 = .ok (.iload_n 2, 1) := by decide +kernel
theorem dX10_back_40 : decode cX10_back 40 = .ok (.aload_n 0, 1) := by decide +kernel
theorem dX10_back_41 : decode cX10_back 41 = .ok (.getfield 13, 3) := by decide +kernel
theorem dX10_back_44 : decode cX10_back 44 = .ok (.bipush 77, 2) := by decide +kernel
theorem dX10_back_46 : decode cX10_back 46 = .ok (.iload_n 1, 1) := by decide +kernel
theorem dX10_back_47 : decode cX10_back 47 = .ok (.imul, 1) := by decide +kernel
theorem dX10_back_48 : decode cX10_back 48 = .ok (.iload_n 2, 1) := by decide +kernel
theorem dX10_back_49 : decode cX10_back 49 = .ok (.iadd, 1) := by decide +kernel
theorem dX10_back_50 : decode cX10_back 50 = .ok (.iaload, 1) := by decide +kernel
theorem dX10_back_51 : decode cX10_back 51 = .ok (.iastore, 1) := by decide +kernel
theorem dX10_back_52 : decode cX10_back 52 = .ok (.iinc 2 1, 3) := by decide +kernel
theorem dX10_back_55 : decode cX10_back 55 = .ok (.goto (-26), 3) := by decide +kernel
theorem dX10_back_58 : decode cX10_back 58 = .ok (.iconst 0, 1) := by decide +kernel
theorem dX10_back_59 : decode cX10_back 59 = .ok (.ireturn, 1) := by decide +kernel
theorem dX10_isCamp_0 : decode cX10_isCamp 0 = .ok (.aload_n 0, 1) := by decide +kernel
theorem dX10_isCamp_1 : decode cX10_isCamp 1 = .ok (.getfield 9, 3) := by decide +kernel
theorem dX10_isCamp_4 : decode cX10_isCamp 4 = .ok (.bipush 7, 2) := by decide +kernel
theorem dX10_isCamp_6 : decode cX10_isCamp 6 = .ok (.iaload, 1) := by decide +kernel
theorem dX10_isCamp_7 : decode cX10_isCamp 7 = .ok (.ifCond .le 7, 3) := by decide +kernel
theorem dX10_isCamp_10 : decode cX10_isCamp 10 = .ok (.iconst 1, 1) := by decide +kernel
theorem dX10_isCamp_11 : decode cX10_isCamp 11 = .ok (.goto 4, 3) := by decide +kernel
theorem dX10_isCamp_14 : decode cX10_isCamp 14 = .ok (.iconst 0, 1) := by decide +kernel
theorem dX10_isCamp_15 : decode cX10_isCamp 15 = .ok (.ireturn, 1) := by decide +kernel
theorem dX10_isDay_0 : decode cX10_isDay 0 = .ok (.lload_n 1, 1) := by decide +kernel
theorem dX10_isDay_1 : decode cX10_isDay 1 = .ok (.lconst 0, 1) := by decide +kernel
theorem dX10_isDay_2 : decode cX10_isDay 2 = .ok (.aload_n 0, 1) := by decide +kernel
theorem dX10_isDay_3 : decode cX10_isDay 3 = .ok (.getfield 9, 3) := by decide +kernel
theorem dX10_isDay_6 : decode cX10_isDay 6 = .ok (.iconst 0, 1) := by decide +kernel
theorem dX10_isDay_7 : decode cX10_isDay 7 = .ok (.iaload, 1) := by decide +kernel
theorem dX10_isDay_8 : decode cX10_isDay 8 = .ok (.iconst 1, 1) := by decide +kernel
theorem dX10_isDay_9 : decode cX10_isDay 9 = .ok (.isub, 1) := by decide +kernel
theorem dX10_isDay_10 : decode cX10_isDay 10 = .ok (.i2l, 1) := by decide +kernel
theorem dX10_isDay_11 : decode cX10_isDay 11 = .ok (.invokestatic 92, 3) := by decide +kernel
theorem dX10_isDay_14 : decode cX10_isDay 14 = .ok (.ireturn, 1) := by decide +kernel
theorem dX10_isAugur_0 : decode cX10_isAugur 0 = .ok (.iload_n 1, 1) := by decide +kernel
theorem dX10_isAugur_1 : decode cX10_isAugur 1 = .ok (.i2l, 1) := by decide +kernel
theorem dX10_isAugur_2 : decode cX10_isAugur 2 = .ok (.lconst 0, 1) := by decide +kernel
theorem dX10_isAugur_3 : decode cX10_isAugur 3 = .ok (.aload_n 0, 1) := by decide +kernel
theorem dX10_isAugur_4 : decode cX10_isAugur 4 = .ok (.getfield 9, 3) := by decide +kernel
theorem dX10_isAugur_7 : decode cX10_isAugur 7 = .ok (.iconst 4, 1) := by decide +kernel
theorem dX10_isAugur_8 : decode cX10_isAugur 8 = .ok (.iaload, 1) := by decide +kernel
theorem dX10_isAugur_9 : decode cX10_isAugur 9 = .ok (.iconst 1, 1) := by decide +kernel
theorem dX10_isAugur_10 : decode cX10_isAugur 10 = .ok (.isub, 1) := by decide +kernel
theorem dX10_isAugur_11 : decode cX10_isAugur 11 = .ok (.i2l, 1) := by decide +kernel
theorem dX10_isAugur_12 : decode cX10_isAugur 12 = .ok (.invokestatic 92, 3) := by decide +kernel
theorem dX10_isAugur_15 : decode cX10_isAugur 15 = .ok (.ireturn, 1) := by decide +kernel
theorem dX10_isBill_0 : decode cX10_isBill 0 = .ok (.iload_n 1, 1) := by decide +kernel
theorem dX10_isBill_1 : decode cX10_isBill 1 = .ok (.i2l, 1) := by decide +kernel
theorem dX10_isBill_2 : decode cX10_isBill 2 = .ok (.lconst 0, 1) := by decide +kernel
theorem dX10_isBill_3 : decode cX10_isBill 3 = .ok (.aload_n 0, 1) := by decide +kernel
theorem dX10_isBill_4 : decode cX10_isBill 4 = .ok (.getfield 9, 3) := by decide +kernel
theorem dX10_isBill_7 : decode cX10_isBill 7 = .ok (.iconst 5, 1) := by decide +kernel
theorem dX10_isBill_8 : decode cX10_isBill 8 = .ok (.iaload, 1) := by decide +kernel
theorem dX10_isBill_9 : decode cX10_isBill 9 = .ok (.iconst 1, 1) := by decide +kernel
theorem dX10_isBill_10 : decode cX10_isBill 10 = .ok (.isub, 1) := by decide +kernel
theorem dX10_isBill_11 : decode cX10_isBill 11 = .ok (.i2l, 1) := by decide +kernel
theorem dX10_isBill_12 : decode cX10_isBill 12 = .ok (.invokestatic 92, 3) := by decide +kernel
theorem dX10_isBill_15 : decode cX10_isBill 15 = .ok (.ireturn, 1) := by decide +kernel
theorem dX10_isSide_0 : decode cX10_isSide 0 = .ok (.aload_n 0, 1) := by decide +kernel
theorem dX10_isSide_1 : decode cX10_isSide 1 = .ok (.invokevirtual 96, 3) := by decide +kernel
theorem dX10_isSide_4 : decode cX10_isSide 4 = .ok (.ifCond .eq 17, 3) := by decide +kernel
theorem dX10_isSide_7 : decode cX10_isSide 7 = .ok (.iload_n 1, 1) := by decide +kernel
theorem dX10_isSide_8 : decode cX10_isSide 8 = .ok (.i2l, 1) := by decide +kernel
theorem dX10_isSide_9 : decode cX10_isSide 9 = .ok (.lconst 0, 1) := by decide +kernel
theorem dX10_isSide_10 : decode cX10_isSide 10 = .ok (.lconst 1, 1) := by decide +kernel
theorem dX10_isSide_11 : decode cX10_isSide 11 = .ok (.invokestatic 92, 3) := by decide +kernel
theorem dX10_isSide_14 : decode cX10_isSide 14 = .ok (.ifCond .eq 7, 3) := by decide +kernel
theorem dX10_isSide_17 : decode cX10_isSide 17 = .ok (.iconst 1, 1) := by decide +kernel
theorem dX10_isSide_18 : decode cX10_isSide 18 = .ok (.goto 4, 3) := by decide +kernel
theorem dX10_isSide_21 : decode cX10_isSide 21 = .ok (.iconst 0, 1) := by decide +kernel
theorem dX10_isSide_22 : decode cX10_isSide 22 = .ok (.ireturn, 1) := by decide +kernel
theorem dX10_ofAugur_0 : decode cX10_ofAugur 0 = .ok (.aload_n 0, 1) := by decide +kernel
theorem dX10_ofAugur_1 : decode cX10_ofAugur 1 = .ok (.getfield 9, 3) := by decide +kernel
theorem dX10_ofAugur_4 : decode cX10_ofAugur 4 = .ok (.bipush 9, 2) := by decide +kernel
theorem dX10_ofAugur_6 : decode cX10_ofAugur 6 = .ok (.iconst 3, 1) := by decide +kernel
theorem dX10_ofAugur_7 : decode cX10_ofAugur 7 = .ok (.iload_n 1, 1) := by decide +kernel
theorem dX10_ofAugur_8 : decode cX10_ofAugur 8 = .ok (.imul, 1) := by decide +kernel
theorem dX10_ofAugur_9 : decode cX10_ofAugur 9 = .ok (.iadd, 1) := by decide +kernel
theorem dX10_ofAugur_10 : decode cX10_ofAugur 10 = .ok (.iload_n 2, 1) := by decide +kernel
theorem dX10_ofAugur_11 : decode cX10_ofAugur 11 = .ok (.iadd, 1) := by decide +kernel
theorem dX10_ofAugur_12 : decode cX10_ofAugur 12 = .ok (.iaload, 1) := by decide +kernel
theorem dX10_ofAugur_13 : decode cX10_ofAugur 13 = .ok (.ireturn, 1) := by decide +kernel
theorem dX10_of_0 : decode cX10_of 0 = .ok (.aload_n 0, 1) := by decide +kernel
theorem dX10_of_1 : decode cX10_of 1 = .ok (.getfield 9, 3) := by decide +kernel
theorem dX10_of_4 : decode cX10_of 4 = .ok (.bipush 33, 2) := by decide +kernel
theorem dX10_of_6 : decode cX10_of 6 = .ok (.iconst 3, 1) := by decide +kernel
theorem dX10_of_7 : decode cX10_of 7 = .ok (.iload_n 1, 1) := by decide +kernel
theorem dX10_of_8 : decode cX10_of 8 = .ok (.imul, 1) := by decide +kernel
theorem dX10_of_9 : decode cX10_of 9 = .ok (.iadd, 1) := by decide +kernel
theorem dX10_of_10 : decode cX10_of 10 = .ok (.iload_n 2, 1) := by decide +kernel
theorem dX10_of_11 : decode cX10_of 11 = .ok (.iadd, 1) := by decide +kernel
theorem dX10_of_12 : decode cX10_of 12 = .ok (.iaload, 1) := by decide +kernel
theorem dX10_of_13 : decode cX10_of 13 = .ok (.ireturn, 1) := by decide +kernel
theorem dX10_feed_0 : decode cX10_feed 0 = .ok (.aload_n 0, 1) := by decide +kernel
theorem dX10_feed_1 : decode cX10_feed 1 = .ok (.getfield 100, 3) := by decide +kernel
theorem dX10_feed_4 : decode cX10_feed 4 = .ok (.bipush 20, 2) := by decide +kernel
theorem dX10_feed_6 : decode cX10_feed 6 = .ok (.iadd, 1) := by decide +kernel
theorem dX10_feed_7 : decode cX10_feed 7 = .ok (.sipush 800, 3) := by decide +kernel
theorem dX10_feed_10 : decode cX10_feed 10 = .ok (.if_icmp .le 5, 3) := by decide +kernel
theorem dX10_feed_13 : decode cX10_feed 13 = .ok (.iconst (-1), 1) := by decide +kernel
theorem dX10_feed_14 : decode cX10_feed 14 = .ok (.ireturn, 1) := by decide +kernel
theorem dX10_feed_15 : decode cX10_feed 15 = .ok (.aload_n 0, 1) := by decide +kernel
theorem dX10_feed_16 : decode cX10_feed 16 = .ok (.getfield 24, 3) := by decide +kernel
theorem dX10_feed_19 : decode cX10_feed 19 = .ok (.iconst 0, 1) := by decide +kernel
theorem dX10_feed_20 : decode cX10_feed 20 = .ok (.iload_n 1, 1) := by decide +kernel
theorem dX10_feed_21 : decode cX10_feed 21 = .ok (.iastore, 1) := by decide +kernel
theorem dX10_feed_22 : decode cX10_feed 22 = .ok (.aload_n 0, 1) := by decide +kernel
theorem dX10_feed_23 : decode cX10_feed 23 = .ok (.getfield 24, 3) := by decide +kernel
theorem dX10_feed_26 : decode cX10_feed 26 = .ok (.iconst 1, 1) := by decide +kernel
theorem dX10_feed_27 : decode cX10_feed 27 = .ok (.iload_n 2, 1) := by decide +kernel
theorem dX10_feed_28 : decode cX10_feed 28 = .ok (.iastore, 1) := by decide +kernel
theorem dX10_feed_29 : decode cX10_feed 29 = .ok (.aload_n 0, 1) := by decide +kernel
theorem dX10_feed_30 : decode cX10_feed 30 = .ok (.getfield 24, 3) := by decide +kernel
theorem dX10_feed_33 : decode cX10_feed 33 = .ok (.iconst 2, 1) := by decide +kernel
theorem dX10_feed_34 : decode cX10_feed 34 = .ok (.iload_n 3, 1) := by decide +kernel
theorem dX10_feed_35 : decode cX10_feed 35 = .ok (.iastore, 1) := by decide +kernel
theorem dX10_feed_36 : decode cX10_feed 36 = .ok (.aload_n 0, 1) := by decide +kernel
theorem dX10_feed_37 : decode cX10_feed 37 = .ok (.getfield 24, 3) := by decide +kernel
theorem dX10_feed_40 : decode cX10_feed 40 = .ok (.iconst 3, 1) := by decide +kernel
theorem dX10_feed_41 : decode cX10_feed 41 = .ok (.iload 4, 2) := by decide +kernel
theorem dX10_feed_43 : decode cX10_feed 43 = .ok (.iastore, 1) := by decide +kernel
theorem dX10_feed_44 : decode cX10_feed 44 = .ok (.aload_n 0, 1) := by decide +kernel
theorem dX10_feed_45 : decode cX10_feed 45 = .ok (.getfield 24, 3) := by decide +kernel
theorem dX10_feed_48 : decode cX10_feed 48 = .ok (.iconst 4, 1) := by decide +kernel
theorem dX10_feed_49 : decode cX10_feed 49 = .ok (.iload 5, 2) := by decide +kernel
theorem dX10_feed_51 : decode cX10_feed 51 = .ok (.iastore, 1) := by decide +kernel
theorem dX10_feed_52 : decode cX10_feed 52 = .ok (.iconst 0, 1) := by decide +kernel
theorem dX10_feed_53 : decode cX10_feed 53 = .ok (.istore 6, 2) := by decide +kernel
theorem dX10_feed_55 : decode cX10_feed 55 = .ok (.iload 6, 2) := by decide +kernel
theorem dX10_feed_57 : decode cX10_feed 57 = .ok (.bipush 20, 2) := by decide +kernel
theorem dX10_feed_59 : decode cX10_feed 59 = .ok (.if_icmp .ge 42, 3) := by decide +kernel
theorem dX10_feed_62 : decode cX10_feed 62 = .ok (.aload_n 0, 1) := by decide +kernel
theorem dX10_feed_63 : decode cX10_feed 63 = .ok (.getfield 20, 3) := by decide +kernel
theorem dX10_feed_66 : decode cX10_feed 66 = .ok (.aload_n 0, 1) := by decide +kernel
theorem dX10_feed_67 : decode cX10_feed 67 = .ok (.getfield 100, 3) := by decide +kernel
theorem dX10_feed_70 : decode cX10_feed 70 = .ok (.iload 6, 2) := by decide +kernel
theorem dX10_feed_72 : decode cX10_feed 72 = .ok (.iadd, 1) := by decide +kernel
theorem dX10_feed_73 : decode cX10_feed 73 = .ok (.aload_n 0, 1) := by decide +kernel
theorem dX10_feed_74 : decode cX10_feed 74 = .ok (.getfield 24, 3) := by decide +kernel
theorem dX10_feed_77 : decode cX10_feed 77 = .ok (.iload 6, 2) := by decide +kernel
theorem dX10_feed_79 : decode cX10_feed 79 = .ok (.iconst 4, 1) := by decide +kernel
theorem dX10_feed_80 : decode cX10_feed 80 = .ok (.idiv, 1) := by decide +kernel
theorem dX10_feed_81 : decode cX10_feed 81 = .ok (.iaload, 1) := by decide +kernel
theorem dX10_feed_82 : decode cX10_feed 82 = .ok (.bipush 24, 2) := by decide +kernel
theorem dX10_feed_84 : decode cX10_feed 84 = .ok (.bipush 8, 2) := by decide +kernel
theorem dX10_feed_86 : decode cX10_feed 86 = .ok (.iload 6, 2) := by decide +kernel
theorem dX10_feed_88 : decode cX10_feed 88 = .ok (.iconst 4, 1) := by decide +kernel
theorem dX10_feed_89 : decode cX10_feed 89 = .ok (.irem, 1) := by decide +kernel
theorem dX10_feed_90 : decode cX10_feed 90 = .ok (.imul, 1) := by decide +kernel
theorem dX10_feed_91 : decode cX10_feed 91 = .ok (.isub, 1) := by decide +kernel
theorem dX10_feed_92 : decode cX10_feed 92 = .ok (.ishr, 1) := by decide +kernel
theorem dX10_feed_93 : decode cX10_feed 93 = .ok (.i2b, 1) := by decide +kernel
theorem dX10_feed_94 : decode cX10_feed 94 = .ok (.bastore, 1) := by decide +kernel
theorem dX10_feed_95 : decode cX10_feed 95 = .ok (.iinc 6 1, 3) := by decide +kernel
theorem dX10_feed_98 : decode cX10_feed 98 = .ok (.goto (-43), 3) := by decide +kernel
theorem dX10_feed_101 : decode cX10_feed 101 = .ok (.aload_n 0, 1) := by decide +kernel
theorem dX10_feed_102 : decode cX10_feed 102 = .ok (.dup, 1) := by decide +kernel
theorem dX10_feed_103 : decode cX10_feed 103 = .ok (.getfield 100, 3) := by decide +kernel
theorem dX10_feed_106 : decode cX10_feed 106 = .ok (.bipush 20, 2) := by decide +kernel
theorem dX10_feed_108 : decode cX10_feed 108 = .ok (.iadd, 1) := by decide +kernel
theorem dX10_feed_109 : decode cX10_feed 109 = .ok (.putfield 100, 3) := by decide +kernel
theorem dX10_feed_112 : decode cX10_feed 112 = .ok (.aload_n 0, 1) := by decide +kernel
theorem dX10_feed_113 : decode cX10_feed 113 = .ok (.getfield 100, 3) := by decide +kernel
theorem dX10_feed_116 : decode cX10_feed 116 = .ok (.ireturn, 1) := by decide +kernel
theorem dX10_end_0 : decode cX10_end 0 = .ok (.iload_n 1, 1) := by decide +kernel
theorem dX10_end_1 : decode cX10_end 1 = .ok (.i2l, 1) := by decide +kernel
theorem dX10_end_2 : decode cX10_end 2 = .ok (.lconst 0, 1) := by decide +kernel
theorem dX10_end_3 : decode cX10_end 3 = .ok (.aload_n 0, 1) := by decide +kernel
theorem dX10_end_4 : decode cX10_end 4 = .ok (.getfield 100, 3) := by decide +kernel
theorem dX10_end_7 : decode cX10_end 7 = .ok (.i2l, 1) := by decide +kernel
theorem dX10_end_8 : decode cX10_end 8 = .ok (.invokestatic 92, 3) := by decide +kernel
theorem dX10_end_11 : decode cX10_end 11 = .ok (.ifCond .ne 5, 3) := by decide +kernel
theorem dX10_end_14 : decode cX10_end 14 = .ok (.iconst (-1), 1) := by decide +kernel
theorem dX10_end_15 : decode cX10_end 15 = .ok (.ireturn, 1) := by decide +kernel
theorem dX10_end_16 : decode cX10_end 16 = .ok (.aload_n 0, 1) := by decide +kernel
theorem dX10_end_17 : decode cX10_end 17 = .ok (.iload_n 1, 1) := by decide +kernel
theorem dX10_end_18 : decode cX10_end 18 = .ok (.putfield 100, 3) := by decide +kernel
theorem dX10_end_21 : decode cX10_end 21 = .ok (.iload_n 1, 1) := by decide +kernel
theorem dX10_end_22 : decode cX10_end 22 = .ok (.ireturn, 1) := by decide +kernel
theorem dX10_see_0 : decode cX10_see 0 = .ok (.iload_n 1, 1) := by decide +kernel
theorem dX10_see_1 : decode cX10_see 1 = .ok (.aload_n 0, 1) := by decide +kernel
theorem dX10_see_2 : decode cX10_see 2 = .ok (.getfield 103, 3) := by decide +kernel
theorem dX10_see_5 : decode cX10_see 5 = .ok (.if_icmp .ge 16, 3) := by decide +kernel
theorem dX10_see_8 : decode cX10_see 8 = .ok (.aload_n 0, 1) := by decide +kernel
theorem dX10_see_9 : decode cX10_see 9 = .ok (.getfield 20, 3) := by decide +kernel
theorem dX10_see_12 : decode cX10_see 12 = .ok (.iload_n 1, 1) := by decide +kernel
theorem dX10_see_13 : decode cX10_see 13 = .ok (.baload, 1) := by decide +kernel
theorem dX10_see_14 : decode cX10_see 14 = .ok (.sipush 255, 3) := by decide +kernel
theorem dX10_see_17 : decode cX10_see 17 = .ok (.iand, 1) := by decide +kernel
theorem dX10_see_18 : decode cX10_see 18 = .ok (.goto 4, 3) := by decide +kernel
theorem dX10_see_21 : decode cX10_see 21 = .ok (.iconst (-1), 1) := by decide +kernel
theorem dX10_see_22 : decode cX10_see 22 = .ok (.ireturn, 1) := by decide +kernel
theorem dX10_advance_0 : decode cX10_advance 0 = .ok (.aload_n 0, 1) := by decide +kernel
theorem dX10_advance_1 : decode cX10_advance 1 = .ok (.aload_n 0, 1) := by decide +kernel
theorem dX10_advance_2 : decode cX10_advance 2 = .ok (.getfield 106, 3) := by decide +kernel
theorem dX10_advance_5 : decode cX10_advance 5 = .ok (.invokevirtual 109, 3) := by decide +kernel
theorem dX10_advance_8 : decode cX10_advance 8 = .ok (.bipush 32, 2) := by decide +kernel
theorem dX10_advance_10 : decode cX10_advance 10 = .ok (.if_icmp .eq 16, 3) := by decide +kernel
theorem dX10_advance_13 : decode cX10_advance 13 = .ok (.aload_n 0, 1) := by decide +kernel
theorem dX10_advance_14 : decode cX10_advance 14 = .ok (.aload_n 0, 1) := by decide +kernel
theorem dX10_advance_15 : decode cX10_advance 15 = .ok (.getfield 106, 3) := by decide +kernel
theorem dX10_advance_18 : decode cX10_advance 18 = .ok (.invokevirtual 109, 3) := by decide +kernel
theorem dX10_advance_21 : decode cX10_advance 21 = .ok (.bipush 10, 2) := by decide +kernel
theorem dX10_advance_23 : decode cX10_advance 23 = .ok (.if_icmp .ne 16, 3) := by decide +kernel
theorem dX10_advance_26 : decode cX10_advance 26 = .ok (.aload_n 0, 1) := by decide +kernel
theorem dX10_advance_27 : decode cX10_advance 27 = .ok (.dup, 1) := by decide +kernel
theorem dX10_advance_28 : decode cX10_advance 28 = .ok (.getfield 106, 3) := by decide +kernel
theorem dX10_advance_31 : decode cX10_advance 31 = .ok (.iconst 1, 1) := by decide +kernel
theorem dX10_advance_32 : decode cX10_advance 32 = .ok (.iadd, 1) := by decide +kernel
theorem dX10_advance_33 : decode cX10_advance 33 = .ok (.putfield 106, 3) := by decide +kernel
theorem dX10_advance_36 : decode cX10_advance 36 = .ok (.goto (-36), 3) := by decide +kernel
theorem dX10_advance_39 : decode cX10_advance 39 = .ok (.aload_n 0, 1) := by decide +kernel
theorem dX10_advance_40 : decode cX10_advance 40 = .ok (.aload_n 0, 1) := by decide +kernel
theorem dX10_advance_41 : decode cX10_advance 41 = .ok (.getfield 106, 3) := by decide +kernel
theorem dX10_advance_44 : decode cX10_advance 44 = .ok (.putfield 113, 3) := by decide +kernel
theorem dX10_advance_47 : decode cX10_advance 47 = .ok (.aload_n 0, 1) := by decide +kernel
theorem dX10_advance_48 : decode cX10_advance 48 = .ok (.aload_n 0, 1) := by decide +kernel
theorem dX10_advance_49 : decode cX10_advance 49 = .ok (.getfield 106, 3) := by decide +kernel
theorem dX10_advance_52 : decode cX10_advance 52 = .ok (.invokevirtual 109, 3) := by decide +kernel
theorem dX10_advance_55 : decode cX10_advance 55 = .ok (.istore_n 1, 1) := by decide +kernel
theorem dX10_advance_56 : decode cX10_advance 56 = .ok (.iload_n 1, 1) := by decide +kernel
theorem dX10_advance_57 : decode cX10_advance 57 = .ok (.iconst (-1), 1) := by decide +kernel
theorem dX10_advance_58 : decode cX10_advance 58 = .ok (.if_icmp .ne 11, 3) := by decide +kernel
theorem dX10_advance_61 : decode cX10_advance 61 = .ok (.aload_n 0, 1) := by decide +kernel
theorem dX10_advance_62 : decode cX10_advance 62 = .ok (.iconst 0, 1) := by decide +kernel
theorem dX10_advance_63 : decode cX10_advance 63 = .ok (.putfield 116, 3) := by decide +kernel
theorem dX10_advance_66 : decode cX10_advance 66 = .ok (.goto 173, 3) := by decide +kernel
theorem dX10_advance_69 : decode cX10_advance 69 = .ok (.iload_n 1, 1) := by decide +kernel
theorem dX10_advance_70 : decode cX10_advance 70 = .ok (.i2l, 1) := by decide +kernel
theorem dX10_advance_71 : decode cX10_advance 71 = .ok (.ldc2_w 119, 3) := by decide +kernel
theorem dX10_advance_74 : decode cX10_advance 74 = .ok (.ldc2_w 121, 3) := by decide +kernel
theorem dX10_advance_77 : decode cX10_advance 77 = .ok (.invokestatic 92, 3) := by decide +kernel
theorem dX10_advance_80 : decode cX10_advance 80 = .ok (.ifCond .eq 45, 3) := by decide +kernel
theorem dX10_advance_83 : decode cX10_advance 83 = .ok (.aload_n 0, 1) := by decide +kernel
theorem dX10_advance_84 : decode cX10_advance 84 = .ok (.aload_n 0, 1) := by decide +kernel
theorem dX10_advance_85 : decode cX10_advance 85 = .ok (.getfield 106, 3) := by decide +kernel
theorem dX10_advance_88 : decode cX10_advance 88 = .ok (.invokevirtual 109, 3) := by decide +kernel
theorem dX10_advance_91 : decode cX10_advance 91 = .ok (.i2l, 1) := by decide +kernel
theorem dX10_advance_92 : decode cX10_advance 92 = .ok (.ldc2_w 119, 3) := by decide +kernel
theorem dX10_advance_95 : decode cX10_advance 95 = .ok (.ldc2_w 121, 3) := by decide +kernel
theorem dX10_advance_98 : decode cX10_advance 98 = .ok (.invokestatic 92, 3) := by decide +kernel
theorem dX10_advance_101 : decode cX10_advance 101 = .ok (.ifCond .eq 16, 3) := by decide +kernel
theorem dX10_advance_104 : decode cX10_advance 104 = .ok (.aload_n 0, 1) := by decide +kernel
theorem dX10_advance_105 : decode cX10_advance 105 = .ok (.dup, 1) := by decide +kernel
theorem dX10_advance_106 : decode cX10_advance 106 = .ok (.getfield 106, 3) := by decide +kernel
theorem dX10_advance_109 : decode cX10_advance 109 = .ok (.iconst 1, 1) := by decide +kernel
theorem dX10_advance_110 : decode cX10_advance 110 = .ok (.iadd, 1) := by decide +kernel
theorem dX10_advance_111 : decode cX10_advance 111 = .ok (.putfield 106, 3) := by decide +kernel
theorem dX10_advance_114 : decode cX10_advance 114 = .ok (.goto (-31), 3) := by decide +kernel
theorem dX10_advance_117 : decode cX10_advance 117 = .ok (.aload_n 0, 1) := by decide +kernel
theorem dX10_advance_118 : decode cX10_advance 118 = .ok (.iconst 1, 1) := by decide +kernel
theorem dX10_advance_119 : decode cX10_advance 119 = .ok (.putfield 116, 3) := by decide +kernel
theorem dX10_advance_122 : decode cX10_advance 122 = .ok (.goto 117, 3) := by decide +kernel
theorem dX10_advance_125 : decode cX10_advance 125 = .ok (.iload_n 1, 1) := by decide +kernel
theorem dX10_advance_126 : decode cX10_advance 126 = .ok (.i2l, 1) := by decide +kernel
theorem dX10_advance_127 : decode cX10_advance 127 = .ok (.ldc2_w 123, 3) := by decide +kernel
theorem dX10_advance_130 : decode cX10_advance 130 = .ok (.ldc2_w 125, 3) := by decide +kernel
theorem dX10_advance_133 : decode cX10_advance 133 = .ok (.invokestatic 92, 3) := by decide +kernel
theorem dX10_advance_136 : decode cX10_advance 136 = .ok (.ifCond .eq 78, 3) := by decide +kernel
theorem dX10_advance_139 : decode cX10_advance 139 = .ok (.aload_n 0, 1) := by decide +kernel
theorem dX10_advance_140 : decode cX10_advance 140 = .ok (.iconst 0, 1) := by decide +kernel
theorem dX10_advance_141 : decode cX10_advance 141 = .ok (.putfield 127, 3) := by decide +kernel
theorem dX10_advance_144 : decode cX10_advance 144 = .ok (.aload_n 0, 1) := by decide +kernel
theorem dX10_advance_145 : decode cX10_advance 145 = .ok (.aload_n 0, 1) := by decide +kernel
theorem dX10_advance_146 : decode cX10_advance 146 = .ok (.getfield 106, 3) := by decide +kernel
theorem dX10_advance_149 : decode cX10_advance 149 = .ok (.invokevirtual 109, 3) := by decide +kernel
theorem dX10_advance_152 : decode cX10_advance 152 = .ok (.i2l, 1) := by decide +kernel
theorem dX10_advance_153 : decode cX10_advance 153 = .ok (.ldc2_w 123, 3) := by decide +kernel
theorem dX10_advance_156 : decode cX10_advance 156 = .ok (.ldc2_w 125, 3) := by decide +kernel
theorem dX10_advance_159 : decode cX10_advance 159 = .ok (.invokestatic 92, 3) := by decide +kernel
theorem dX10_advance_162 : decode cX10_advance 162 = .ok (.ifCond .eq 44, 3) := by decide +kernel
theorem dX10_advance_165 : decode cX10_advance 165 = .ok (.aload_n 0, 1) := by decide +kernel
theorem dX10_advance_166 : decode cX10_advance 166 = .ok (.ldc 130, 2) := by decide +kernel
theorem dX10_advance_168 : decode cX10_advance 168 = .ok (.bipush 10, 2) := by decide +kernel
theorem dX10_advance_170 : decode cX10_advance 170 = .ok (.aload_n 0, 1) := by decide +kernel
theorem dX10_advance_171 : decode cX10_advance 171 = .ok (.getfield 127, 3) := by decide +kernel
theorem dX10_advance_174 : decode cX10_advance 174 = .ok (.imul, 1) := by decide +kernel
theorem dX10_advance_175 : decode cX10_advance 175 = .ok (.aload_n 0, 1) := by decide +kernel
theorem dX10_advance_176 : decode cX10_advance 176 = .ok (.aload_n 0, 1) := by decide +kernel
theorem dX10_advance_177 : decode cX10_advance 177 = .ok (.getfield 106, 3) := by decide +kernel
theorem dX10_advance_180 : decode cX10_advance 180 = .ok (.invokevirtual 109, 3) := by decide +kernel
theorem dX10_advance_183 : decode cX10_advance 183 = .ok (.iadd, 1) := by decide +kernel
theorem dX10_advance_184 : decode cX10_advance 184 = .ok (.bipush 48, 2) := by decide +kernel
theorem dX10_advance_186 : decode cX10_advance 186 = .ok (.isub, 1) := by decide +kernel
theorem dX10_advance_187 : decode cX10_advance 187 = .ok (.invokestatic 131, 3) := by decide +kernel
theorem dX10_advance_190 : decode cX10_advance 190 = .ok (.putfield 127, 3) := by decide +kernel
theorem dX10_advance_193 : decode cX10_advance 193 = .ok (.aload_n 0, 1) := by decide +kernel
theorem dX10_advance_194 : decode cX10_advance 194 = .ok (.dup, 1) := by decide +kernel
theorem dX10_advance_195 : decode cX10_advance 195 = .ok (.getfield 106, 3) := by decide +kernel
theorem dX10_advance_198 : decode cX10_advance 198 = .ok (.iconst 1, 1) := by decide +kernel
theorem dX10_advance_199 : decode cX10_advance 199 = .ok (.iadd, 1) := by decide +kernel
theorem dX10_advance_200 : decode cX10_advance 200 = .ok (.putfield 106, 3) := by decide +kernel
theorem dX10_advance_203 : decode cX10_advance 203 = .ok (.goto (-59), 3) := by decide +kernel
theorem dX10_advance_206 : decode cX10_advance 206 = .ok (.aload_n 0, 1) := by decide +kernel
theorem dX10_advance_207 : decode cX10_advance 207 = .ok (.iconst 2, 1) := by decide +kernel
theorem dX10_advance_208 : decode cX10_advance 208 = .ok (.putfield 116, 3) := by decide +kernel
theorem dX10_advance_211 : decode cX10_advance 211 = .ok (.goto 28, 3) := by decide +kernel
theorem dX10_advance_214 : decode cX10_advance 214 = .ok (.aload_n 0, 1) := by decide +kernel
theorem dX10_advance_215 : decode cX10_advance 215 = .ok (.iload_n 1, 1) := by decide +kernel
theorem dX10_advance_216 : decode cX10_advance 216 = .ok (.bipush 59, 2) := by decide +kernel
theorem dX10_advance_218 : decode cX10_advance 218 = .ok (.if_icmp .ne 7, 3) := by decide +kernel
theorem dX10_advance_221 : decode cX10_advance 221 = .ok (.iconst 3, 1) := by decide +kernel
theorem dX10_advance_222 : decode cX10_advance 222 = .ok (.goto 4, 3) := by decide +kernel
theorem dX10_advance_225 : decode cX10_advance 225 = .ok (.iconst 4, 1) := by decide +kernel
theorem dX10_advance_226 : decode cX10_advance 226 = .ok (.putfield 116, 3) := by decide +kernel
theorem dX10_advance_229 : decode cX10_advance 229 = .ok (.aload_n 0, 1) := by decide +kernel
theorem dX10_advance_230 : decode cX10_advance 230 = .ok (.dup, 1) := by decide +kernel
theorem dX10_advance_231 : decode cX10_advance 231 = .ok (.getfield 106, 3) := by decide +kernel
theorem dX10_advance_234 : decode cX10_advance 234 = .ok (.iconst 1, 1) := by decide +kernel
theorem dX10_advance_235 : decode cX10_advance 235 = .ok (.iadd, 1) := by decide +kernel
theorem dX10_advance_236 : decode cX10_advance 236 = .ok (.putfield 106, 3) := by decide +kernel
theorem dX10_advance_239 : decode cX10_advance 239 = .ok (.return_, 1) := by decide +kernel
theorem dX10_good_0 : decode cX10_good 0 = .ok (.aload_n 0, 1) := by decide +kernel
theorem dX10_good_1 : decode cX10_good 1 = .ok (.getfield 137, 3) := by decide +kernel
theorem dX10_good_4 : decode cX10_good 4 = .ok (.ifCond .ne 7, 3) := by decide +kernel
theorem dX10_good_7 : decode cX10_good 7 = .ok (.iconst 1, 1) := by decide +kernel
theorem dX10_good_8 : decode cX10_good 8 = .ok (.goto 4, 3) := by decide +kernel
theorem dX10_good_11 : decode cX10_good 11 = .ok (.iconst 0, 1) := by decide +kernel
theorem dX10_good_12 : decode cX10_good 12 = .ok (.ireturn, 1) := by decide +kernel
theorem dX10_errs_0 : decode cX10_errs 0 = .ok (.aload_n 0, 1) := by decide +kernel
theorem dX10_errs_1 : decode cX10_errs 1 = .ok (.invokevirtual 140, 3) := by decide +kernel
theorem dX10_errs_4 : decode cX10_errs 4 = .ok (.ifCond .ne 4, 3) := by decide +kernel
theorem dX10_errs_7 : decode cX10_errs 7 = .ok (.return_, 1) := by decide +kernel
theorem dX10_errs_8 : decode cX10_errs 8 = .ok (.aload_n 0, 1) := by decide +kernel
theorem dX10_errs_9 : decode cX10_errs 9 = .ok (.iload_n 1, 1) := by decide +kernel
theorem dX10_errs_10 : decode cX10_errs 10 = .ok (.putfield 137, 3) := by decide +kernel
theorem dX10_errs_13 : decode cX10_errs 13 = .ok (.aload_n 0, 1) := by decide +kernel
theorem dX10_errs_14 : decode cX10_errs 14 = .ok (.aload_n 0, 1) := by decide +kernel
theorem dX10_errs_15 : decode cX10_errs 15 = .ok (.getfield 113, 3) := by decide +kernel
theorem dX10_errs_18 : decode cX10_errs 18 = .ok (.putfield 27, 3) := by decide +kernel
theorem dX10_errs_21 : decode cX10_errs 21 = .ok (.return_, 1) := by decide +kernel
theorem dX10_is_0 : decode cX10_is 0 = .ok (.aload_n 0, 1) := by decide +kernel
theorem dX10_is_1 : decode cX10_is 1 = .ok (.invokevirtual 140, 3) := by decide +kernel
theorem dX10_is_4 : decode cX10_is 4 = .ok (.ifCond .eq 31, 3) := by decide +kernel
theorem dX10_is_7 : decode cX10_is 7 = .ok (.aload_n 0, 1) := by decide +kernel
theorem dX10_is_8 : decode cX10_is 8 = .ok (.getfield 116, 3) := by decide +kernel
theorem dX10_is_11 : decode cX10_is 11 = .ok (.iconst 1, 1) := by decide +kernel
theorem dX10_is_12 : decode cX10_is 12 = .ok (.if_icmp .ne 23, 3) := by decide +kernel
theorem dX10_is_15 : decode cX10_is 15 = .ok (.aload_n 0, 1) := by decide +kernel
theorem dX10_is_16 : decode cX10_is 16 = .ok (.getfield 106, 3) := by decide +kernel
theorem dX10_is_19 : decode cX10_is 19 = .ok (.aload_n 0, 1) := by decide +kernel
theorem dX10_is_20 : decode cX10_is 20 = .ok (.getfield 113, 3) := by decide +kernel
theorem dX10_is_23 : decode cX10_is 23 = .ok (.isub, 1) := by decide +kernel
theorem dX10_is_24 : decode cX10_is 24 = .ok (.aload_n 1, 1) := by decide +kernel
theorem dX10_is_25 : decode cX10_is 25 = .ok (.invokevirtual 143, 3) := by decide +kernel
theorem dX10_is_28 : decode cX10_is 28 = .ok (.if_icmp .ne 7, 3) := by decide +kernel
theorem dX10_is_31 : decode cX10_is 31 = .ok (.iconst 1, 1) := by decide +kernel
theorem dX10_is_32 : decode cX10_is 32 = .ok (.goto 4, 3) := by decide +kernel
theorem dX10_is_35 : decode cX10_is 35 = .ok (.iconst 0, 1) := by decide +kernel
theorem dX10_is_36 : decode cX10_is 36 = .ok (.istore_n 2, 1) := by decide +kernel
theorem dX10_is_37 : decode cX10_is 37 = .ok (.iconst 0, 1) := by decide +kernel
theorem dX10_is_38 : decode cX10_is 38 = .ok (.istore_n 3, 1) := by decide +kernel
theorem dX10_is_39 : decode cX10_is 39 = .ok (.iload_n 3, 1) := by decide +kernel
theorem dX10_is_40 : decode cX10_is 40 = .ok (.aload_n 1, 1) := by decide +kernel
theorem dX10_is_41 : decode cX10_is 41 = .ok (.invokevirtual 143, 3) := by decide +kernel
theorem dX10_is_44 : decode cX10_is 44 = .ok (.if_icmp .ge 38, 3) := by decide +kernel
theorem dX10_is_47 : decode cX10_is 47 = .ok (.iload_n 2, 1) := by decide +kernel
theorem dX10_is_48 : decode cX10_is 48 = .ok (.ifCond .eq 34, 3) := by decide +kernel
theorem dX10_is_51 : decode cX10_is 51 = .ok (.aload_n 0, 1) := by decide +kernel
theorem dX10_is_52 : decode cX10_is 52 = .ok (.getfield 20, 3) := by decide +kernel
theorem dX10_is_55 : decode cX10_is 55 = .ok (.aload_n 0, 1) := by decide +kernel
theorem dX10_is_56 : decode cX10_is 56 = .ok (.getfield 113, 3) := by decide +kernel
theorem dX10_is_59 : decode cX10_is 59 = .ok (.iload_n 3, 1) := by decide +kernel
theorem dX10_is_60 : decode cX10_is 60 = .ok (.iadd, 1) := by decide +kernel
theorem dX10_is_61 : decode cX10_is 61 = .ok (.baload, 1) := by decide +kernel
theorem dX10_is_62 : decode cX10_is 62 = .ok (.aload_n 1, 1) := by decide +kernel
theorem dX10_is_63 : decode cX10_is 63 = .ok (.iload_n 3, 1) := by decide +kernel
theorem dX10_is_64 : decode cX10_is 64 = .ok (.invokevirtual 149, 3) := by decide +kernel
theorem dX10_is_67 : decode cX10_is 67 = .ok (.if_icmp .ne 7, 3) := by decide +kernel
theorem dX10_is_70 : decode cX10_is 70 = .ok (.iconst 1, 1) := by decide +kernel
theorem dX10_is_71 : decode cX10_is 71 = .ok (.goto 4, 3) := by decide +kernel
theorem dX10_is_74 : decode cX10_is 74 = .ok (.iconst 0, 1) := by decide +kernel
theorem dX10_is_75 : decode cX10_is 75 = .ok (.istore_n 2, 1) := by decide +kernel
theorem dX10_is_76 : decode cX10_is 76 = .ok (.iinc 3 1, 3) := by decide +kernel
theorem dX10_is_79 : decode cX10_is 79 = .ok (.goto (-40), 3) := by decide +kernel
theorem dX10_is_82 : decode cX10_is 82 = .ok (.iload_n 2, 1) := by decide +kernel
theorem dX10_is_83 : decode cX10_is 83 = .ok (.ireturn, 1) := by decide +kernel
theorem dX10_takes_0 : decode cX10_takes 0 = .ok (.aload_n 0, 1) := by decide +kernel
theorem dX10_takes_1 : decode cX10_takes 1 = .ok (.aload_n 1, 1) := by decide +kernel
theorem dX10_takes_2 : decode cX10_takes 2 = .ok (.invokevirtual 153, 3) := by decide +kernel
theorem dX10_takes_5 : decode cX10_takes 5 = .ok (.istore_n 2, 1) := by decide +kernel
theorem dX10_takes_6 : decode cX10_takes 6 = .ok (.iload_n 2, 1) := by decide +kernel
theorem dX10_takes_7 : decode cX10_takes 7 = .ok (.ifCond .eq 7, 3) := by decide +kernel
theorem dX10_takes_10 : decode cX10_takes 10 = .ok (.aload_n 0, 1) := by decide +kernel
theorem dX10_takes_11 : decode cX10_takes 11 = .ok (.invokevirtual 157, 3) := by decide +kernel
theorem dX10_takes_14 : decode cX10_takes 14 = .ok (.iload_n 2, 1) := by decide +kernel
theorem dX10_takes_15 : decode cX10_takes 15 = .ok (.ireturn, 1) := by decide +kernel
theorem dX10_needs_0 : decode cX10_needs 0 = .ok (.aload_n 0, 1) := by decide +kernel
theorem dX10_needs_1 : decode cX10_needs 1 = .ok (.aload_n 1, 1) := by decide +kernel
theorem dX10_needs_2 : decode cX10_needs 2 = .ok (.invokevirtual 160, 3) := by decide +kernel
theorem dX10_needs_5 : decode cX10_needs 5 = .ok (.ifCond .ne 8, 3) := by decide +kernel
theorem dX10_needs_8 : decode cX10_needs 8 = .ok (.aload_n 0, 1) := by decide +kernel
theorem dX10_needs_9 : decode cX10_needs 9 = .ok (.iconst 1, 1) := by decide +kernel
theorem dX10_needs_10 : decode cX10_needs 10 = .ok (.invokevirtual 163, 3) := by decide +kernel
theorem dX10_needs_13 : decode cX10_needs 13 = .ok (.return_, 1) := by decide +kernel
theorem dX10_number_0 : decode cX10_number 0 = .ok (.aload_n 0, 1) := by decide +kernel
theorem dX10_number_1 : decode cX10_number 1 = .ok (.invokevirtual 140, 3) := by decide +kernel
theorem dX10_number_4 : decode cX10_number 4 = .ok (.ifCond .eq 16, 3) := by decide +kernel
theorem dX10_number_7 : decode cX10_number 7 = .ok (.aload_n 0, 1) := by decide +kernel
theorem dX10_number_8 : decode cX10_number 8 = .ok (.getfield 116, 3) := by decide +kernel
theorem dX10_number_11 : decode cX10_number 11 = .ok (.iconst 2, 1) := by decide +kernel
theorem dX10_number_12 : decode cX10_number 12 = .ok (.if_icmp .eq 8, 3) := by decide +kernel
theorem dX10_number_15 : decode cX10_number 15 = .ok (.aload_n 0, 1) := by decide +kernel
theorem dX10_number_16 : decode cX10_number 16 = .ok (.iconst 1, 1) := by decide +kernel
theorem dX10_number_17 : decode cX10_number 17 = .ok (.invokevirtual 163, 3) := by decide +kernel
theorem dX10_number_20 : decode cX10_number 20 = .ok (.aload_n 0, 1) := by decide +kernel
theorem dX10_number_21 : decode cX10_number 21 = .ok (.invokevirtual 140, 3) := by decide +kernel
theorem dX10_number_24 : decode cX10_number 24 = .ok (.ifCond .eq 23, 3) := by decide +kernel
theorem dX10_number_27 : decode cX10_number 27 = .ok (.aload_n 0, 1) := by decide +kernel
theorem dX10_number_28 : decode cX10_number 28 = .ok (.getfield 127, 3) := by decide +kernel
theorem dX10_number_31 : decode cX10_number 31 = .ok (.i2l, 1) := by decide +kernel
theorem dX10_number_32 : decode cX10_number 32 = .ok (.iload_n 1, 1) := by decide +kernel
theorem dX10_number_33 : decode cX10_number 33 = .ok (.i2l, 1) := by decide +kernel
theorem dX10_number_34 : decode cX10_number 34 = .ok (.iload_n 2, 1) := by decide +kernel
theorem dX10_number_35 : decode cX10_number 35 = .ok (.i2l, 1) := by decide +kernel
theorem dX10_number_36 : decode cX10_number 36 = .ok (.invokestatic 92, 3) := by decide +kernel
theorem dX10_number_39 : decode cX10_number 39 = .ok (.ifCond .ne 8, 3) := by decide +kernel
theorem dX10_number_42 : decode cX10_number 42 = .ok (.aload_n 0, 1) := by decide +kernel
theorem dX10_number_43 : decode cX10_number 43 = .ok (.iconst 2, 1) := by decide +kernel
theorem dX10_number_44 : decode cX10_number 44 = .ok (.invokevirtual 163, 3) := by decide +kernel
theorem dX10_number_47 : decode cX10_number 47 = .ok (.aload_n 0, 1) := by decide +kernel
theorem dX10_number_48 : decode cX10_number 48 = .ok (.invokevirtual 140, 3) := by decide +kernel
theorem dX10_number_51 : decode cX10_number 51 = .ok (.ifCond .ne 5, 3) := by decide +kernel
theorem dX10_number_54 : decode cX10_number 54 = .ok (.iconst 0, 1) := by decide +kernel
theorem dX10_number_55 : decode cX10_number 55 = .ok (.ireturn, 1) := by decide +kernel
theorem dX10_number_56 : decode cX10_number 56 = .ok (.aload_n 0, 1) := by decide +kernel
theorem dX10_number_57 : decode cX10_number 57 = .ok (.getfield 127, 3) := by decide +kernel
theorem dX10_number_60 : decode cX10_number 60 = .ok (.istore_n 3, 1) := by decide +kernel
theorem dX10_number_61 : decode cX10_number 61 = .ok (.aload_n 0, 1) := by decide +kernel
theorem dX10_number_62 : decode cX10_number 62 = .ok (.invokevirtual 157, 3) := by decide +kernel
theorem dX10_number_65 : decode cX10_number 65 = .ok (.iload_n 3, 1) := by decide +kernel
theorem dX10_number_66 : decode cX10_number 66 = .ok (.ireturn, 1) := by decide +kernel
theorem dX10_told_0 : decode cX10_told 0 = .ok (.aload_n 0, 1) := by decide +kernel
theorem dX10_told_1 : decode cX10_told 1 = .ok (.aload_n 1, 1) := by decide +kernel
theorem dX10_told_2 : decode cX10_told 2 = .ok (.invokevirtual 167, 3) := by decide +kernel
theorem dX10_told_5 : decode cX10_told 5 = .ok (.aload_n 0, 1) := by decide +kernel
theorem dX10_told_6 : decode cX10_told 6 = .ok (.iload_n 2, 1) := by decide +kernel
theorem dX10_told_7 : decode cX10_told 7 = .ok (.iload_n 3, 1) := by decide +kernel
theorem dX10_told_8 : decode cX10_told 8 = .ok (.invokevirtual 171, 3) := by decide +kernel
theorem dX10_told_11 : decode cX10_told 11 = .ok (.ireturn, 1) := by decide +kernel
theorem dX10_fault_0 : decode cX10_fault 0 = .ok (.iload_n 1, 1) := by decide +kernel
theorem dX10_fault_1 : decode cX10_fault 1 = .ok (.ifCond .ne 10, 3) := by decide +kernel
theorem dX10_fault_4 : decode cX10_fault 4 = .ok (.aload_n 0, 1) := by decide +kernel
theorem dX10_fault_5 : decode cX10_fault 5 = .ok (.getfield 137, 3) := by decide +kernel
theorem dX10_fault_8 : decode cX10_fault 8 = .ok (.goto 16, 3) := by decide +kernel
theorem dX10_fault_11 : decode cX10_fault 11 = .ok (.iload_n 1, 1) := by decide +kernel
theorem dX10_fault_12 : decode cX10_fault 12 = .ok (.iconst 1, 1) := by decide +kernel
theorem dX10_fault_13 : decode cX10_fault 13 = .ok (.if_icmp .ne 10, 3) := by decide +kernel
theorem dX10_fault_16 : decode cX10_fault 16 = .ok (.aload_n 0, 1) := by decide +kernel
theorem dX10_fault_17 : decode cX10_fault 17 = .ok (.getfield 27, 3) := by decide +kernel
theorem dX10_fault_20 : decode cX10_fault 20 = .ok (.goto 4, 3) := by decide +kernel
theorem dX10_fault_23 : decode cX10_fault 23 = .ok (.iconst (-1), 1) := by decide +kernel
theorem dX10_fault_24 : decode cX10_fault 24 = .ok (.ireturn, 1) := by decide +kernel
theorem dX10_readFirst_0 : decode cX10_readFirst 0 = .ok (.aload_n 0, 1) := by decide +kernel
theorem dX10_readFirst_1 : decode cX10_readFirst 1 = .ok (.ldc 174, 2) := by decide +kernel
theorem dX10_readFirst_3 : decode cX10_readFirst 3 = .ok (.invokevirtual 167, 3) := by decide +kernel
theorem dX10_readFirst_6 : decode cX10_readFirst 6 = .ok (.aload_n 0, 1) := by decide +kernel
theorem dX10_readFirst_7 : decode cX10_readFirst 7 = .ok (.getfield 31, 3) := by decide +kernel
theorem dX10_readFirst_10 : decode cX10_readFirst 10 = .ok (.iconst 0, 1) := by decide +kernel
theorem dX10_readFirst_11 : decode cX10_readFirst 11 = .ok (.aload_n 0, 1) := by decide +kernel
theorem dX10_readFirst_12 : decode cX10_readFirst 12 = .ok (.ldc 176, 2) := by decide +kernel
theorem dX10_readFirst_14 : decode cX10_readFirst 14 = .ok (.iconst 1, 1) := by decide +kernel
theorem dX10_readFirst_15 : decode cX10_readFirst 15 = .ok (.bipush 14, 2) := by decide +kernel
theorem dX10_readFirst_17 : decode cX10_readFirst 17 = .ok (.invokevirtual 178, 3) := by decide +kernel
theorem dX10_readFirst_20 : decode cX10_readFirst 20 = .ok (.iastore, 1) := by decide +kernel
theorem dX10_readFirst_21 : decode cX10_readFirst 21 = .ok (.aload_n 0, 1) := by decide +kernel
theorem dX10_readFirst_22 : decode cX10_readFirst 22 = .ok (.getfield 31, 3) := by decide +kernel
theorem dX10_readFirst_25 : decode cX10_readFirst 25 = .ok (.iconst 1, 1) := by decide +kernel
theorem dX10_readFirst_26 : decode cX10_readFirst 26 = .ok (.aload_n 0, 1) := by decide +kernel
theorem dX10_readFirst_27 : decode cX10_readFirst 27 = .ok (.ldc 182, 2) := by decide +kernel
theorem dX10_readFirst_29 : decode cX10_readFirst 29 = .ok (.iconst 0, 1) := by decide +kernel
theorem dX10_readFirst_30 : decode cX10_readFirst 30 = .ok (.bipush 9, 2) := by decide +kernel
theorem dX10_readFirst_32 : decode cX10_readFirst 32 = .ok (.invokevirtual 178, 3) := by decide +kernel
theorem dX10_readFirst_35 : decode cX10_readFirst 35 = .ok (.iastore, 1) := by decide +kernel
theorem dX10_readFirst_36 : decode cX10_readFirst 36 = .ok (.aload_n 0, 1) := by decide +kernel
theorem dX10_readFirst_37 : decode cX10_readFirst 37 = .ok (.getfield 31, 3) := by decide +kernel
theorem dX10_readFirst_40 : decode cX10_readFirst 40 = .ok (.iconst 2, 1) := by decide +kernel
theorem dX10_readFirst_41 : decode cX10_readFirst 41 = .ok (.aload_n 0, 1) := by decide +kernel
theorem dX10_readFirst_42 : decode cX10_readFirst 42 = .ok (.ldc 184, 2) := by decide +kernel
theorem dX10_readFirst_44 : decode cX10_readFirst 44 = .ok (.iconst 1, 1) := by decide +kernel
theorem dX10_readFirst_45 : decode cX10_readFirst 45 = .ok (.bipush 9, 2) := by decide +kernel
theorem dX10_readFirst_47 : decode cX10_readFirst 47 = .ok (.invokevirtual 178, 3) := by decide +kernel
theorem dX10_readFirst_50 : decode cX10_readFirst 50 = .ok (.iastore, 1) := by decide +kernel
theorem dX10_readFirst_51 : decode cX10_readFirst 51 = .ok (.aload_n 0, 1) := by decide +kernel
theorem dX10_readFirst_52 : decode cX10_readFirst 52 = .ok (.getfield 31, 3) := by decide +kernel
theorem dX10_readFirst_55 : decode cX10_readFirst 55 = .ok (.iconst 3, 1) := by decide +kernel
theorem dX10_readFirst_56 : decode cX10_readFirst 56 = .ok (.aload_n 0, 1) := by decide +kernel
theorem dX10_readFirst_57 : decode cX10_readFirst 57 = .ok (.ldc 186, 2) := by decide +kernel
theorem dX10_readFirst_59 : decode cX10_readFirst 59 = .ok (.iconst 0, 1) := by decide +kernel
theorem dX10_readFirst_60 : decode cX10_readFirst 60 = .ok (.bipush 10, 2) := by decide +kernel
theorem dX10_readFirst_62 : decode cX10_readFirst 62 = .ok (.invokevirtual 178, 3) := by decide +kernel
theorem dX10_readFirst_65 : decode cX10_readFirst 65 = .ok (.iastore, 1) := by decide +kernel
theorem dX10_readFirst_66 : decode cX10_readFirst 66 = .ok (.return_, 1) := by decide +kernel
theorem dX10_readAugur_0 : decode cX10_readAugur 0 = .ok (.bipush 9, 2) := by decide +kernel
theorem dX10_readAugur_2 : decode cX10_readAugur 2 = .ok (.iconst 3, 1) := by decide +kernel
theorem dX10_readAugur_3 : decode cX10_readAugur 3 = .ok (.aload_n 0, 1) := by decide +kernel
theorem dX10_readAugur_4 : decode cX10_readAugur 4 = .ok (.getfield 31, 3) := by decide +kernel
theorem dX10_readAugur_7 : decode cX10_readAugur 7 = .ok (.iconst 4, 1) := by decide +kernel
theorem dX10_readAugur_8 : decode cX10_readAugur 8 = .ok (.iaload, 1) := by decide +kernel
theorem dX10_readAugur_9 : decode cX10_readAugur 9 = .ok (.imul, 1) := by decide +kernel
theorem dX10_readAugur_10 : decode cX10_readAugur 10 = .ok (.iadd, 1) := by decide +kernel
theorem dX10_readAugur_11 : decode cX10_readAugur 11 = .ok (.istore_n 1, 1) := by decide +kernel
theorem dX10_readAugur_12 : decode cX10_readAugur 12 = .ok (.aload_n 0, 1) := by decide +kernel
theorem dX10_readAugur_13 : decode cX10_readAugur 13 = .ok (.getfield 31, 3) := by decide +kernel
theorem dX10_readAugur_16 : decode cX10_readAugur 16 = .ok (.iload_n 1, 1) := by decide +kernel
theorem dX10_readAugur_17 : decode cX10_readAugur 17 = .ok (.iconst 0, 1) := by decide +kernel
theorem dX10_readAugur_18 : decode cX10_readAugur 18 = .ok (.iadd, 1) := by decide +kernel
theorem dX10_readAugur_19 : decode cX10_readAugur 19 = .ok (.aload_n 0, 1) := by decide +kernel
theorem dX10_readAugur_20 : decode cX10_readAugur 20 = .ok (.ldc 188, 2) := by decide +kernel
theorem dX10_readAugur_22 : decode cX10_readAugur 22 = .ok (.iconst 0, 1) := by decide +kernel
theorem dX10_readAugur_23 : decode cX10_readAugur 23 = .ok (.iconst 1, 1) := by decide +kernel
theorem dX10_readAugur_24 : decode cX10_readAugur 24 = .ok (.invokevirtual 178, 3) := by decide +kernel
theorem dX10_readAugur_27 : decode cX10_readAugur 27 = .ok (.iastore, 1) := by decide +kernel
theorem dX10_readAugur_28 : decode cX10_readAugur 28 = .ok (.aload_n 0, 1) := by decide +kernel
theorem dX10_readAugur_29 : decode cX10_readAugur 29 = .ok (.getfield 31, 3) := by decide +kernel
theorem dX10_readAugur_32 : decode cX10_readAugur 32 = .ok (.iload_n 1, 1) := by decide +kernel
theorem dX10_readAugur_33 : decode cX10_readAugur 33 = .ok (.iconst 1, 1) := by decide +kernel
theorem dX10_readAugur_34 : decode cX10_readAugur 34 = .ok (.iadd, 1) := by decide +kernel
theorem dX10_readAugur_35 : decode cX10_readAugur 35 = .ok (.aload_n 0, 1) := by decide +kernel
theorem dX10_readAugur_36 : decode cX10_readAugur 36 = .ok (.ldc 190, 2) := by decide +kernel
theorem dX10_readAugur_38 : decode cX10_readAugur 38 = .ok (.iconst 0, 1) := by decide +kernel
theorem dX10_readAugur_39 : decode cX10_readAugur 39 = .ok (.aload_n 0, 1) := by decide +kernel
theorem dX10_readAugur_40 : decode cX10_readAugur 40 = .ok (.getfield 31, 3) := by decide +kernel
theorem dX10_readAugur_43 : decode cX10_readAugur 43 = .ok (.iconst 0, 1) := by decide +kernel
theorem dX10_readAugur_44 : decode cX10_readAugur 44 = .ok (.iaload, 1) := by decide +kernel
theorem dX10_readAugur_45 : decode cX10_readAugur 45 = .ok (.iconst 1, 1) := by decide +kernel
theorem dX10_readAugur_46 : decode cX10_readAugur 46 = .ok (.isub, 1) := by decide +kernel
theorem dX10_readAugur_47 : decode cX10_readAugur 47 = .ok (.invokevirtual 178, 3) := by decide +kernel
theorem dX10_readAugur_50 : decode cX10_readAugur 50 = .ok (.iastore, 1) := by decide +kernel
theorem dX10_readAugur_51 : decode cX10_readAugur 51 = .ok (.aload_n 0, 1) := by decide +kernel
theorem dX10_readAugur_52 : decode cX10_readAugur 52 = .ok (.getfield 31, 3) := by decide +kernel
theorem dX10_readAugur_55 : decode cX10_readAugur 55 = .ok (.iload_n 1, 1) := by decide +kernel
theorem dX10_readAugur_56 : decode cX10_readAugur 56 = .ok (.iconst 2, 1) := by decide +kernel
theorem dX10_readAugur_57 : decode cX10_readAugur 57 = .ok (.iadd, 1) := by decide +kernel
theorem dX10_readAugur_58 : decode cX10_readAugur 58 = .ok (.aload_n 0, 1) := by decide +kernel
theorem dX10_readAugur_59 : decode cX10_readAugur 59 = .ok (.ldc 191, 2) := by decide +kernel
theorem dX10_readAugur_61 : decode cX10_readAugur 61 = .ok (.aload_n 0, 1) := by decide +kernel
theorem dX10_readAugur_62 : decode cX10_readAugur 62 = .ok (.getfield 31, 3) := by decide +kernel
theorem dX10_readAugur_65 : decode cX10_readAugur 65 = .ok (.iload_n 1, 1) := by decide +kernel
theorem dX10_readAugur_66 : decode cX10_readAugur 66 = .ok (.iconst 1, 1) := by decide +kernel
theorem dX10_readAugur_67 : decode cX10_readAugur 67 = .ok (.iadd, 1) := by decide +kernel
theorem dX10_readAugur_68 : decode cX10_readAugur 68 = .ok (.iaload, 1) := by decide +kernel
theorem dX10_readAugur_69 : decode cX10_readAugur 69 = .ok (.aload_n 0, 1) := by decide +kernel
theorem dX10_readAugur_70 : decode cX10_readAugur 70 = .ok (.getfield 31, 3) := by decide +kernel
theorem dX10_readAugur_73 : decode cX10_readAugur 73 = .ok (.iconst 0, 1) := by decide +kernel
theorem dX10_readAugur_74 : decode cX10_readAugur 74 = .ok (.iaload, 1) := by decide +kernel
theorem dX10_readAugur_75 : decode cX10_readAugur 75 = .ok (.iconst 1, 1) := by decide +kernel
theorem dX10_readAugur_76 : decode cX10_readAugur 76 = .ok (.isub, 1) := by decide +kernel
theorem dX10_readAugur_77 : decode cX10_readAugur 77 = .ok (.invokevirtual 178, 3) := by decide +kernel
theorem dX10_readAugur_80 : decode cX10_readAugur 80 = .ok (.iastore, 1) := by decide +kernel
theorem dX10_readAugur_81 : decode cX10_readAugur 81 = .ok (.aload_n 0, 1) := by decide +kernel
theorem dX10_readAugur_82 : decode cX10_readAugur 82 = .ok (.getfield 31, 3) := by decide +kernel
theorem dX10_readAugur_85 : decode cX10_readAugur 85 = .ok (.iconst 4, 1) := by decide +kernel
theorem dX10_readAugur_86 : decode cX10_readAugur 86 = .ok (.dup2, 1) := by decide +kernel
theorem dX10_readAugur_87 : decode cX10_readAugur 87 = .ok (.iaload, 1) := by decide +kernel
theorem dX10_readAugur_88 : decode cX10_readAugur 88 = .ok (.iconst 1, 1) := by decide +kernel
theorem dX10_readAugur_89 : decode cX10_readAugur 89 = .ok (.iadd, 1) := by decide +kernel
theorem dX10_readAugur_90 : decode cX10_readAugur 90 = .ok (.iastore, 1) := by decide +kernel
theorem dX10_readAugur_91 : decode cX10_readAugur 91 = .ok (.return_, 1) := by decide +kernel
theorem dX10_readBill_0 : decode cX10_readBill 0 = .ok (.bipush 33, 2) := by decide +kernel
theorem dX10_readBill_2 : decode cX10_readBill 2 = .ok (.iconst 3, 1) := by decide +kernel
theorem dX10_readBill_3 : decode cX10_readBill 3 = .ok (.aload_n 0, 1) := by decide +kernel
theorem dX10_readBill_4 : decode cX10_readBill 4 = .ok (.getfield 31, 3) := by decide +kernel
theorem dX10_readBill_7 : decode cX10_readBill 7 = .ok (.iconst 5, 1) := by decide +kernel
theorem dX10_readBill_8 : decode cX10_readBill 8 = .ok (.iaload, 1) := by decide +kernel
theorem dX10_readBill_9 : decode cX10_readBill 9 = .ok (.imul, 1) := by decide +kernel
theorem dX10_readBill_10 : decode cX10_readBill 10 = .ok (.iadd, 1) := by decide +kernel
theorem dX10_readBill_11 : decode cX10_readBill 11 = .ok (.istore_n 1, 1) := by decide +kernel
theorem dX10_readBill_12 : decode cX10_readBill 12 = .ok (.aload_n 0, 1) := by decide +kernel
theorem dX10_readBill_13 : decode cX10_readBill 13 = .ok (.getfield 31, 3) := by decide +kernel
theorem dX10_readBill_16 : decode cX10_readBill 16 = .ok (.iload_n 1, 1) := by decide +kernel
theorem dX10_readBill_17 : decode cX10_readBill 17 = .ok (.iconst 0, 1) := by decide +kernel
theorem dX10_readBill_18 : decode cX10_readBill 18 = .ok (.iadd, 1) := by decide +kernel
theorem dX10_readBill_19 : decode cX10_readBill 19 = .ok (.aload_n 0, 1) := by decide +kernel
theorem dX10_readBill_20 : decode cX10_readBill 20 = .ok (.ldc 188, 2) := by decide +kernel
theorem dX10_readBill_22 : decode cX10_readBill 22 = .ok (.iconst 0, 1) := by decide +kernel
theorem dX10_readBill_23 : decode cX10_readBill 23 = .ok (.iconst 1, 1) := by decide +kernel
theorem dX10_readBill_24 : decode cX10_readBill 24 = .ok (.invokevirtual 178, 3) := by decide +kernel
theorem dX10_readBill_27 : decode cX10_readBill 27 = .ok (.iastore, 1) := by decide +kernel
theorem dX10_readBill_28 : decode cX10_readBill 28 = .ok (.aload_n 0, 1) := by decide +kernel
theorem dX10_readBill_29 : decode cX10_readBill 29 = .ok (.getfield 31, 3) := by decide +kernel
theorem dX10_readBill_32 : decode cX10_readBill 32 = .ok (.iload_n 1, 1) := by decide +kernel
theorem dX10_readBill_33 : decode cX10_readBill 33 = .ok (.iconst 1, 1) := by decide +kernel
theorem dX10_readBill_34 : decode cX10_readBill 34 = .ok (.iadd, 1) := by decide +kernel
theorem dX10_readBill_35 : decode cX10_readBill 35 = .ok (.aload_n 0, 1) := by decide +kernel
theorem dX10_readBill_36 : decode cX10_readBill 36 = .ok (.ldc 193, 2) := by decide +kernel
theorem dX10_readBill_38 : decode cX10_readBill 38 = .ok (.iconst 0, 1) := by decide +kernel
theorem dX10_readBill_39 : decode cX10_readBill 39 = .ok (.bipush 99, 2) := by decide +kernel
theorem dX10_readBill_41 : decode cX10_readBill 41 = .ok (.invokevirtual 178, 3) := by decide +kernel
theorem dX10_readBill_44 : decode cX10_readBill 44 = .ok (.iastore, 1) := by decide +kernel
theorem dX10_readBill_45 : decode cX10_readBill 45 = .ok (.aload_n 0, 1) := by decide +kernel
theorem dX10_readBill_46 : decode cX10_readBill 46 = .ok (.getfield 31, 3) := by decide +kernel
theorem dX10_readBill_49 : decode cX10_readBill 49 = .ok (.iload_n 1, 1) := by decide +kernel
theorem dX10_readBill_50 : decode cX10_readBill 50 = .ok (.iconst 2, 1) := by decide +kernel
theorem dX10_readBill_51 : decode cX10_readBill 51 = .ok (.iadd, 1) := by decide +kernel
theorem dX10_readBill_52 : decode cX10_readBill 52 = .ok (.aload_n 0, 1) := by decide +kernel
theorem dX10_readBill_53 : decode cX10_readBill 53 = .ok (.ldc 195, 2) := by decide +kernel
theorem dX10_readBill_55 : decode cX10_readBill 55 = .ok (.invokevirtual 160, 3) := by decide +kernel
theorem dX10_readBill_58 : decode cX10_readBill 58 = .ok (.ifCond .eq 19, 3) := by decide +kernel
theorem dX10_readBill_61 : decode cX10_readBill 61 = .ok (.aload_n 0, 1) := by decide +kernel
theorem dX10_readBill_62 : decode cX10_readBill 62 = .ok (.iconst 0, 1) := by decide +kernel
theorem dX10_readBill_63 : decode cX10_readBill 63 = .ok (.aload_n 0, 1) := by decide +kernel
theorem dX10_readBill_64 : decode cX10_readBill 64 = .ok (.getfield 31, 3) := by decide +kernel
theorem dX10_readBill_67 : decode cX10_readBill 67 = .ok (.iconst 5, 1) := by decide +kernel
theorem dX10_readBill_68 : decode cX10_readBill 68 = .ok (.iaload, 1) := by decide +kernel
theorem dX10_readBill_69 : decode cX10_readBill 69 = .ok (.iconst 1, 1) := by decide +kernel
theorem dX10_readBill_70 : decode cX10_readBill 70 = .ok (.isub, 1) := by decide +kernel
theorem dX10_readBill_71 : decode cX10_readBill 71 = .ok (.invokevirtual 171, 3) := by decide +kernel
theorem dX10_readBill_74 : decode cX10_readBill 74 = .ok (.goto 4, 3) := by decide +kernel
theorem dX10_readBill_77 : decode cX10_readBill 77 = .ok (.iconst (-1), 1) := by decide +kernel
theorem dX10_readBill_78 : decode cX10_readBill 78 = .ok (.iastore, 1) := by decide +kernel
theorem dX10_readBill_79 : decode cX10_readBill 79 = .ok (.aload_n 0, 1) := by decide +kernel
theorem dX10_readBill_80 : decode cX10_readBill 80 = .ok (.getfield 31, 3) := by decide +kernel
theorem dX10_readBill_83 : decode cX10_readBill 83 = .ok (.iconst 5, 1) := by decide +kernel
theorem dX10_readBill_84 : decode cX10_readBill 84 = .ok (.dup2, 1) := by decide +kernel
theorem dX10_readBill_85 : decode cX10_readBill 85 = .ok (.iaload, 1) := by decide +kernel
theorem dX10_readBill_86 : decode cX10_readBill 86 = .ok (.iconst 1, 1) := by decide +kernel
theorem dX10_readBill_87 : decode cX10_readBill 87 = .ok (.iadd, 1) := by decide +kernel
theorem dX10_readBill_88 : decode cX10_readBill 88 = .ok (.iastore, 1) := by decide +kernel
theorem dX10_readBill_89 : decode cX10_readBill 89 = .ok (.return_, 1) := by decide +kernel
theorem dX10_readNext_0 : decode cX10_readNext 0 = .ok (.aload_n 0, 1) := by decide +kernel
theorem dX10_readNext_1 : decode cX10_readNext 1 = .ok (.ldc 197, 2) := by decide +kernel
theorem dX10_readNext_3 : decode cX10_readNext 3 = .ok (.invokevirtual 153, 3) := by decide +kernel
theorem dX10_readNext_6 : decode cX10_readNext 6 = .ok (.ifCond .ne 26, 3) := by decide +kernel
theorem dX10_readNext_9 : decode cX10_readNext 9 = .ok (.aload_n 0, 1) := by decide +kernel
theorem dX10_readNext_10 : decode cX10_readNext 10 = .ok (.ldc 199, 2) := by decide +kernel
theorem dX10_readNext_12 : decode cX10_readNext 12 = .ok (.invokevirtual 153, 3) := by decide +kernel
theorem dX10_readNext_15 : decode cX10_readNext 15 = .ok (.ifCond .ne 17, 3) := by decide +kernel
theorem dX10_readNext_18 : decode cX10_readNext 18 = .ok (.aload_n 0, 1) := by decide +kernel
theorem dX10_readNext_19 : decode cX10_readNext 19 = .ok (.ldc 201, 2) := by decide +kernel
theorem dX10_readNext_21 : decode cX10_readNext 21 = .ok (.invokevirtual 153, 3) := by decide +kernel
theorem dX10_readNext_24 : decode cX10_readNext 24 = .ok (.ifCond .ne 8, 3) := by decide +kernel
theorem dX10_readNext_27 : decode cX10_readNext 27 = .ok (.aload_n 0, 1) := by decide +kernel
theorem dX10_readNext_28 : decode cX10_readNext 28 = .ok (.iconst 1, 1) := by decide +kernel
theorem dX10_readNext_29 : decode cX10_readNext 29 = .ok (.invokevirtual 163, 3) := by decide +kernel
theorem dX10_readNext_32 : decode cX10_readNext 32 = .ok (.aload_n 0, 1) := by decide +kernel
theorem dX10_readNext_33 : decode cX10_readNext 33 = .ok (.ldc 199, 2) := by decide +kernel
theorem dX10_readNext_35 : decode cX10_readNext 35 = .ok (.invokevirtual 153, 3) := by decide +kernel
theorem dX10_readNext_38 : decode cX10_readNext 38 = .ok (.ifCond .eq 14, 3) := by decide +kernel
theorem dX10_readNext_41 : decode cX10_readNext 41 = .ok (.aload_n 0, 1) := by decide +kernel
theorem dX10_readNext_42 : decode cX10_readNext 42 = .ok (.getfield 31, 3) := by decide +kernel
theorem dX10_readNext_45 : decode cX10_readNext 45 = .ok (.iconst 4, 1) := by decide +kernel
theorem dX10_readNext_46 : decode cX10_readNext 46 = .ok (.iaload, 1) := by decide +kernel
theorem dX10_readNext_47 : decode cX10_readNext 47 = .ok (.bipush 8, 2) := by decide +kernel
theorem dX10_readNext_49 : decode cX10_readNext 49 = .ok (.if_icmp .eq 23, 3) := by decide +kernel
theorem dX10_readNext_52 : decode cX10_readNext 52 = .ok (.aload_n 0, 1) := by decide +kernel
theorem dX10_readNext_53 : decode cX10_readNext 53 = .ok (.ldc 201, 2) := by decide +kernel
theorem dX10_readNext_55 : decode cX10_readNext 55 = .ok (.invokevirtual 153, 3) := by decide +kernel
theorem dX10_readNext_58 : decode cX10_readNext 58 = .ok (.ifCond .eq 19, 3) := by decide +kernel
theorem dX10_readNext_61 : decode cX10_readNext 61 = .ok (.aload_n 0, 1) := by decide +kernel
theorem dX10_readNext_62 : decode cX10_readNext 62 = .ok (.getfield 31, 3) := by decide +kernel
theorem dX10_readNext_65 : decode cX10_readNext 65 = .ok (.iconst 5, 1) := by decide +kernel
theorem dX10_readNext_66 : decode cX10_readNext 66 = .ok (.iaload, 1) := by decide +kernel
theorem dX10_readNext_67 : decode cX10_readNext 67 = .ok (.bipush 8, 2) := by decide +kernel
theorem dX10_readNext_69 : decode cX10_readNext 69 = .ok (.if_icmp .ne 8, 3) := by decide +kernel
theorem dX10_readNext_72 : decode cX10_readNext 72 = .ok (.aload_n 0, 1) := by decide +kernel
theorem dX10_readNext_73 : decode cX10_readNext 73 = .ok (.iconst 3, 1) := by decide +kernel
theorem dX10_readNext_74 : decode cX10_readNext 74 = .ok (.invokevirtual 163, 3) := by decide +kernel
theorem dX10_readNext_77 : decode cX10_readNext 77 = .ok (.aload_n 0, 1) := by decide +kernel
theorem dX10_readNext_78 : decode cX10_readNext 78 = .ok (.invokevirtual 140, 3) := by decide +kernel
theorem dX10_readNext_81 : decode cX10_readNext 81 = .ok (.ifCond .ne 4, 3) := by decide +kernel
theorem dX10_readNext_84 : decode cX10_readNext 84 = .ok (.return_, 1) := by decide +kernel
theorem dX10_readNext_85 : decode cX10_readNext 85 = .ok (.aload_n 0, 1) := by decide +kernel
theorem dX10_readNext_86 : decode cX10_readNext 86 = .ok (.ldc 197, 2) := by decide +kernel
theorem dX10_readNext_88 : decode cX10_readNext 88 = .ok (.invokevirtual 160, 3) := by decide +kernel
theorem dX10_readNext_91 : decode cX10_readNext 91 = .ok (.ifCond .eq 33, 3) := by decide +kernel
theorem dX10_readNext_94 : decode cX10_readNext 94 = .ok (.aload_n 0, 1) := by decide +kernel
theorem dX10_readNext_95 : decode cX10_readNext 95 = .ok (.iconst 0, 1) := by decide +kernel
theorem dX10_readNext_96 : decode cX10_readNext 96 = .ok (.aload_n 0, 1) := by decide +kernel
theorem dX10_readNext_97 : decode cX10_readNext 97 = .ok (.getfield 31, 3) := by decide +kernel
theorem dX10_readNext_100 : decode cX10_readNext 100 = .ok (.iconst 0, 1) := by decide +kernel
theorem dX10_readNext_101 : decode cX10_readNext 101 = .ok (.iaload, 1) := by decide +kernel
theorem dX10_readNext_102 : decode cX10_readNext 102 = .ok (.iconst 1, 1) := by decide +kernel
theorem dX10_readNext_103 : decode cX10_readNext 103 = .ok (.isub, 1) := by decide +kernel
theorem dX10_readNext_104 : decode cX10_readNext 104 = .ok (.invokevirtual 171, 3) := by decide +kernel
theorem dX10_readNext_107 : decode cX10_readNext 107 = .ok (.istore_n 1, 1) := by decide +kernel
theorem dX10_readNext_108 : decode cX10_readNext 108 = .ok (.aload_n 0, 1) := by decide +kernel
theorem dX10_readNext_109 : decode cX10_readNext 109 = .ok (.getfield 31, 3) := by decide +kernel
theorem dX10_readNext_112 : decode cX10_readNext 112 = .ok (.bipush 8, 2) := by decide +kernel
theorem dX10_readNext_114 : decode cX10_readNext 114 = .ok (.dup2, 1) := by decide +kernel
theorem dX10_readNext_115 : decode cX10_readNext 115 = .ok (.iaload, 1) := by decide +kernel
theorem dX10_readNext_116 : decode cX10_readNext 116 = .ok (.iconst 1, 1) := by decide +kernel
theorem dX10_readNext_117 : decode cX10_readNext 117 = .ok (.iload_n 1, 1) := by decide +kernel
theorem dX10_readNext_118 : decode cX10_readNext 118 = .ok (.ishl, 1) := by decide +kernel
theorem dX10_readNext_119 : decode cX10_readNext 119 = .ok (.ior, 1) := by decide +kernel
theorem dX10_readNext_120 : decode cX10_readNext 120 = .ok (.iastore, 1) := by decide +kernel
theorem dX10_readNext_121 : decode cX10_readNext 121 = .ok (.goto 27, 3) := by decide +kernel
theorem dX10_readNext_124 : decode cX10_readNext 124 = .ok (.aload_n 0, 1) := by decide +kernel
theorem dX10_readNext_125 : decode cX10_readNext 125 = .ok (.ldc 199, 2) := by decide +kernel
theorem dX10_readNext_127 : decode cX10_readNext 127 = .ok (.invokevirtual 160, 3) := by decide +kernel
theorem dX10_readNext_130 : decode cX10_readNext 130 = .ok (.ifCond .eq 10, 3) := by decide +kernel
theorem dX10_readNext_133 : decode cX10_readNext 133 = .ok (.aload_n 0, 1) := by decide +kernel
theorem dX10_readNext_134 : decode cX10_readNext 134 = .ok (.invokevirtual 203, 3) := by decide +kernel
theorem dX10_readNext_137 : decode cX10_readNext 137 = .ok (.goto 11, 3) := by decide +kernel
theorem dX10_readNext_140 : decode cX10_readNext 140 = .ok (.aload_n 0, 1) := by decide +kernel
theorem dX10_readNext_141 : decode cX10_readNext 141 = .ok (.invokevirtual 157, 3) := by decide +kernel
theorem dX10_readNext_144 : decode cX10_readNext 144 = .ok (.aload_n 0, 1) := by decide +kernel
theorem dX10_readNext_145 : decode cX10_readNext 145 = .ok (.invokevirtual 206, 3) := by decide +kernel
theorem dX10_readNext_148 : decode cX10_readNext 148 = .ok (.return_, 1) := by decide +kernel
theorem dX10_readLine_0 : decode cX10_readLine 0 = .ok (.aload_n 0, 1) := by decide +kernel
theorem dX10_readLine_1 : decode cX10_readLine 1 = .ok (.getfield 31, 3) := by decide +kernel
theorem dX10_readLine_4 : decode cX10_readLine 4 = .ok (.bipush 7, 2) := by decide +kernel
theorem dX10_readLine_6 : decode cX10_readLine 6 = .ok (.iaload, 1) := by decide +kernel
theorem dX10_readLine_7 : decode cX10_readLine 7 = .ok (.ifCond .ne 10, 3) := by decide +kernel
theorem dX10_readLine_10 : decode cX10_readLine 10 = .ok (.aload_n 0, 1) := by decide +kernel
theorem dX10_readLine_11 : decode cX10_readLine 11 = .ok (.invokevirtual 209, 3) := by decide +kernel
theorem dX10_readLine_14 : decode cX10_readLine 14 = .ok (.goto 7, 3) := by decide +kernel
theorem dX10_readLine_17 : decode cX10_readLine 17 = .ok (.aload_n 0, 1) := by decide +kernel
theorem dX10_readLine_18 : decode cX10_readLine 18 = .ok (.invokevirtual 212, 3) := by decide +kernel
theorem dX10_readLine_21 : decode cX10_readLine 21 = .ok (.aload_n 0, 1) := by decide +kernel
theorem dX10_readLine_22 : decode cX10_readLine 22 = .ok (.invokevirtual 140, 3) := by decide +kernel
theorem dX10_readLine_25 : decode cX10_readLine 25 = .ok (.ifCond .eq 16, 3) := by decide +kernel
theorem dX10_readLine_28 : decode cX10_readLine 28 = .ok (.aload_n 0, 1) := by decide +kernel
theorem dX10_readLine_29 : decode cX10_readLine 29 = .ok (.getfield 116, 3) := by decide +kernel
theorem dX10_readLine_32 : decode cX10_readLine 32 = .ok (.iconst 3, 1) := by decide +kernel
theorem dX10_readLine_33 : decode cX10_readLine 33 = .ok (.if_icmp .eq 8, 3) := by decide +kernel
theorem dX10_readLine_36 : decode cX10_readLine 36 = .ok (.aload_n 0, 1) := by decide +kernel
theorem dX10_readLine_37 : decode cX10_readLine 37 = .ok (.iconst 1, 1) := by decide +kernel
theorem dX10_readLine_38 : decode cX10_readLine 38 = .ok (.invokevirtual 163, 3) := by decide +kernel
theorem dX10_readLine_41 : decode cX10_readLine 41 = .ok (.aload_n 0, 1) := by decide +kernel
theorem dX10_readLine_42 : decode cX10_readLine 42 = .ok (.invokevirtual 140, 3) := by decide +kernel
theorem dX10_readLine_45 : decode cX10_readLine 45 = .ok (.ifCond .eq 7, 3) := by decide +kernel
theorem dX10_readLine_48 : decode cX10_readLine 48 = .ok (.aload_n 0, 1) := by decide +kernel
theorem dX10_readLine_49 : decode cX10_readLine 49 = .ok (.invokevirtual 157, 3) := by decide +kernel
theorem dX10_readLine_52 : decode cX10_readLine 52 = .ok (.aload_n 0, 1) := by decide +kernel
theorem dX10_readLine_53 : decode cX10_readLine 53 = .ok (.getfield 31, 3) := by decide +kernel
theorem dX10_readLine_56 : decode cX10_readLine 56 = .ok (.bipush 7, 2) := by decide +kernel
theorem dX10_readLine_58 : decode cX10_readLine 58 = .ok (.dup2, 1) := by decide +kernel
theorem dX10_readLine_59 : decode cX10_readLine 59 = .ok (.iaload, 1) := by decide +kernel
theorem dX10_readLine_60 : decode cX10_readLine 60 = .ok (.iconst 1, 1) := by decide +kernel
theorem dX10_readLine_61 : decode cX10_readLine 61 = .ok (.iadd, 1) := by decide +kernel
theorem dX10_readLine_62 : decode cX10_readLine 62 = .ok (.iastore, 1) := by decide +kernel
theorem dX10_readLine_63 : decode cX10_readLine 63 = .ok (.return_, 1) := by decide +kernel
theorem dX10_camp_0 : decode cX10_camp 0 = .ok (.aload_n 0, 1) := by decide +kernel
theorem dX10_camp_1 : decode cX10_camp 1 = .ok (.aload_n 0, 1) := by decide +kernel
theorem dX10_camp_2 : decode cX10_camp 2 = .ok (.getfield 100, 3) := by decide +kernel
theorem dX10_camp_5 : decode cX10_camp 5 = .ok (.putfield 103, 3) := by decide +kernel
theorem dX10_camp_8 : decode cX10_camp 8 = .ok (.aload_n 0, 1) := by decide +kernel
theorem dX10_camp_9 : decode cX10_camp 9 = .ok (.iconst 0, 1) := by decide +kernel
theorem dX10_camp_10 : decode cX10_camp 10 = .ok (.putfield 100, 3) := by decide +kernel
theorem dX10_camp_13 : decode cX10_camp 13 = .ok (.aload_n 0, 1) := by decide +kernel
theorem dX10_camp_14 : decode cX10_camp 14 = .ok (.iconst 0, 1) := by decide +kernel
theorem dX10_camp_15 : decode cX10_camp 15 = .ok (.putfield 106, 3) := by decide +kernel
theorem dX10_camp_18 : decode cX10_camp 18 = .ok (.aload_n 0, 1) := by decide +kernel
theorem dX10_camp_19 : decode cX10_camp 19 = .ok (.iconst 0, 1) := by decide +kernel
theorem dX10_camp_20 : decode cX10_camp 20 = .ok (.putfield 137, 3) := by decide +kernel
theorem dX10_camp_23 : decode cX10_camp 23 = .ok (.aload_n 0, 1) := by decide +kernel
theorem dX10_camp_24 : decode cX10_camp 24 = .ok (.iconst (-1), 1) := by decide +kernel
theorem dX10_camp_25 : decode cX10_camp 25 = .ok (.putfield 27, 3) := by decide +kernel
theorem dX10_camp_28 : decode cX10_camp 28 = .ok (.iconst 0, 1) := by decide +kernel
theorem dX10_camp_29 : decode cX10_camp 29 = .ok (.istore_n 1, 1) := by decide +kernel
theorem dX10_camp_30 : decode cX10_camp 30 = .ok (.iload_n 1, 1) := by decide +kernel
theorem dX10_camp_31 : decode cX10_camp 31 = .ok (.bipush 77, 2) := by decide +kernel
theorem dX10_camp_33 : decode cX10_camp 33 = .ok (.if_icmp .ge 16, 3) := by decide +kernel
theorem dX10_camp_36 : decode cX10_camp 36 = .ok (.aload_n 0, 1) := by decide +kernel
theorem dX10_camp_37 : decode cX10_camp 37 = .ok (.getfield 31, 3) := by decide +kernel
theorem dX10_camp_40 : decode cX10_camp 40 = .ok (.iload_n 1, 1) := by decide +kernel
theorem dX10_camp_41 : decode cX10_camp 41 = .ok (.iconst 0, 1) := by decide +kernel
theorem dX10_camp_42 : decode cX10_camp 42 = .ok (.iastore, 1) := by decide +kernel
theorem dX10_camp_43 : decode cX10_camp 43 = .ok (.iinc 1 1, 3) := by decide +kernel
theorem dX10_camp_46 : decode cX10_camp 46 = .ok (.goto (-16), 3) := by decide +kernel
theorem dX10_camp_49 : decode cX10_camp 49 = .ok (.aload_n 0, 1) := by decide +kernel
theorem dX10_camp_50 : decode cX10_camp 50 = .ok (.invokevirtual 157, 3) := by decide +kernel
theorem dX10_camp_53 : decode cX10_camp 53 = .ok (.aload_n 0, 1) := by decide +kernel
theorem dX10_camp_54 : decode cX10_camp 54 = .ok (.invokevirtual 140, 3) := by decide +kernel
theorem dX10_camp_57 : decode cX10_camp 57 = .ok (.ifCond .eq 17, 3) := by decide +kernel
theorem dX10_camp_60 : decode cX10_camp 60 = .ok (.aload_n 0, 1) := by decide +kernel
theorem dX10_camp_61 : decode cX10_camp 61 = .ok (.getfield 116, 3) := by decide +kernel
theorem dX10_camp_64 : decode cX10_camp 64 = .ok (.ifCond .eq 10, 3) := by decide +kernel
theorem dX10_camp_67 : decode cX10_camp 67 = .ok (.aload_n 0, 1) := by decide +kernel
theorem dX10_camp_68 : decode cX10_camp 68 = .ok (.invokevirtual 215, 3) := by decide +kernel
theorem dX10_camp_71 : decode cX10_camp 71 = .ok (.goto (-18), 3) := by decide +kernel
theorem dX10_camp_74 : decode cX10_camp 74 = .ok (.aload_n 0, 1) := by decide +kernel
theorem dX10_camp_75 : decode cX10_camp 75 = .ok (.invokevirtual 140, 3) := by decide +kernel
theorem dX10_camp_78 : decode cX10_camp 78 = .ok (.ifCond .ne 6, 3) := by decide +kernel
theorem dX10_camp_81 : decode cX10_camp 81 = .ok (.bipush (-4), 2) := by decide +kernel
theorem dX10_camp_83 : decode cX10_camp 83 = .ok (.ireturn, 1) := by decide +kernel
theorem dX10_camp_84 : decode cX10_camp 84 = .ok (.iconst 0, 1) := by decide +kernel
theorem dX10_camp_85 : decode cX10_camp 85 = .ok (.istore_n 1, 1) := by decide +kernel
theorem dX10_camp_86 : decode cX10_camp 86 = .ok (.iload_n 1, 1) := by decide +kernel
theorem dX10_camp_87 : decode cX10_camp 87 = .ok (.bipush 77, 2) := by decide +kernel
theorem dX10_camp_89 : decode cX10_camp 89 = .ok (.if_icmp .ge 21, 3) := by decide +kernel
theorem dX10_camp_92 : decode cX10_camp 92 = .ok (.aload_n 0, 1) := by decide +kernel
theorem dX10_camp_93 : decode cX10_camp 93 = .ok (.getfield 9, 3) := by decide +kernel
theorem dX10_camp_96 : decode cX10_camp 96 = .ok (.iload_n 1, 1) := by decide +kernel
theorem dX10_camp_97 : decode cX10_camp 97 = .ok (.aload_n 0, 1) := by decide +kernel
theorem dX10_camp_98 : decode cX10_camp 98 = .ok (.getfield 31, 3) := by decide +kernel
theorem dX10_camp_101 : decode cX10_camp 101 = .ok (.iload_n 1, 1) := by decide +kernel
theorem dX10_camp_102 : decode cX10_camp 102 = .ok (.iaload, 1) := by decide +kernel
theorem dX10_camp_103 : decode cX10_camp 103 = .ok (.iastore, 1) := by decide +kernel
theorem dX10_camp_104 : decode cX10_camp 104 = .ok (.iinc 1 1, 3) := by decide +kernel
theorem dX10_camp_107 : decode cX10_camp 107 = .ok (.goto (-21), 3) := by decide +kernel
theorem dX10_camp_110 : decode cX10_camp 110 = .ok (.aload_n 0, 1) := by decide +kernel
theorem dX10_camp_111 : decode cX10_camp 111 = .ok (.getfield 9, 3) := by decide +kernel
theorem dX10_camp_114 : decode cX10_camp 114 = .ok (.bipush 7, 2) := by decide +kernel
theorem dX10_camp_116 : decode cX10_camp 116 = .ok (.iaload, 1) := by decide +kernel
theorem dX10_camp_117 : decode cX10_camp 117 = .ok (.ireturn, 1) := by decide +kernel
theorem dX10_augur_0 : decode cX10_augur 0 = .ok (.aload_n 0, 1) := by decide +kernel
theorem dX10_augur_1 : decode cX10_augur 1 = .ok (.iload_n 1, 1) := by decide +kernel
theorem dX10_augur_2 : decode cX10_augur 2 = .ok (.invokevirtual 218, 3) := by decide +kernel
theorem dX10_augur_5 : decode cX10_augur 5 = .ok (.ifCond .eq 24, 3) := by decide +kernel
theorem dX10_augur_8 : decode cX10_augur 8 = .ok (.iload_n 2, 1) := by decide +kernel
theorem dX10_augur_9 : decode cX10_augur 9 = .ok (.i2l, 1) := by decide +kernel
theorem dX10_augur_10 : decode cX10_augur 10 = .ok (.lconst 0, 1) := by decide +kernel
theorem dX10_augur_11 : decode cX10_augur 11 = .ok (.ldc2_w 90, 3) := by decide +kernel
theorem dX10_augur_14 : decode cX10_augur 14 = .ok (.invokestatic 92, 3) := by decide +kernel
theorem dX10_augur_17 : decode cX10_augur 17 = .ok (.ifCond .eq 12, 3) := by decide +kernel
theorem dX10_augur_20 : decode cX10_augur 20 = .ok (.aload_n 0, 1) := by decide +kernel
theorem dX10_augur_21 : decode cX10_augur 21 = .ok (.iload_n 1, 1) := by decide +kernel
theorem dX10_augur_22 : decode cX10_augur 22 = .ok (.iload_n 2, 1) := by decide +kernel
theorem dX10_augur_23 : decode cX10_augur 23 = .ok (.invokevirtual 222, 3) := by decide +kernel
theorem dX10_augur_26 : decode cX10_augur 26 = .ok (.goto 5, 3) := by decide +kernel
theorem dX10_augur_29 : decode cX10_augur 29 = .ok (.bipush (-2), 2) := by decide +kernel
theorem dX10_augur_31 : decode cX10_augur 31 = .ok (.ireturn, 1) := by decide +kernel
theorem dX10_bill_0 : decode cX10_bill 0 = .ok (.aload_n 0, 1) := by decide +kernel
theorem dX10_bill_1 : decode cX10_bill 1 = .ok (.iload_n 1, 1) := by decide +kernel
theorem dX10_bill_2 : decode cX10_bill 2 = .ok (.invokevirtual 225, 3) := by decide +kernel
theorem dX10_bill_5 : decode cX10_bill 5 = .ok (.ifCond .eq 24, 3) := by decide +kernel
theorem dX10_bill_8 : decode cX10_bill 8 = .ok (.iload_n 2, 1) := by decide +kernel
theorem dX10_bill_9 : decode cX10_bill 9 = .ok (.i2l, 1) := by decide +kernel
theorem dX10_bill_10 : decode cX10_bill 10 = .ok (.lconst 0, 1) := by decide +kernel
theorem dX10_bill_11 : decode cX10_bill 11 = .ok (.ldc2_w 90, 3) := by decide +kernel
theorem dX10_bill_14 : decode cX10_bill 14 = .ok (.invokestatic 92, 3) := by decide +kernel
theorem dX10_bill_17 : decode cX10_bill 17 = .ok (.ifCond .eq 12, 3) := by decide +kernel
theorem dX10_bill_20 : decode cX10_bill 20 = .ok (.aload_n 0, 1) := by decide +kernel
theorem dX10_bill_21 : decode cX10_bill 21 = .ok (.iload_n 1, 1) := by decide +kernel
theorem dX10_bill_22 : decode cX10_bill 22 = .ok (.iload_n 2, 1) := by decide +kernel
theorem dX10_bill_23 : decode cX10_bill 23 = .ok (.invokevirtual 228, 3) := by decide +kernel
theorem dX10_bill_26 : decode cX10_bill 26 = .ok (.goto 5, 3) := by decide +kernel
theorem dX10_bill_29 : decode cX10_bill 29 = .ok (.bipush (-2), 2) := by decide +kernel
theorem dX10_bill_31 : decode cX10_bill 31 = .ok (.ireturn, 1) := by decide +kernel
theorem dX10_marks_0 : decode cX10_marks 0 = .ok (.aload_n 0, 1) := by decide +kernel
theorem dX10_marks_1 : decode cX10_marks 1 = .ok (.invokevirtual 96, 3) := by decide +kernel
theorem dX10_marks_4 : decode cX10_marks 4 = .ok (.ifCond .eq 13, 3) := by decide +kernel
theorem dX10_marks_7 : decode cX10_marks 7 = .ok (.aload_n 0, 1) := by decide +kernel
theorem dX10_marks_8 : decode cX10_marks 8 = .ok (.getfield 9, 3) := by decide +kernel
theorem dX10_marks_11 : decode cX10_marks 11 = .ok (.bipush 8, 2) := by decide +kernel
theorem dX10_marks_13 : decode cX10_marks 13 = .ok (.iaload, 1) := by decide +kernel
theorem dX10_marks_14 : decode cX10_marks 14 = .ok (.goto 5, 3) := by decide +kernel
theorem dX10_marks_17 : decode cX10_marks 17 = .ok (.bipush (-2), 2) := by decide +kernel
theorem dX10_marks_19 : decode cX10_marks 19 = .ok (.ireturn, 1) := by decide +kernel
theorem dX10_daysOf_0 : decode cX10_daysOf 0 = .ok (.iconst 0, 1) := by decide +kernel
theorem dX10_daysOf_1 : decode cX10_daysOf 1 = .ok (.istore_n 2, 1) := by decide +kernel
theorem dX10_daysOf_2 : decode cX10_daysOf 2 = .ok (.aload_n 0, 1) := by decide +kernel
theorem dX10_daysOf_3 : decode cX10_daysOf 3 = .ok (.iload_n 1, 1) := by decide +kernel
theorem dX10_daysOf_4 : decode cX10_daysOf 4 = .ok (.iconst 1, 1) := by decide +kernel
theorem dX10_daysOf_5 : decode cX10_daysOf 5 = .ok (.invokevirtual 222, 3) := by decide +kernel
theorem dX10_daysOf_8 : decode cX10_daysOf 8 = .ok (.istore_n 3, 1) := by decide +kernel
theorem dX10_daysOf_9 : decode cX10_daysOf 9 = .ok (.iload_n 3, 1) := by decide +kernel
theorem dX10_daysOf_10 : decode cX10_daysOf 10 = .ok (.aload_n 0, 1) := by decide +kernel
theorem dX10_daysOf_11 : decode cX10_daysOf 11 = .ok (.iload_n 1, 1) := by decide +kernel
theorem dX10_daysOf_12 : decode cX10_daysOf 12 = .ok (.iconst 2, 1) := by decide +kernel
theorem dX10_daysOf_13 : decode cX10_daysOf 13 = .ok (.invokevirtual 222, 3) := by decide +kernel
theorem dX10_daysOf_16 : decode cX10_daysOf 16 = .ok (.if_icmp .gt 15, 3) := by decide +kernel
theorem dX10_daysOf_19 : decode cX10_daysOf 19 = .ok (.iload_n 2, 1) := by decide +kernel
theorem dX10_daysOf_20 : decode cX10_daysOf 20 = .ok (.iconst 1, 1) := by decide +kernel
theorem dX10_daysOf_21 : decode cX10_daysOf 21 = .ok (.iload_n 3, 1) := by decide +kernel
theorem dX10_daysOf_22 : decode cX10_daysOf 22 = .ok (.ishl, 1) := by decide +kernel
theorem dX10_daysOf_23 : decode cX10_daysOf 23 = .ok (.ior, 1) := by decide +kernel
theorem dX10_daysOf_24 : decode cX10_daysOf 24 = .ok (.istore_n 2, 1) := by decide +kernel
theorem dX10_daysOf_25 : decode cX10_daysOf 25 = .ok (.iinc 3 1, 3) := by decide +kernel
theorem dX10_daysOf_28 : decode cX10_daysOf 28 = .ok (.goto (-19), 3) := by decide +kernel
theorem dX10_daysOf_31 : decode cX10_daysOf 31 = .ok (.iload_n 2, 1) := by decide +kernel
theorem dX10_daysOf_32 : decode cX10_daysOf 32 = .ok (.ireturn, 1) := by decide +kernel
theorem dX10_skyBy_0 : decode cX10_skyBy 0 = .ok (.iconst 0, 1) := by decide +kernel
theorem dX10_skyBy_1 : decode cX10_skyBy 1 = .ok (.istore_n 3, 1) := by decide +kernel
theorem dX10_skyBy_2 : decode cX10_skyBy 2 = .ok (.iconst 0, 1) := by decide +kernel
theorem dX10_skyBy_3 : decode cX10_skyBy 3 = .ok (.istore 4, 2) := by decide +kernel
theorem dX10_skyBy_5 : decode cX10_skyBy 5 = .ok (.iload 4, 2) := by decide +kernel
theorem dX10_skyBy_7 : decode cX10_skyBy 7 = .ok (.aload_n 0, 1) := by decide +kernel
theorem dX10_skyBy_8 : decode cX10_skyBy 8 = .ok (.getfield 9, 3) := by decide +kernel
theorem dX10_skyBy_11 : decode cX10_skyBy 11 = .ok (.iconst 4, 1) := by decide +kernel
theorem dX10_skyBy_12 : decode cX10_skyBy 12 = .ok (.iaload, 1) := by decide +kernel
theorem dX10_skyBy_13 : decode cX10_skyBy 13 = .ok (.if_icmp .ge 39, 3) := by decide +kernel
theorem dX10_skyBy_16 : decode cX10_skyBy 16 = .ok (.aload_n 0, 1) := by decide +kernel
theorem dX10_skyBy_17 : decode cX10_skyBy 17 = .ok (.iload 4, 2) := by decide +kernel
theorem dX10_skyBy_19 : decode cX10_skyBy 19 = .ok (.iconst 0, 1) := by decide +kernel
theorem dX10_skyBy_20 : decode cX10_skyBy 20 = .ok (.invokevirtual 222, 3) := by decide +kernel
theorem dX10_skyBy_23 : decode cX10_skyBy 23 = .ok (.iload_n 1, 1) := by decide +kernel
theorem dX10_skyBy_24 : decode cX10_skyBy 24 = .ok (.if_icmp .ne 22, 3) := by decide +kernel
theorem dX10_skyBy_27 : decode cX10_skyBy 27 = .ok (.iload_n 2, 1) := by decide +kernel
theorem dX10_skyBy_28 : decode cX10_skyBy 28 = .ok (.iload 4, 2) := by decide +kernel
theorem dX10_skyBy_30 : decode cX10_skyBy 30 = .ok (.invokestatic 230, 3) := by decide +kernel
theorem dX10_skyBy_33 : decode cX10_skyBy 33 = .ok (.iconst 1, 1) := by decide +kernel
theorem dX10_skyBy_34 : decode cX10_skyBy 34 = .ok (.if_icmp .ne 12, 3) := by decide +kernel
theorem dX10_skyBy_37 : decode cX10_skyBy 37 = .ok (.iload_n 3, 1) := by decide +kernel
theorem dX10_skyBy_38 : decode cX10_skyBy 38 = .ok (.aload_n 0, 1) := by decide +kernel
theorem dX10_skyBy_39 : decode cX10_skyBy 39 = .ok (.iload 4, 2) := by decide +kernel
theorem dX10_skyBy_41 : decode cX10_skyBy 41 = .ok (.invokevirtual 233, 3) := by decide +kernel
theorem dX10_skyBy_44 : decode cX10_skyBy 44 = .ok (.ior, 1) := by decide +kernel
theorem dX10_skyBy_45 : decode cX10_skyBy 45 = .ok (.istore_n 3, 1) := by decide +kernel
theorem dX10_skyBy_46 : decode cX10_skyBy 46 = .ok (.iinc 4 1, 3) := by decide +kernel
theorem dX10_skyBy_49 : decode cX10_skyBy 49 = .ok (.goto (-44), 3) := by decide +kernel
theorem dX10_skyBy_52 : decode cX10_skyBy 52 = .ok (.iload_n 3, 1) := by decide +kernel
theorem dX10_skyBy_53 : decode cX10_skyBy 53 = .ok (.ireturn, 1) := by decide +kernel
theorem dX10_allAugurs_0 : decode cX10_allAugurs 0 = .ok (.iconst 1, 1) := by decide +kernel
theorem dX10_allAugurs_1 : decode cX10_allAugurs 1 = .ok (.aload_n 0, 1) := by decide +kernel
theorem dX10_allAugurs_2 : decode cX10_allAugurs 2 = .ok (.getfield 9, 3) := by decide +kernel
theorem dX10_allAugurs_5 : decode cX10_allAugurs 5 = .ok (.iconst 4, 1) := by decide +kernel
theorem dX10_allAugurs_6 : decode cX10_allAugurs 6 = .ok (.iaload, 1) := by decide +kernel
theorem dX10_allAugurs_7 : decode cX10_allAugurs 7 = .ok (.ishl, 1) := by decide +kernel
theorem dX10_allAugurs_8 : decode cX10_allAugurs 8 = .ok (.iconst 1, 1) := by decide +kernel
theorem dX10_allAugurs_9 : decode cX10_allAugurs 9 = .ok (.isub, 1) := by decide +kernel
theorem dX10_allAugurs_10 : decode cX10_allAugurs 10 = .ok (.ireturn, 1) := by decide +kernel
theorem dX10_skyOf_0 : decode cX10_skyOf 0 = .ok (.aload_n 0, 1) := by decide +kernel
theorem dX10_skyOf_1 : decode cX10_skyOf 1 = .ok (.iload_n 1, 1) := by decide +kernel
theorem dX10_skyOf_2 : decode cX10_skyOf 2 = .ok (.aload_n 0, 1) := by decide +kernel
theorem dX10_skyOf_3 : decode cX10_skyOf 3 = .ok (.invokevirtual 236, 3) := by decide +kernel
theorem dX10_skyOf_6 : decode cX10_skyOf 6 = .ok (.invokevirtual 239, 3) := by decide +kernel
theorem dX10_skyOf_9 : decode cX10_skyOf 9 = .ok (.ireturn, 1) := by decide +kernel
theorem dX10_sky_0 : decode cX10_sky 0 = .ok (.aload_n 0, 1) := by decide +kernel
theorem dX10_sky_1 : decode cX10_sky 1 = .ok (.iload_n 1, 1) := by decide +kernel
theorem dX10_sky_2 : decode cX10_sky 2 = .ok (.invokevirtual 242, 3) := by decide +kernel
theorem dX10_sky_5 : decode cX10_sky 5 = .ok (.ifCond .eq 11, 3) := by decide +kernel
theorem dX10_sky_8 : decode cX10_sky 8 = .ok (.aload_n 0, 1) := by decide +kernel
theorem dX10_sky_9 : decode cX10_sky 9 = .ok (.iload_n 1, 1) := by decide +kernel
theorem dX10_sky_10 : decode cX10_sky 10 = .ok (.invokevirtual 245, 3) := by decide +kernel
theorem dX10_sky_13 : decode cX10_sky 13 = .ok (.goto 5, 3) := by decide +kernel
theorem dX10_sky_16 : decode cX10_sky 16 = .ok (.bipush (-2), 2) := by decide +kernel
theorem dX10_sky_18 : decode cX10_sky 18 = .ok (.ireturn, 1) := by decide +kernel
theorem dX10_watch_0 : decode cX10_watch 0 = .ok (.aload_n 0, 1) := by decide +kernel
theorem dX10_watch_1 : decode cX10_watch 1 = .ok (.iload_n 1, 1) := by decide +kernel
theorem dX10_watch_2 : decode cX10_watch 2 = .ok (.i2l, 1) := by decide +kernel
theorem dX10_watch_3 : decode cX10_watch 3 = .ok (.invokevirtual 248, 3) := by decide +kernel
theorem dX10_watch_6 : decode cX10_watch 6 = .ok (.ifCond .ne 6, 3) := by decide +kernel
theorem dX10_watch_9 : decode cX10_watch 9 = .ok (.bipush (-2), 2) := by decide +kernel
theorem dX10_watch_11 : decode cX10_watch 11 = .ok (.ireturn, 1) := by decide +kernel
theorem dX10_watch_12 : decode cX10_watch 12 = .ok (.iconst 0, 1) := by decide +kernel
theorem dX10_watch_13 : decode cX10_watch 13 = .ok (.istore_n 2, 1) := by decide +kernel
theorem dX10_watch_14 : decode cX10_watch 14 = .ok (.iconst 0, 1) := by decide +kernel
theorem dX10_watch_15 : decode cX10_watch 15 = .ok (.istore_n 3, 1) := by decide +kernel
theorem dX10_watch_16 : decode cX10_watch 16 = .ok (.iload_n 3, 1) := by decide +kernel
theorem dX10_watch_17 : decode cX10_watch 17 = .ok (.aload_n 0, 1) := by decide +kernel
theorem dX10_watch_18 : decode cX10_watch 18 = .ok (.getfield 9, 3) := by decide +kernel
theorem dX10_watch_21 : decode cX10_watch 21 = .ok (.iconst 4, 1) := by decide +kernel
theorem dX10_watch_22 : decode cX10_watch 22 = .ok (.iaload, 1) := by decide +kernel
theorem dX10_watch_23 : decode cX10_watch 23 = .ok (.if_icmp .ge 23, 3) := by decide +kernel
theorem dX10_watch_26 : decode cX10_watch 26 = .ok (.iload_n 2, 1) := by decide +kernel
theorem dX10_watch_27 : decode cX10_watch 27 = .ok (.aload_n 0, 1) := by decide +kernel
theorem dX10_watch_28 : decode cX10_watch 28 = .ok (.iload_n 3, 1) := by decide +kernel
theorem dX10_watch_29 : decode cX10_watch 29 = .ok (.invokevirtual 233, 3) := by decide +kernel
theorem dX10_watch_32 : decode cX10_watch 32 = .ok (.iload_n 1, 1) := by decide +kernel
theorem dX10_watch_33 : decode cX10_watch 33 = .ok (.invokestatic 230, 3) := by decide +kernel
theorem dX10_watch_36 : decode cX10_watch 36 = .ok (.iload_n 3, 1) := by decide +kernel
theorem dX10_watch_37 : decode cX10_watch 37 = .ok (.ishl, 1) := by decide +kernel
theorem dX10_watch_38 : decode cX10_watch 38 = .ok (.ior, 1) := by decide +kernel
theorem dX10_watch_39 : decode cX10_watch 39 = .ok (.istore_n 2, 1) := by decide +kernel
theorem dX10_watch_40 : decode cX10_watch 40 = .ok (.iinc 3 1, 3) := by decide +kernel
theorem dX10_watch_43 : decode cX10_watch 43 = .ok (.goto (-27), 3) := by decide +kernel
theorem dX10_watch_46 : decode cX10_watch 46 = .ok (.iload_n 2, 1) := by decide +kernel
theorem dX10_watch_47 : decode cX10_watch 47 = .ok (.ireturn, 1) := by decide +kernel
theorem dX10_layAsked_0 : decode cX10_layAsked 0 = .ok (.iconst 0, 1) := by decide +kernel
theorem dX10_layAsked_1 : decode cX10_layAsked 1 = .ok (.istore_n 1, 1) := by decide +kernel
theorem dX10_layAsked_2 : decode cX10_layAsked 2 = .ok (.iload_n 1, 1) := by decide +kernel
theorem dX10_layAsked_3 : decode cX10_layAsked 3 = .ok (.bipush 14, 2) := by decide +kernel
theorem dX10_layAsked_5 : decode cX10_layAsked 5 = .ok (.if_icmp .ge 16, 3) := by decide +kernel
theorem dX10_layAsked_8 : decode cX10_layAsked 8 = .ok (.aload_n 0, 1) := by decide +kernel
theorem dX10_layAsked_9 : decode cX10_layAsked 9 = .ok (.getfield 34, 3) := by decide +kernel
theorem dX10_layAsked_12 : decode cX10_layAsked 12 = .ok (.iload_n 1, 1) := by decide +kernel
theorem dX10_layAsked_13 : decode cX10_layAsked 13 = .ok (.iconst (-1), 1) := by decide +kernel
theorem dX10_layAsked_14 : decode cX10_layAsked 14 = .ok (.iastore, 1) := by decide +kernel
theorem dX10_layAsked_15 : decode cX10_layAsked 15 = .ok (.iinc 1 1, 3) := by decide +kernel
theorem dX10_layAsked_18 : decode cX10_layAsked 18 = .ok (.goto (-16), 3) := by decide +kernel
theorem dX10_layAsked_21 : decode cX10_layAsked 21 = .ok (.iconst 0, 1) := by decide +kernel
theorem dX10_layAsked_22 : decode cX10_layAsked 22 = .ok (.istore_n 1, 1) := by decide +kernel
theorem dX10_layAsked_23 : decode cX10_layAsked 23 = .ok (.iload_n 1, 1) := by decide +kernel
theorem dX10_layAsked_24 : decode cX10_layAsked 24 = .ok (.bipush 8, 2) := by decide +kernel
theorem dX10_layAsked_26 : decode cX10_layAsked 26 = .ok (.if_icmp .ge 16, 3) := by decide +kernel
theorem dX10_layAsked_29 : decode cX10_layAsked 29 = .ok (.aload_n 0, 1) := by decide +kernel
theorem dX10_layAsked_30 : decode cX10_layAsked 30 = .ok (.getfield 46, 3) := by decide +kernel
theorem dX10_layAsked_33 : decode cX10_layAsked 33 = .ok (.iload_n 1, 1) := by decide +kernel
theorem dX10_layAsked_34 : decode cX10_layAsked 34 = .ok (.iconst (-1), 1) := by decide +kernel
theorem dX10_layAsked_35 : decode cX10_layAsked 35 = .ok (.iastore, 1) := by decide +kernel
theorem dX10_layAsked_36 : decode cX10_layAsked 36 = .ok (.iinc 1 1, 3) := by decide +kernel
theorem dX10_layAsked_39 : decode cX10_layAsked 39 = .ok (.goto (-16), 3) := by decide +kernel
theorem dX10_layAsked_42 : decode cX10_layAsked 42 = .ok (.iconst 0, 1) := by decide +kernel
theorem dX10_layAsked_43 : decode cX10_layAsked 43 = .ok (.istore_n 1, 1) := by decide +kernel
theorem dX10_layAsked_44 : decode cX10_layAsked 44 = .ok (.iload_n 1, 1) := by decide +kernel
theorem dX10_layAsked_45 : decode cX10_layAsked 45 = .ok (.aload_n 0, 1) := by decide +kernel
theorem dX10_layAsked_46 : decode cX10_layAsked 46 = .ok (.getfield 9, 3) := by decide +kernel
theorem dX10_layAsked_49 : decode cX10_layAsked 49 = .ok (.bipush 6, 2) := by decide +kernel
theorem dX10_layAsked_51 : decode cX10_layAsked 51 = .ok (.iaload, 1) := by decide +kernel
theorem dX10_layAsked_52 : decode cX10_layAsked 52 = .ok (.if_icmp .ge 67, 3) := by decide +kernel
theorem dX10_layAsked_55 : decode cX10_layAsked 55 = .ok (.aload_n 0, 1) := by decide +kernel
theorem dX10_layAsked_56 : decode cX10_layAsked 56 = .ok (.getfield 9, 3) := by decide +kernel
theorem dX10_layAsked_59 : decode cX10_layAsked 59 = .ok (.bipush 57, 2) := by decide +kernel
theorem dX10_layAsked_61 : decode cX10_layAsked 61 = .ok (.iload_n 1, 1) := by decide +kernel
theorem dX10_layAsked_62 : decode cX10_layAsked 62 = .ok (.iadd, 1) := by decide +kernel
theorem dX10_layAsked_63 : decode cX10_layAsked 63 = .ok (.iaload, 1) := by decide +kernel
theorem dX10_layAsked_64 : decode cX10_layAsked 64 = .ok (.istore_n 2, 1) := by decide +kernel
theorem dX10_layAsked_65 : decode cX10_layAsked 65 = .ok (.iload_n 2, 1) := by decide +kernel
theorem dX10_layAsked_66 : decode cX10_layAsked 66 = .ok (.sipush 1000, 3) := by decide +kernel
theorem dX10_layAsked_69 : decode cX10_layAsked 69 = .ok (.if_icmp .lt 18, 3) := by decide +kernel
theorem dX10_layAsked_72 : decode cX10_layAsked 72 = .ok (.aload_n 0, 1) := by decide +kernel
theorem dX10_layAsked_73 : decode cX10_layAsked 73 = .ok (.getfield 34, 3) := by decide +kernel
theorem dX10_layAsked_76 : decode cX10_layAsked 76 = .ok (.iload_n 2, 1) := by decide +kernel
theorem dX10_layAsked_77 : decode cX10_layAsked 77 = .ok (.sipush 1000, 3) := by decide +kernel
theorem dX10_layAsked_80 : decode cX10_layAsked 80 = .ok (.isub, 1) := by decide +kernel
theorem dX10_layAsked_81 : decode cX10_layAsked 81 = .ok (.bipush (-2), 2) := by decide +kernel
theorem dX10_layAsked_83 : decode cX10_layAsked 83 = .ok (.iastore, 1) := by decide +kernel
theorem dX10_layAsked_84 : decode cX10_layAsked 84 = .ok (.goto 29, 3) := by decide +kernel
theorem dX10_layAsked_87 : decode cX10_layAsked 87 = .ok (.aload_n 0, 1) := by decide +kernel
theorem dX10_layAsked_88 : decode cX10_layAsked 88 = .ok (.getfield 34, 3) := by decide +kernel
theorem dX10_layAsked_91 : decode cX10_layAsked 91 = .ok (.iload_n 2, 1) := by decide +kernel
theorem dX10_layAsked_92 : decode cX10_layAsked 92 = .ok (.bipush 100, 2) := by decide +kernel
theorem dX10_layAsked_94 : decode cX10_layAsked 94 = .ok (.irem, 1) := by decide +kernel
theorem dX10_layAsked_95 : decode cX10_layAsked 95 = .ok (.iload_n 2, 1) := by decide +kernel
theorem dX10_layAsked_96 : decode cX10_layAsked 96 = .ok (.bipush 100, 2) := by decide +kernel
theorem dX10_layAsked_98 : decode cX10_layAsked 98 = .ok (.idiv, 1) := by decide +kernel
theorem dX10_layAsked_99 : decode cX10_layAsked 99 = .ok (.iastore, 1) := by decide +kernel
theorem dX10_layAsked_100 : decode cX10_layAsked 100 = .ok (.aload_n 0, 1) := by decide +kernel
theorem dX10_layAsked_101 : decode cX10_layAsked 101 = .ok (.getfield 46, 3) := by decide +kernel
theorem dX10_layAsked_104 : decode cX10_layAsked 104 = .ok (.iload_n 2, 1) := by decide +kernel
theorem dX10_layAsked_105 : decode cX10_layAsked 105 = .ok (.bipush 100, 2) := by decide +kernel
theorem dX10_layAsked_107 : decode cX10_layAsked 107 = .ok (.idiv, 1) := by decide +kernel
theorem dX10_layAsked_108 : decode cX10_layAsked 108 = .ok (.iload_n 2, 1) := by decide +kernel
theorem dX10_layAsked_109 : decode cX10_layAsked 109 = .ok (.bipush 100, 2) := by decide +kernel
theorem dX10_layAsked_111 : decode cX10_layAsked 111 = .ok (.irem, 1) := by decide +kernel
theorem dX10_layAsked_112 : decode cX10_layAsked 112 = .ok (.iastore, 1) := by decide +kernel
theorem dX10_layAsked_113 : decode cX10_layAsked 113 = .ok (.iinc 1 1, 3) := by decide +kernel
theorem dX10_layAsked_116 : decode cX10_layAsked 116 = .ok (.goto (-72), 3) := by decide +kernel
theorem dX10_layAsked_119 : decode cX10_layAsked 119 = .ok (.return_, 1) := by decide +kernel
theorem dX10_doEat_0 : decode cX10_doEat 0 = .ok (.aload_n 0, 1) := by decide +kernel
theorem dX10_doEat_1 : decode cX10_doEat 1 = .ok (.getfield 37, 3) := by decide +kernel
theorem dX10_doEat_4 : decode cX10_doEat 4 = .ok (.iload_n 1, 1) := by decide +kernel
theorem dX10_doEat_5 : decode cX10_doEat 5 = .ok (.iaload, 1) := by decide +kernel
theorem dX10_doEat_6 : decode cX10_doEat 6 = .ok (.aload_n 0, 1) := by decide +kernel
theorem dX10_doEat_7 : decode cX10_doEat 7 = .ok (.getfield 9, 3) := by decide +kernel
theorem dX10_doEat_10 : decode cX10_doEat 10 = .ok (.iconst 2, 1) := by decide +kernel
theorem dX10_doEat_11 : decode cX10_doEat 11 = .ok (.iaload, 1) := by decide +kernel
theorem dX10_doEat_12 : decode cX10_doEat 12 = .ok (.if_icmp .lt 7, 3) := by decide +kernel
theorem dX10_doEat_15 : decode cX10_doEat 15 = .ok (.iconst 1, 1) := by decide +kernel
theorem dX10_doEat_16 : decode cX10_doEat 16 = .ok (.goto 4, 3) := by decide +kernel
theorem dX10_doEat_19 : decode cX10_doEat 19 = .ok (.iconst 0, 1) := by decide +kernel
theorem dX10_doEat_20 : decode cX10_doEat 20 = .ok (.ireturn, 1) := by decide +kernel
theorem dX10_whyOn_0 : decode cX10_whyOn 0 = .ok (.iload_n 3, 1) := by decide +kernel
theorem dX10_whyOn_1 : decode cX10_whyOn 1 = .ok (.ifCond .ne 5, 3) := by decide +kernel
theorem dX10_whyOn_4 : decode cX10_whyOn 4 = .ok (.iconst 1, 1) := by decide +kernel
theorem dX10_whyOn_5 : decode cX10_whyOn 5 = .ok (.ireturn, 1) := by decide +kernel
theorem dX10_whyOn_6 : decode cX10_whyOn 6 = .ok (.aload_n 0, 1) := by decide +kernel
theorem dX10_whyOn_7 : decode cX10_whyOn 7 = .ok (.getfield 9, 3) := by decide +kernel
theorem dX10_whyOn_10 : decode cX10_whyOn 10 = .ok (.bipush 8, 2) := by decide +kernel
theorem dX10_whyOn_12 : decode cX10_whyOn 12 = .ok (.iaload, 1) := by decide +kernel
theorem dX10_whyOn_13 : decode cX10_whyOn 13 = .ok (.iload_n 2, 1) := by decide +kernel
theorem dX10_whyOn_14 : decode cX10_whyOn 14 = .ok (.invokestatic 230, 3) := by decide +kernel
theorem dX10_whyOn_17 : decode cX10_whyOn 17 = .ok (.iconst 1, 1) := by decide +kernel
theorem dX10_whyOn_18 : decode cX10_whyOn 18 = .ok (.if_icmp .ne 5, 3) := by decide +kernel
theorem dX10_whyOn_21 : decode cX10_whyOn 21 = .ok (.iconst 2, 1) := by decide +kernel
theorem dX10_whyOn_22 : decode cX10_whyOn 22 = .ok (.ireturn, 1) := by decide +kernel
theorem dX10_whyOn_23 : decode cX10_whyOn 23 = .ok (.aload_n 0, 1) := by decide +kernel
theorem dX10_whyOn_24 : decode cX10_whyOn 24 = .ok (.iconst 1, 1) := by decide +kernel
theorem dX10_whyOn_25 : decode cX10_whyOn 25 = .ok (.aload_n 0, 1) := by decide +kernel
theorem dX10_whyOn_26 : decode cX10_whyOn 26 = .ok (.iload_n 1, 1) := by decide +kernel
theorem dX10_whyOn_27 : decode cX10_whyOn 27 = .ok (.iconst 0, 1) := by decide +kernel
theorem dX10_whyOn_28 : decode cX10_whyOn 28 = .ok (.invokevirtual 228, 3) := by decide +kernel
theorem dX10_whyOn_31 : decode cX10_whyOn 31 = .ok (.isub, 1) := by decide +kernel
theorem dX10_whyOn_32 : decode cX10_whyOn 32 = .ok (.invokevirtual 245, 3) := by decide +kernel
theorem dX10_whyOn_35 : decode cX10_whyOn 35 = .ok (.iload_n 2, 1) := by decide +kernel
theorem dX10_whyOn_36 : decode cX10_whyOn 36 = .ok (.invokestatic 230, 3) := by decide +kernel
theorem dX10_whyOn_39 : decode cX10_whyOn 39 = .ok (.iconst 1, 1) := by decide +kernel
theorem dX10_whyOn_40 : decode cX10_whyOn 40 = .ok (.if_icmp .ne 5, 3) := by decide +kernel
theorem dX10_whyOn_43 : decode cX10_whyOn 43 = .ok (.iconst 3, 1) := by decide +kernel
theorem dX10_whyOn_44 : decode cX10_whyOn 44 = .ok (.ireturn, 1) := by decide +kernel
theorem dX10_whyOn_45 : decode cX10_whyOn 45 = .ok (.aload_n 0, 1) := by decide +kernel
theorem dX10_whyOn_46 : decode cX10_whyOn 46 = .ok (.iload_n 1, 1) := by decide +kernel
theorem dX10_whyOn_47 : decode cX10_whyOn 47 = .ok (.iconst 2, 1) := by decide +kernel
theorem dX10_whyOn_48 : decode cX10_whyOn 48 = .ok (.invokevirtual 228, 3) := by decide +kernel
theorem dX10_whyOn_51 : decode cX10_whyOn 51 = .ok (.istore 4, 2) := by decide +kernel
theorem dX10_whyOn_53 : decode cX10_whyOn 53 = .ok (.iload 4, 2) := by decide +kernel
theorem dX10_whyOn_55 : decode cX10_whyOn 55 = .ok (.iconst (-1), 1) := by decide +kernel
theorem dX10_whyOn_56 : decode cX10_whyOn 56 = .ok (.if_icmp .eq 29, 3) := by decide +kernel
theorem dX10_whyOn_59 : decode cX10_whyOn 59 = .ok (.aload_n 0, 1) := by decide +kernel
theorem dX10_whyOn_60 : decode cX10_whyOn 60 = .ok (.getfield 43, 3) := by decide +kernel
theorem dX10_whyOn_63 : decode cX10_whyOn 63 = .ok (.iload 4, 2) := by decide +kernel
theorem dX10_whyOn_65 : decode cX10_whyOn 65 = .ok (.iaload, 1) := by decide +kernel
theorem dX10_whyOn_66 : decode cX10_whyOn 66 = .ok (.iconst (-1), 1) := by decide +kernel
theorem dX10_whyOn_67 : decode cX10_whyOn 67 = .ok (.if_icmp .eq 14, 3) := by decide +kernel
theorem dX10_whyOn_70 : decode cX10_whyOn 70 = .ok (.aload_n 0, 1) := by decide +kernel
theorem dX10_whyOn_71 : decode cX10_whyOn 71 = .ok (.getfield 43, 3) := by decide +kernel
theorem dX10_whyOn_74 : decode cX10_whyOn 74 = .ok (.iload 4, 2) := by decide +kernel
theorem dX10_whyOn_76 : decode cX10_whyOn 76 = .ok (.iaload, 1) := by decide +kernel
theorem dX10_whyOn_77 : decode cX10_whyOn 77 = .ok (.iload_n 2, 1) := by decide +kernel
theorem dX10_whyOn_78 : decode cX10_whyOn 78 = .ok (.if_icmp .lt 7, 3) := by decide +kernel
theorem dX10_whyOn_81 : decode cX10_whyOn 81 = .ok (.iconst 4, 1) := by decide +kernel
theorem dX10_whyOn_82 : decode cX10_whyOn 82 = .ok (.goto 4, 3) := by decide +kernel
theorem dX10_whyOn_85 : decode cX10_whyOn 85 = .ok (.iconst 0, 1) := by decide +kernel
theorem dX10_whyOn_86 : decode cX10_whyOn 86 = .ok (.ireturn, 1) := by decide +kernel
theorem dX10_drawsWell_0 : decode cX10_drawsWell 0 = .ok (.aload_n 0, 1) := by decide +kernel
theorem dX10_drawsWell_1 : decode cX10_drawsWell 1 = .ok (.getfield 252, 3) := by decide +kernel
theorem dX10_drawsWell_4 : decode cX10_drawsWell 4 = .ok (.ifCond .ne 5, 3) := by decide +kernel
theorem dX10_drawsWell_7 : decode cX10_drawsWell 7 = .ok (.iconst 1, 1) := by decide +kernel
theorem dX10_drawsWell_8 : decode cX10_drawsWell 8 = .ok (.ireturn, 1) := by decide +kernel
theorem dX10_drawsWell_9 : decode cX10_drawsWell 9 = .ok (.aload_n 0, 1) := by decide +kernel
theorem dX10_drawsWell_10 : decode cX10_drawsWell 10 = .ok (.ldc2_w 256, 3) := by decide +kernel
theorem dX10_drawsWell_13 : decode cX10_drawsWell 13 = .ok (.aload_n 0, 1) := by decide +kernel
theorem dX10_drawsWell_14 : decode cX10_drawsWell 14 = .ok (.getfield 258, 3) := by decide +kernel
theorem dX10_drawsWell_17 : decode cX10_drawsWell 17 = .ok (.lmul, 1) := by decide +kernel
theorem dX10_drawsWell_18 : decode cX10_drawsWell 18 = .ok (.ldc2_w 262, 3) := by decide +kernel
theorem dX10_drawsWell_21 : decode cX10_drawsWell 21 = .ok (.ladd, 1) := by decide +kernel
theorem dX10_drawsWell_22 : decode cX10_drawsWell 22 = .ok (.ldc2_w 264, 3) := by decide +kernel
theorem dX10_drawsWell_25 : decode cX10_drawsWell 25 = .ok (.lrem, 1) := by decide +kernel
theorem dX10_drawsWell_26 : decode cX10_drawsWell 26 = .ok (.putfield 258, 3) := by decide +kernel
theorem dX10_drawsWell_29 : decode cX10_drawsWell 29 = .ok (.aload_n 0, 1) := by decide +kernel
theorem dX10_drawsWell_30 : decode cX10_drawsWell 30 = .ok (.dup, 1) := by decide +kernel
theorem dX10_drawsWell_31 : decode cX10_drawsWell 31 = .ok (.getfield 266, 3) := by decide +kernel
theorem dX10_drawsWell_34 : decode cX10_drawsWell 34 = .ok (.iconst 1, 1) := by decide +kernel
theorem dX10_drawsWell_35 : decode cX10_drawsWell 35 = .ok (.iadd, 1) := by decide +kernel
theorem dX10_drawsWell_36 : decode cX10_drawsWell 36 = .ok (.putfield 266, 3) := by decide +kernel
theorem dX10_drawsWell_39 : decode cX10_drawsWell 39 = .ok (.aload_n 0, 1) := by decide +kernel
theorem dX10_drawsWell_40 : decode cX10_drawsWell 40 = .ok (.getfield 258, 3) := by decide +kernel
theorem dX10_drawsWell_43 : decode cX10_drawsWell 43 = .ok (.ldc2_w 269, 3) := by decide +kernel
theorem dX10_drawsWell_46 : decode cX10_drawsWell 46 = .ok (.ldiv, 1) := by decide +kernel
theorem dX10_drawsWell_47 : decode cX10_drawsWell 47 = .ok (.ldc2_w 271, 3) := by decide +kernel
theorem dX10_drawsWell_50 : decode cX10_drawsWell 50 = .ok (.lrem, 1) := by decide +kernel
theorem dX10_drawsWell_51 : decode cX10_drawsWell 51 = .ok (.aload_n 0, 1) := by decide +kernel
theorem dX10_drawsWell_52 : decode cX10_drawsWell 52 = .ok (.getfield 9, 3) := by decide +kernel
theorem dX10_drawsWell_55 : decode cX10_drawsWell 55 = .ok (.iconst 3, 1) := by decide +kernel
theorem dX10_drawsWell_56 : decode cX10_drawsWell 56 = .ok (.iaload, 1) := by decide +kernel
theorem dX10_drawsWell_57 : decode cX10_drawsWell 57 = .ok (.i2l, 1) := by decide +kernel
theorem dX10_drawsWell_58 : decode cX10_drawsWell 58 = .ok (.lcmp, 1) := by decide +kernel
theorem dX10_drawsWell_59 : decode cX10_drawsWell 59 = .ok (.ifCond .ge 7, 3) := by decide +kernel
theorem dX10_drawsWell_62 : decode cX10_drawsWell 62 = .ok (.iconst 1, 1) := by decide +kernel
theorem dX10_drawsWell_63 : decode cX10_drawsWell 63 = .ok (.goto 4, 3) := by decide +kernel
theorem dX10_drawsWell_66 : decode cX10_drawsWell 66 = .ok (.iconst 0, 1) := by decide +kernel
theorem dX10_drawsWell_67 : decode cX10_drawsWell 67 = .ok (.ireturn, 1) := by decide +kernel
theorem dX10_goDays_0 : decode cX10_goDays 0 = .ok (.iconst 0, 1) := by decide +kernel
theorem dX10_goDays_1 : decode cX10_goDays 1 = .ok (.istore_n 1, 1) := by decide +kernel
theorem dX10_goDays_2 : decode cX10_goDays 2 = .ok (.iload_n 1, 1) := by decide +kernel
theorem dX10_goDays_3 : decode cX10_goDays 3 = .ok (.bipush 8, 2) := by decide +kernel
theorem dX10_goDays_5 : decode cX10_goDays 5 = .ok (.if_icmp .ge 16, 3) := by decide +kernel
theorem dX10_goDays_8 : decode cX10_goDays 8 = .ok (.aload_n 0, 1) := by decide +kernel
theorem dX10_goDays_9 : decode cX10_goDays 9 = .ok (.getfield 43, 3) := by decide +kernel
theorem dX10_goDays_12 : decode cX10_goDays 12 = .ok (.iload_n 1, 1) := by decide +kernel
theorem dX10_goDays_13 : decode cX10_goDays 13 = .ok (.iconst (-1), 1) := by decide +kernel
theorem dX10_goDays_14 : decode cX10_goDays 14 = .ok (.iastore, 1) := by decide +kernel
theorem dX10_goDays_15 : decode cX10_goDays 15 = .ok (.iinc 1 1, 3) := by decide +kernel
theorem dX10_goDays_18 : decode cX10_goDays 18 = .ok (.goto (-16), 3) := by decide +kernel
theorem dX10_goDays_21 : decode cX10_goDays 21 = .ok (.iconst 0, 1) := by decide +kernel
theorem dX10_goDays_22 : decode cX10_goDays 22 = .ok (.istore_n 1, 1) := by decide +kernel
theorem dX10_goDays_23 : decode cX10_goDays 23 = .ok (.iload_n 1, 1) := by decide +kernel
theorem dX10_goDays_24 : decode cX10_goDays 24 = .ok (.aload_n 0, 1) := by decide +kernel
theorem dX10_goDays_25 : decode cX10_goDays 25 = .ok (.getfield 9, 3) := by decide +kernel
theorem dX10_goDays_28 : decode cX10_goDays 28 = .ok (.iconst 0, 1) := by decide +kernel
theorem dX10_goDays_29 : decode cX10_goDays 29 = .ok (.iaload, 1) := by decide +kernel
theorem dX10_goDays_30 : decode cX10_goDays 30 = .ok (.if_icmp .ge 123, 3) := by decide +kernel
theorem dX10_goDays_33 : decode cX10_goDays 33 = .ok (.aload_n 0, 1) := by decide +kernel
theorem dX10_goDays_34 : decode cX10_goDays 34 = .ok (.getfield 37, 3) := by decide +kernel
theorem dX10_goDays_37 : decode cX10_goDays 37 = .ok (.iload_n 1, 1) := by decide +kernel
theorem dX10_goDays_38 : decode cX10_goDays 38 = .ok (.iload_n 1, 1) := by decide +kernel
theorem dX10_goDays_39 : decode cX10_goDays 39 = .ok (.ifCond .ne 12, 3) := by decide +kernel
theorem dX10_goDays_42 : decode cX10_goDays 42 = .ok (.aload_n 0, 1) := by decide +kernel
theorem dX10_goDays_43 : decode cX10_goDays 43 = .ok (.getfield 9, 3) := by decide +kernel
theorem dX10_goDays_46 : decode cX10_goDays 46 = .ok (.iconst 1, 1) := by decide +kernel
theorem dX10_goDays_47 : decode cX10_goDays 47 = .ok (.iaload, 1) := by decide +kernel
theorem dX10_goDays_48 : decode cX10_goDays 48 = .ok (.goto 29, 3) := by decide +kernel
theorem dX10_goDays_51 : decode cX10_goDays 51 = .ok (.aload_n 0, 1) := by decide +kernel
theorem dX10_goDays_52 : decode cX10_goDays 52 = .ok (.getfield 34, 3) := by decide +kernel
theorem dX10_goDays_55 : decode cX10_goDays 55 = .ok (.iload_n 1, 1) := by decide +kernel
theorem dX10_goDays_56 : decode cX10_goDays 56 = .ok (.iconst 1, 1) := by decide +kernel
theorem dX10_goDays_57 : decode cX10_goDays 57 = .ok (.isub, 1) := by decide +kernel
theorem dX10_goDays_58 : decode cX10_goDays 58 = .ok (.iaload, 1) := by decide +kernel
theorem dX10_goDays_59 : decode cX10_goDays 59 = .ok (.iconst (-1), 1) := by decide +kernel
theorem dX10_goDays_60 : decode cX10_goDays 60 = .ok (.if_icmp .eq 7, 3) := by decide +kernel
theorem dX10_goDays_63 : decode cX10_goDays 63 = .ok (.iconst 1, 1) := by decide +kernel
theorem dX10_goDays_64 : decode cX10_goDays 64 = .ok (.goto 13, 3) := by decide +kernel
theorem dX10_goDays_67 : decode cX10_goDays 67 = .ok (.aload_n 0, 1) := by decide +kernel
theorem dX10_goDays_68 : decode cX10_goDays 68 = .ok (.getfield 37, 3) := by decide +kernel
theorem dX10_goDays_71 : decode cX10_goDays 71 = .ok (.iload_n 1, 1) := by decide +kernel
theorem dX10_goDays_72 : decode cX10_goDays 72 = .ok (.iconst 1, 1) := by decide +kernel
theorem dX10_goDays_73 : decode cX10_goDays 73 = .ok (.isub, 1) := by decide +kernel
theorem dX10_goDays_74 : decode cX10_goDays 74 = .ok (.iaload, 1) := by decide +kernel
theorem dX10_goDays_75 : decode cX10_goDays 75 = .ok (.iconst 1, 1) := by decide +kernel
theorem dX10_goDays_76 : decode cX10_goDays 76 = .ok (.iadd, 1) := by decide +kernel
theorem dX10_goDays_77 : decode cX10_goDays 77 = .ok (.iastore, 1) := by decide +kernel
theorem dX10_goDays_78 : decode cX10_goDays 78 = .ok (.aload_n 0, 1) := by decide +kernel
theorem dX10_goDays_79 : decode cX10_goDays 79 = .ok (.getfield 40, 3) := by decide +kernel
theorem dX10_goDays_82 : decode cX10_goDays 82 = .ok (.iload_n 1, 1) := by decide +kernel
theorem dX10_goDays_83 : decode cX10_goDays 83 = .ok (.iconst (-1), 1) := by decide +kernel
theorem dX10_goDays_84 : decode cX10_goDays 84 = .ok (.iastore, 1) := by decide +kernel
theorem dX10_goDays_85 : decode cX10_goDays 85 = .ok (.aload_n 0, 1) := by decide +kernel
theorem dX10_goDays_86 : decode cX10_goDays 86 = .ok (.getfield 34, 3) := by decide +kernel
theorem dX10_goDays_89 : decode cX10_goDays 89 = .ok (.iload_n 1, 1) := by decide +kernel
theorem dX10_goDays_90 : decode cX10_goDays 90 = .ok (.iaload, 1) := by decide +kernel
theorem dX10_goDays_91 : decode cX10_goDays 91 = .ok (.istore_n 2, 1) := by decide +kernel
theorem dX10_goDays_92 : decode cX10_goDays 92 = .ok (.iload_n 2, 1) := by decide +kernel
theorem dX10_goDays_93 : decode cX10_goDays 93 = .ok (.ifCond .ge 6, 3) := by decide +kernel
theorem dX10_goDays_96 : decode cX10_goDays 96 = .ok (.goto 51, 3) := by decide +kernel
theorem dX10_goDays_99 : decode cX10_goDays 99 = .ok (.aload_n 0, 1) := by decide +kernel
theorem dX10_goDays_100 : decode cX10_goDays 100 = .ok (.iload_n 1, 1) := by decide +kernel
theorem dX10_goDays_101 : decode cX10_goDays 101 = .ok (.invokevirtual 273, 3) := by decide +kernel
theorem dX10_goDays_104 : decode cX10_goDays 104 = .ok (.ifCond .eq 14, 3) := by decide +kernel
theorem dX10_goDays_107 : decode cX10_goDays 107 = .ok (.aload_n 0, 1) := by decide +kernel
theorem dX10_goDays_108 : decode cX10_goDays 108 = .ok (.invokevirtual 276, 3) := by decide +kernel
theorem dX10_goDays_111 : decode cX10_goDays 111 = .ok (.ifCond .eq 7, 3) := by decide +kernel
theorem dX10_goDays_114 : decode cX10_goDays 114 = .ok (.iconst 1, 1) := by decide +kernel
theorem dX10_goDays_115 : decode cX10_goDays 115 = .ok (.goto 4, 3) := by decide +kernel
theorem dX10_goDays_118 : decode cX10_goDays 118 = .ok (.iconst 0, 1) := by decide +kernel
theorem dX10_goDays_119 : decode cX10_goDays 119 = .ok (.istore_n 3, 1) := by decide +kernel
theorem dX10_goDays_120 : decode cX10_goDays 120 = .ok (.aload_n 0, 1) := by decide +kernel
theorem dX10_goDays_121 : decode cX10_goDays 121 = .ok (.iload_n 2, 1) := by decide +kernel
theorem dX10_goDays_122 : decode cX10_goDays 122 = .ok (.iload_n 1, 1) := by decide +kernel
theorem dX10_goDays_123 : decode cX10_goDays 123 = .ok (.iload_n 3, 1) := by decide +kernel
theorem dX10_goDays_124 : decode cX10_goDays 124 = .ok (.invokevirtual 279, 3) := by decide +kernel
theorem dX10_goDays_127 : decode cX10_goDays 127 = .ok (.ifCond .eq 6, 3) := by decide +kernel
theorem dX10_goDays_130 : decode cX10_goDays 130 = .ok (.goto 17, 3) := by decide +kernel
theorem dX10_goDays_133 : decode cX10_goDays 133 = .ok (.aload_n 0, 1) := by decide +kernel
theorem dX10_goDays_134 : decode cX10_goDays 134 = .ok (.getfield 40, 3) := by decide +kernel
theorem dX10_goDays_137 : decode cX10_goDays 137 = .ok (.iload_n 1, 1) := by decide +kernel
theorem dX10_goDays_138 : decode cX10_goDays 138 = .ok (.iload_n 2, 1) := by decide +kernel
theorem dX10_goDays_139 : decode cX10_goDays 139 = .ok (.iastore, 1) := by decide +kernel
theorem dX10_goDays_140 : decode cX10_goDays 140 = .ok (.aload_n 0, 1) := by decide +kernel
theorem dX10_goDays_141 : decode cX10_goDays 141 = .ok (.getfield 43, 3) := by decide +kernel
theorem dX10_goDays_144 : decode cX10_goDays 144 = .ok (.iload_n 2, 1) := by decide +kernel
theorem dX10_goDays_145 : decode cX10_goDays 145 = .ok (.iload_n 1, 1) := by decide +kernel
theorem dX10_goDays_146 : decode cX10_goDays 146 = .ok (.iastore, 1) := by decide +kernel
theorem dX10_goDays_147 : decode cX10_goDays 147 = .ok (.iinc 1 1, 3) := by decide +kernel
theorem dX10_goDays_150 : decode cX10_goDays 150 = .ok (.goto (-127), 3) := by decide +kernel
theorem dX10_goDays_153 : decode cX10_goDays 153 = .ok (.return_, 1) := by decide +kernel
theorem dX10_asksCamp_0 : decode cX10_asksCamp 0 = .ok (.aload_n 0, 1) := by decide +kernel
theorem dX10_asksCamp_1 : decode cX10_asksCamp 1 = .ok (.invokevirtual 283, 3) := by decide +kernel
theorem dX10_asksCamp_4 : decode cX10_asksCamp 4 = .ok (.aload_n 0, 1) := by decide +kernel
theorem dX10_asksCamp_5 : decode cX10_asksCamp 5 = .ok (.invokevirtual 286, 3) := by decide +kernel
theorem dX10_asksCamp_8 : decode cX10_asksCamp 8 = .ok (.aload_n 0, 1) := by decide +kernel
theorem dX10_asksCamp_9 : decode cX10_asksCamp 9 = .ok (.invokevirtual 96, 3) := by decide +kernel
theorem dX10_asksCamp_12 : decode cX10_asksCamp 12 = .ok (.ireturn, 1) := by decide +kernel
theorem dX10_asksDay_0 : decode cX10_asksDay 0 = .ok (.aload_n 0, 1) := by decide +kernel
theorem dX10_asksDay_1 : decode cX10_asksDay 1 = .ok (.invokevirtual 289, 3) := by decide +kernel
theorem dX10_asksDay_4 : decode cX10_asksDay 4 = .ok (.pop, 1) := by decide +kernel
theorem dX10_asksDay_5 : decode cX10_asksDay 5 = .ok (.aload_n 0, 1) := by decide +kernel
theorem dX10_asksDay_6 : decode cX10_asksDay 6 = .ok (.iload_n 1, 1) := by decide +kernel
theorem dX10_asksDay_7 : decode cX10_asksDay 7 = .ok (.i2l, 1) := by decide +kernel
theorem dX10_asksDay_8 : decode cX10_asksDay 8 = .ok (.invokevirtual 248, 3) := by decide +kernel
theorem dX10_asksDay_11 : decode cX10_asksDay 11 = .ok (.ireturn, 1) := by decide +kernel
theorem dX10_asksBill_0 : decode cX10_asksBill 0 = .ok (.aload_n 0, 1) := by decide +kernel
theorem dX10_asksBill_1 : decode cX10_asksBill 1 = .ok (.invokevirtual 289, 3) := by decide +kernel
theorem dX10_asksBill_4 : decode cX10_asksBill 4 = .ok (.pop, 1) := by decide +kernel
theorem dX10_asksBill_5 : decode cX10_asksBill 5 = .ok (.aload_n 0, 1) := by decide +kernel
theorem dX10_asksBill_6 : decode cX10_asksBill 6 = .ok (.iload_n 1, 1) := by decide +kernel
theorem dX10_asksBill_7 : decode cX10_asksBill 7 = .ok (.invokevirtual 225, 3) := by decide +kernel
theorem dX10_asksBill_10 : decode cX10_asksBill 10 = .ok (.ireturn, 1) := by decide +kernel
theorem dX10_hunger_0 : decode cX10_hunger 0 = .ok (.aload_n 0, 1) := by decide +kernel
theorem dX10_hunger_1 : decode cX10_hunger 1 = .ok (.iload_n 1, 1) := by decide +kernel
theorem dX10_hunger_2 : decode cX10_hunger 2 = .ok (.invokevirtual 292, 3) := by decide +kernel
theorem dX10_hunger_5 : decode cX10_hunger 5 = .ok (.ifCond .eq 12, 3) := by decide +kernel
theorem dX10_hunger_8 : decode cX10_hunger 8 = .ok (.aload_n 0, 1) := by decide +kernel
theorem dX10_hunger_9 : decode cX10_hunger 9 = .ok (.getfield 37, 3) := by decide +kernel
theorem dX10_hunger_12 : decode cX10_hunger 12 = .ok (.iload_n 1, 1) := by decide +kernel
theorem dX10_hunger_13 : decode cX10_hunger 13 = .ok (.iaload, 1) := by decide +kernel
theorem dX10_hunger_14 : decode cX10_hunger 14 = .ok (.goto 5, 3) := by decide +kernel
theorem dX10_hunger_17 : decode cX10_hunger 17 = .ok (.bipush (-2), 2) := by decide +kernel
theorem dX10_hunger_19 : decode cX10_hunger 19 = .ok (.ireturn, 1) := by decide +kernel
theorem dX10_eat_0 : decode cX10_eat 0 = .ok (.aload_n 0, 1) := by decide +kernel
theorem dX10_eat_1 : decode cX10_eat 1 = .ok (.invokevirtual 289, 3) := by decide +kernel
theorem dX10_eat_4 : decode cX10_eat 4 = .ok (.ifCond .ne 6, 3) := by decide +kernel
theorem dX10_eat_7 : decode cX10_eat 7 = .ok (.bipush (-2), 2) := by decide +kernel
theorem dX10_eat_9 : decode cX10_eat 9 = .ok (.ireturn, 1) := by decide +kernel
theorem dX10_eat_10 : decode cX10_eat 10 = .ok (.iconst 0, 1) := by decide +kernel
theorem dX10_eat_11 : decode cX10_eat 11 = .ok (.istore_n 1, 1) := by decide +kernel
theorem dX10_eat_12 : decode cX10_eat 12 = .ok (.iconst 0, 1) := by decide +kernel
theorem dX10_eat_13 : decode cX10_eat 13 = .ok (.istore_n 2, 1) := by decide +kernel
theorem dX10_eat_14 : decode cX10_eat 14 = .ok (.iload_n 2, 1) := by decide +kernel
theorem dX10_eat_15 : decode cX10_eat 15 = .ok (.aload_n 0, 1) := by decide +kernel
theorem dX10_eat_16 : decode cX10_eat 16 = .ok (.getfield 9, 3) := by decide +kernel
theorem dX10_eat_19 : decode cX10_eat 19 = .ok (.iconst 0, 1) := by decide +kernel
theorem dX10_eat_20 : decode cX10_eat 20 = .ok (.iaload, 1) := by decide +kernel
theorem dX10_eat_21 : decode cX10_eat 21 = .ok (.if_icmp .ge 27, 3) := by decide +kernel
theorem dX10_eat_24 : decode cX10_eat 24 = .ok (.iload_n 1, 1) := by decide +kernel
theorem dX10_eat_25 : decode cX10_eat 25 = .ok (.aload_n 0, 1) := by decide +kernel
theorem dX10_eat_26 : decode cX10_eat 26 = .ok (.iload_n 2, 1) := by decide +kernel
theorem dX10_eat_27 : decode cX10_eat 27 = .ok (.invokevirtual 273, 3) := by decide +kernel
theorem dX10_eat_30 : decode cX10_eat 30 = .ok (.ifCond .eq 9, 3) := by decide +kernel
theorem dX10_eat_33 : decode cX10_eat 33 = .ok (.iconst 1, 1) := by decide +kernel
theorem dX10_eat_34 : decode cX10_eat 34 = .ok (.iload_n 2, 1) := by decide +kernel
theorem dX10_eat_35 : decode cX10_eat 35 = .ok (.ishl, 1) := by decide +kernel
theorem dX10_eat_36 : decode cX10_eat 36 = .ok (.goto 4, 3) := by decide +kernel
theorem dX10_eat_39 : decode cX10_eat 39 = .ok (.iconst 0, 1) := by decide +kernel
theorem dX10_eat_40 : decode cX10_eat 40 = .ok (.ior, 1) := by decide +kernel
theorem dX10_eat_41 : decode cX10_eat 41 = .ok (.istore_n 1, 1) := by decide +kernel
theorem dX10_eat_42 : decode cX10_eat 42 = .ok (.iinc 2 1, 3) := by decide +kernel
theorem dX10_eat_45 : decode cX10_eat 45 = .ok (.goto (-31), 3) := by decide +kernel
theorem dX10_eat_48 : decode cX10_eat 48 = .ok (.iload_n 1, 1) := by decide +kernel
theorem dX10_eat_49 : decode cX10_eat 49 = .ok (.ireturn, 1) := by decide +kernel
theorem dX10_open_0 : decode cX10_open 0 = .ok (.aload_n 0, 1) := by decide +kernel
theorem dX10_open_1 : decode cX10_open 1 = .ok (.invokevirtual 289, 3) := by decide +kernel
theorem dX10_open_4 : decode cX10_open 4 = .ok (.ifCond .eq 11, 3) := by decide +kernel
theorem dX10_open_7 : decode cX10_open 7 = .ok (.aload_n 0, 1) := by decide +kernel
theorem dX10_open_8 : decode cX10_open 8 = .ok (.iload_n 1, 1) := by decide +kernel
theorem dX10_open_9 : decode cX10_open 9 = .ok (.invokevirtual 242, 3) := by decide +kernel
theorem dX10_open_12 : decode cX10_open 12 = .ok (.ifCond .ne 6, 3) := by decide +kernel
theorem dX10_open_15 : decode cX10_open 15 = .ok (.bipush (-2), 2) := by decide +kernel
theorem dX10_open_17 : decode cX10_open 17 = .ok (.ireturn, 1) := by decide +kernel
theorem dX10_open_18 : decode cX10_open 18 = .ok (.iconst 0, 1) := by decide +kernel
theorem dX10_open_19 : decode cX10_open 19 = .ok (.istore_n 2, 1) := by decide +kernel
theorem dX10_open_20 : decode cX10_open 20 = .ok (.iconst 0, 1) := by decide +kernel
theorem dX10_open_21 : decode cX10_open 21 = .ok (.istore_n 3, 1) := by decide +kernel
theorem dX10_open_22 : decode cX10_open 22 = .ok (.iload_n 3, 1) := by decide +kernel
theorem dX10_open_23 : decode cX10_open 23 = .ok (.aload_n 0, 1) := by decide +kernel
theorem dX10_open_24 : decode cX10_open 24 = .ok (.getfield 9, 3) := by decide +kernel
theorem dX10_open_27 : decode cX10_open 27 = .ok (.iconst 0, 1) := by decide +kernel
theorem dX10_open_28 : decode cX10_open 28 = .ok (.iaload, 1) := by decide +kernel
theorem dX10_open_29 : decode cX10_open 29 = .ok (.if_icmp .ge 99, 3) := by decide +kernel
theorem dX10_open_32 : decode cX10_open 32 = .ok (.iconst 0, 1) := by decide +kernel
theorem dX10_open_33 : decode cX10_open 33 = .ok (.istore 4, 2) := by decide +kernel
theorem dX10_open_35 : decode cX10_open 35 = .ok (.iload 4, 2) := by decide +kernel
theorem dX10_open_37 : decode cX10_open 37 = .ok (.aload_n 0, 1) := by decide +kernel
theorem dX10_open_38 : decode cX10_open 38 = .ok (.getfield 9, 3) := by decide +kernel
theorem dX10_open_41 : decode cX10_open 41 = .ok (.iconst 5, 1) := by decide +kernel
theorem dX10_open_42 : decode cX10_open 42 = .ok (.iaload, 1) := by decide +kernel
theorem dX10_open_43 : decode cX10_open 43 = .ok (.if_icmp .ge 79, 3) := by decide +kernel
theorem dX10_open_46 : decode cX10_open 46 = .ok (.aload_n 0, 1) := by decide +kernel
theorem dX10_open_47 : decode cX10_open 47 = .ok (.iload 4, 2) := by decide +kernel
theorem dX10_open_49 : decode cX10_open 49 = .ok (.iconst 0, 1) := by decide +kernel
theorem dX10_open_50 : decode cX10_open 50 = .ok (.invokevirtual 228, 3) := by decide +kernel
theorem dX10_open_53 : decode cX10_open 53 = .ok (.iload_n 1, 1) := by decide +kernel
theorem dX10_open_54 : decode cX10_open 54 = .ok (.if_icmp .ne 29, 3) := by decide +kernel
theorem dX10_open_57 : decode cX10_open 57 = .ok (.aload_n 0, 1) := by decide +kernel
theorem dX10_open_58 : decode cX10_open 58 = .ok (.getfield 46, 3) := by decide +kernel
theorem dX10_open_61 : decode cX10_open 61 = .ok (.iload 4, 2) := by decide +kernel
theorem dX10_open_63 : decode cX10_open 63 = .ok (.iaload, 1) := by decide +kernel
theorem dX10_open_64 : decode cX10_open 64 = .ok (.iconst (-1), 1) := by decide +kernel
theorem dX10_open_65 : decode cX10_open 65 = .ok (.if_icmp .eq 14, 3) := by decide +kernel
theorem dX10_open_68 : decode cX10_open 68 = .ok (.aload_n 0, 1) := by decide +kernel
theorem dX10_open_69 : decode cX10_open 69 = .ok (.getfield 46, 3) := by decide +kernel
theorem dX10_open_72 : decode cX10_open 72 = .ok (.iload 4, 2) := by decide +kernel
theorem dX10_open_74 : decode cX10_open 74 = .ok (.iaload, 1) := by decide +kernel
theorem dX10_open_75 : decode cX10_open 75 = .ok (.iload_n 3, 1) := by decide +kernel
theorem dX10_open_76 : decode cX10_open 76 = .ok (.if_icmp .ne 7, 3) := by decide +kernel
theorem dX10_open_79 : decode cX10_open 79 = .ok (.iconst 1, 1) := by decide +kernel
theorem dX10_open_80 : decode cX10_open 80 = .ok (.goto 4, 3) := by decide +kernel
theorem dX10_open_83 : decode cX10_open 83 = .ok (.iconst 0, 1) := by decide +kernel
theorem dX10_open_84 : decode cX10_open 84 = .ok (.istore 5, 2) := by decide +kernel
theorem dX10_open_86 : decode cX10_open 86 = .ok (.iload_n 2, 1) := by decide +kernel
theorem dX10_open_87 : decode cX10_open 87 = .ok (.iload 5, 2) := by decide +kernel
theorem dX10_open_89 : decode cX10_open 89 = .ok (.ifCond .eq 24, 3) := by decide +kernel
theorem dX10_open_92 : decode cX10_open 92 = .ok (.aload_n 0, 1) := by decide +kernel
theorem dX10_open_93 : decode cX10_open 93 = .ok (.iload 4, 2) := by decide +kernel
theorem dX10_open_95 : decode cX10_open 95 = .ok (.iload_n 3, 1) := by decide +kernel
theorem dX10_open_96 : decode cX10_open 96 = .ok (.aload_n 0, 1) := by decide +kernel
theorem dX10_open_97 : decode cX10_open 97 = .ok (.iload_n 3, 1) := by decide +kernel
theorem dX10_open_98 : decode cX10_open 98 = .ok (.invokevirtual 273, 3) := by decide +kernel
theorem dX10_open_101 : decode cX10_open 101 = .ok (.invokevirtual 279, 3) := by decide +kernel
theorem dX10_open_104 : decode cX10_open 104 = .ok (.ifCond .ne 9, 3) := by decide +kernel
theorem dX10_open_107 : decode cX10_open 107 = .ok (.iconst 1, 1) := by decide +kernel
theorem dX10_open_108 : decode cX10_open 108 = .ok (.iload_n 3, 1) := by decide +kernel
theorem dX10_open_109 : decode cX10_open 109 = .ok (.ishl, 1) := by decide +kernel
theorem dX10_open_110 : decode cX10_open 110 = .ok (.goto 4, 3) := by decide +kernel
theorem dX10_open_113 : decode cX10_open 113 = .ok (.iconst 0, 1) := by decide +kernel
theorem dX10_open_114 : decode cX10_open 114 = .ok (.ior, 1) := by decide +kernel
theorem dX10_open_115 : decode cX10_open 115 = .ok (.istore_n 2, 1) := by decide +kernel
theorem dX10_open_116 : decode cX10_open 116 = .ok (.iinc 4 1, 3) := by decide +kernel
theorem dX10_open_119 : decode cX10_open 119 = .ok (.goto (-84), 3) := by decide +kernel
theorem dX10_open_122 : decode cX10_open 122 = .ok (.iinc 3 1, 3) := by decide +kernel
theorem dX10_open_125 : decode cX10_open 125 = .ok (.goto (-103), 3) := by decide +kernel
theorem dX10_open_128 : decode cX10_open 128 = .ok (.iload_n 2, 1) := by decide +kernel
theorem dX10_open_129 : decode cX10_open 129 = .ok (.ireturn, 1) := by decide +kernel
theorem dX10_best_0 : decode cX10_best 0 = .ok (.aload_n 0, 1) := by decide +kernel
theorem dX10_best_1 : decode cX10_best 1 = .ok (.iload_n 1, 1) := by decide +kernel
theorem dX10_best_2 : decode cX10_best 2 = .ok (.invokevirtual 292, 3) := by decide +kernel
theorem dX10_best_5 : decode cX10_best 5 = .ok (.ifCond .ne 6, 3) := by decide +kernel
theorem dX10_best_8 : decode cX10_best 8 = .ok (.bipush (-2), 2) := by decide +kernel
theorem dX10_best_10 : decode cX10_best 10 = .ok (.ireturn, 1) := by decide +kernel
theorem dX10_best_11 : decode cX10_best 11 = .ok (.iconst (-1), 1) := by decide +kernel
theorem dX10_best_12 : decode cX10_best 12 = .ok (.istore_n 2, 1) := by decide +kernel
theorem dX10_best_13 : decode cX10_best 13 = .ok (.iconst 0, 1) := by decide +kernel
theorem dX10_best_14 : decode cX10_best 14 = .ok (.istore_n 3, 1) := by decide +kernel
theorem dX10_best_15 : decode cX10_best 15 = .ok (.iload_n 3, 1) := by decide +kernel
theorem dX10_best_16 : decode cX10_best 16 = .ok (.aload_n 0, 1) := by decide +kernel
theorem dX10_best_17 : decode cX10_best 17 = .ok (.getfield 9, 3) := by decide +kernel
theorem dX10_best_20 : decode cX10_best 20 = .ok (.iconst 5, 1) := by decide +kernel
theorem dX10_best_21 : decode cX10_best 21 = .ok (.iaload, 1) := by decide +kernel
theorem dX10_best_22 : decode cX10_best 22 = .ok (.if_icmp .ge 77, 3) := by decide +kernel
theorem dX10_best_25 : decode cX10_best 25 = .ok (.aload_n 0, 1) := by decide +kernel
theorem dX10_best_26 : decode cX10_best 26 = .ok (.getfield 46, 3) := by decide +kernel
theorem dX10_best_29 : decode cX10_best 29 = .ok (.iload_n 3, 1) := by decide +kernel
theorem dX10_best_30 : decode cX10_best 30 = .ok (.iaload, 1) := by decide +kernel
theorem dX10_best_31 : decode cX10_best 31 = .ok (.iconst (-1), 1) := by decide +kernel
theorem dX10_best_32 : decode cX10_best 32 = .ok (.if_icmp .eq 13, 3) := by decide +kernel
theorem dX10_best_35 : decode cX10_best 35 = .ok (.aload_n 0, 1) := by decide +kernel
theorem dX10_best_36 : decode cX10_best 36 = .ok (.getfield 46, 3) := by decide +kernel
theorem dX10_best_39 : decode cX10_best 39 = .ok (.iload_n 3, 1) := by decide +kernel
theorem dX10_best_40 : decode cX10_best 40 = .ok (.iaload, 1) := by decide +kernel
theorem dX10_best_41 : decode cX10_best 41 = .ok (.iload_n 1, 1) := by decide +kernel
theorem dX10_best_42 : decode cX10_best 42 = .ok (.if_icmp .ne 21, 3) := by decide +kernel
theorem dX10_best_45 : decode cX10_best 45 = .ok (.aload_n 0, 1) := by decide +kernel
theorem dX10_best_46 : decode cX10_best 46 = .ok (.iload_n 3, 1) := by decide +kernel
theorem dX10_best_47 : decode cX10_best 47 = .ok (.iload_n 1, 1) := by decide +kernel
theorem dX10_best_48 : decode cX10_best 48 = .ok (.aload_n 0, 1) := by decide +kernel
theorem dX10_best_49 : decode cX10_best 49 = .ok (.iload_n 1, 1) := by decide +kernel
theorem dX10_best_50 : decode cX10_best 50 = .ok (.invokevirtual 273, 3) := by decide +kernel
theorem dX10_best_53 : decode cX10_best 53 = .ok (.invokevirtual 279, 3) := by decide +kernel
theorem dX10_best_56 : decode cX10_best 56 = .ok (.ifCond .ne 7, 3) := by decide +kernel
theorem dX10_best_59 : decode cX10_best 59 = .ok (.iconst 1, 1) := by decide +kernel
theorem dX10_best_60 : decode cX10_best 60 = .ok (.goto 4, 3) := by decide +kernel
theorem dX10_best_63 : decode cX10_best 63 = .ok (.iconst 0, 1) := by decide +kernel
theorem dX10_best_64 : decode cX10_best 64 = .ok (.istore 4, 2) := by decide +kernel
theorem dX10_best_66 : decode cX10_best 66 = .ok (.iload 4, 2) := by decide +kernel
theorem dX10_best_68 : decode cX10_best 68 = .ok (.ifCond .eq 25, 3) := by decide +kernel
theorem dX10_best_71 : decode cX10_best 71 = .ok (.iload_n 2, 1) := by decide +kernel
theorem dX10_best_72 : decode cX10_best 72 = .ok (.iconst (-1), 1) := by decide +kernel
theorem dX10_best_73 : decode cX10_best 73 = .ok (.if_icmp .eq 18, 3) := by decide +kernel
theorem dX10_best_76 : decode cX10_best 76 = .ok (.aload_n 0, 1) := by decide +kernel
theorem dX10_best_77 : decode cX10_best 77 = .ok (.iload_n 3, 1) := by decide +kernel
theorem dX10_best_78 : decode cX10_best 78 = .ok (.iconst 1, 1) := by decide +kernel
theorem dX10_best_79 : decode cX10_best 79 = .ok (.invokevirtual 228, 3) := by decide +kernel
theorem dX10_best_82 : decode cX10_best 82 = .ok (.aload_n 0, 1) := by decide +kernel
theorem dX10_best_83 : decode cX10_best 83 = .ok (.iload_n 2, 1) := by decide +kernel
theorem dX10_best_84 : decode cX10_best 84 = .ok (.iconst 1, 1) := by decide +kernel
theorem dX10_best_85 : decode cX10_best 85 = .ok (.invokevirtual 228, 3) := by decide +kernel
theorem dX10_best_88 : decode cX10_best 88 = .ok (.if_icmp .le 5, 3) := by decide +kernel
theorem dX10_best_91 : decode cX10_best 91 = .ok (.iload_n 3, 1) := by decide +kernel
theorem dX10_best_92 : decode cX10_best 92 = .ok (.istore_n 2, 1) := by decide +kernel
theorem dX10_best_93 : decode cX10_best 93 = .ok (.iinc 3 1, 3) := by decide +kernel
theorem dX10_best_96 : decode cX10_best 96 = .ok (.goto (-81), 3) := by decide +kernel
theorem dX10_best_99 : decode cX10_best 99 = .ok (.iload_n 2, 1) := by decide +kernel
theorem dX10_best_100 : decode cX10_best 100 = .ok (.ireturn, 1) := by decide +kernel
theorem dX10_actsOf_0 : decode cX10_actsOf 0 = .ok (.iconst 0, 1) := by decide +kernel
theorem dX10_actsOf_1 : decode cX10_actsOf 1 = .ok (.istore_n 2, 1) := by decide +kernel
theorem dX10_actsOf_2 : decode cX10_actsOf 2 = .ok (.iconst 0, 1) := by decide +kernel
theorem dX10_actsOf_3 : decode cX10_actsOf 3 = .ok (.istore_n 3, 1) := by decide +kernel
theorem dX10_actsOf_4 : decode cX10_actsOf 4 = .ok (.iload_n 3, 1) := by decide +kernel
theorem dX10_actsOf_5 : decode cX10_actsOf 5 = .ok (.aload_n 0, 1) := by decide +kernel
theorem dX10_actsOf_6 : decode cX10_actsOf 6 = .ok (.getfield 9, 3) := by decide +kernel
theorem dX10_actsOf_9 : decode cX10_actsOf 9 = .ok (.iconst 0, 1) := by decide +kernel
theorem dX10_actsOf_10 : decode cX10_actsOf 10 = .ok (.iaload, 1) := by decide +kernel
theorem dX10_actsOf_11 : decode cX10_actsOf 11 = .ok (.if_icmp .ge 57, 3) := by decide +kernel
theorem dX10_actsOf_14 : decode cX10_actsOf 14 = .ok (.iload_n 2, 1) := by decide +kernel
theorem dX10_actsOf_15 : decode cX10_actsOf 15 = .ok (.aload_n 0, 1) := by decide +kernel
theorem dX10_actsOf_16 : decode cX10_actsOf 16 = .ok (.getfield 34, 3) := by decide +kernel
theorem dX10_actsOf_19 : decode cX10_actsOf 19 = .ok (.iload_n 3, 1) := by decide +kernel
theorem dX10_actsOf_20 : decode cX10_actsOf 20 = .ok (.iaload, 1) := by decide +kernel
theorem dX10_actsOf_21 : decode cX10_actsOf 21 = .ok (.iconst (-1), 1) := by decide +kernel
theorem dX10_actsOf_22 : decode cX10_actsOf 22 = .ok (.if_icmp .eq 37, 3) := by decide +kernel
theorem dX10_actsOf_25 : decode cX10_actsOf 25 = .ok (.aload_n 0, 1) := by decide +kernel
theorem dX10_actsOf_26 : decode cX10_actsOf 26 = .ok (.getfield 34, 3) := by decide +kernel
theorem dX10_actsOf_29 : decode cX10_actsOf 29 = .ok (.iload_n 3, 1) := by decide +kernel
theorem dX10_actsOf_30 : decode cX10_actsOf 30 = .ok (.iaload, 1) := by decide +kernel
theorem dX10_actsOf_31 : decode cX10_actsOf 31 = .ok (.bipush (-2), 2) := by decide +kernel
theorem dX10_actsOf_33 : decode cX10_actsOf 33 = .ok (.if_icmp .ne 7, 3) := by decide +kernel
theorem dX10_actsOf_36 : decode cX10_actsOf 36 = .ok (.iconst 1, 1) := by decide +kernel
theorem dX10_actsOf_37 : decode cX10_actsOf 37 = .ok (.goto 4, 3) := by decide +kernel
theorem dX10_actsOf_40 : decode cX10_actsOf 40 = .ok (.iconst 0, 1) := by decide +kernel
theorem dX10_actsOf_41 : decode cX10_actsOf 41 = .ok (.iload_n 1, 1) := by decide +kernel
theorem dX10_actsOf_42 : decode cX10_actsOf 42 = .ok (.ifCond .ne 7, 3) := by decide +kernel
theorem dX10_actsOf_45 : decode cX10_actsOf 45 = .ok (.iconst 1, 1) := by decide +kernel
theorem dX10_actsOf_46 : decode cX10_actsOf 46 = .ok (.goto 4, 3) := by decide +kernel
theorem dX10_actsOf_49 : decode cX10_actsOf 49 = .ok (.iconst 0, 1) := by decide +kernel
theorem dX10_actsOf_50 : decode cX10_actsOf 50 = .ok (.if_icmp .ne 9, 3) := by decide +kernel
theorem dX10_actsOf_53 : decode cX10_actsOf 53 = .ok (.iconst 1, 1) := by decide +kernel
theorem dX10_actsOf_54 : decode cX10_actsOf 54 = .ok (.iload_n 3, 1) := by decide +kernel
theorem dX10_actsOf_55 : decode cX10_actsOf 55 = .ok (.ishl, 1) := by decide +kernel
theorem dX10_actsOf_56 : decode cX10_actsOf 56 = .ok (.goto 4, 3) := by decide +kernel
theorem dX10_actsOf_59 : decode cX10_actsOf 59 = .ok (.iconst 0, 1) := by decide +kernel
theorem dX10_actsOf_60 : decode cX10_actsOf 60 = .ok (.ior, 1) := by decide +kernel
theorem dX10_actsOf_61 : decode cX10_actsOf 61 = .ok (.istore_n 2, 1) := by decide +kernel
theorem dX10_actsOf_62 : decode cX10_actsOf 62 = .ok (.iinc 3 1, 3) := by decide +kernel
theorem dX10_actsOf_65 : decode cX10_actsOf 65 = .ok (.goto (-61), 3) := by decide +kernel
theorem dX10_actsOf_68 : decode cX10_actsOf 68 = .ok (.iload_n 2, 1) := by decide +kernel
theorem dX10_actsOf_69 : decode cX10_actsOf 69 = .ok (.ireturn, 1) := by decide +kernel
theorem dX10_asked_0 : decode cX10_asked 0 = .ok (.aload_n 0, 1) := by decide +kernel
theorem dX10_asked_1 : decode cX10_asked 1 = .ok (.invokevirtual 289, 3) := by decide +kernel
theorem dX10_asked_4 : decode cX10_asked 4 = .ok (.ifCond .eq 11, 3) := by decide +kernel
theorem dX10_asked_7 : decode cX10_asked 7 = .ok (.aload_n 0, 1) := by decide +kernel
theorem dX10_asked_8 : decode cX10_asked 8 = .ok (.iconst 1, 1) := by decide +kernel
theorem dX10_asked_9 : decode cX10_asked 9 = .ok (.invokevirtual 295, 3) := by decide +kernel
theorem dX10_asked_12 : decode cX10_asked 12 = .ok (.goto 5, 3) := by decide +kernel
theorem dX10_asked_15 : decode cX10_asked 15 = .ok (.bipush (-2), 2) := by decide +kernel
theorem dX10_asked_17 : decode cX10_asked 17 = .ok (.ireturn, 1) := by decide +kernel
theorem dX10_fattened_0 : decode cX10_fattened 0 = .ok (.aload_n 0, 1) := by decide +kernel
theorem dX10_fattened_1 : decode cX10_fattened 1 = .ok (.invokevirtual 289, 3) := by decide +kernel
theorem dX10_fattened_4 : decode cX10_fattened 4 = .ok (.ifCond .eq 11, 3) := by decide +kernel
theorem dX10_fattened_7 : decode cX10_fattened 7 = .ok (.aload_n 0, 1) := by decide +kernel
theorem dX10_fattened_8 : decode cX10_fattened 8 = .ok (.iconst 0, 1) := by decide +kernel
theorem dX10_fattened_9 : decode cX10_fattened 9 = .ok (.invokevirtual 295, 3) := by decide +kernel
theorem dX10_fattened_12 : decode cX10_fattened 12 = .ok (.goto 5, 3) := by decide +kernel
theorem dX10_fattened_15 : decode cX10_fattened 15 = .ok (.bipush (-2), 2) := by decide +kernel
theorem dX10_fattened_17 : decode cX10_fattened 17 = .ok (.ireturn, 1) := by decide +kernel
theorem dX10_runOf_0 : decode cX10_runOf 0 = .ok (.iconst 0, 1) := by decide +kernel
theorem dX10_runOf_1 : decode cX10_runOf 1 = .ok (.istore_n 2, 1) := by decide +kernel
theorem dX10_runOf_2 : decode cX10_runOf 2 = .ok (.iconst 0, 1) := by decide +kernel
theorem dX10_runOf_3 : decode cX10_runOf 3 = .ok (.istore_n 3, 1) := by decide +kernel
theorem dX10_runOf_4 : decode cX10_runOf 4 = .ok (.iconst 0, 1) := by decide +kernel
theorem dX10_runOf_5 : decode cX10_runOf 5 = .ok (.istore 4, 2) := by decide +kernel
theorem dX10_runOf_7 : decode cX10_runOf 7 = .ok (.iload 4, 2) := by decide +kernel
theorem dX10_runOf_9 : decode cX10_runOf 9 = .ok (.aload_n 0, 1) := by decide +kernel
theorem dX10_runOf_10 : decode cX10_runOf 10 = .ok (.getfield 9, 3) := by decide +kernel
theorem dX10_runOf_13 : decode cX10_runOf 13 = .ok (.iconst 0, 1) := by decide +kernel
theorem dX10_runOf_14 : decode cX10_runOf 14 = .ok (.iaload, 1) := by decide +kernel
theorem dX10_runOf_15 : decode cX10_runOf 15 = .ok (.if_icmp .ge 33, 3) := by decide +kernel
theorem dX10_runOf_18 : decode cX10_runOf 18 = .ok (.iload_n 1, 1) := by decide +kernel
theorem dX10_runOf_19 : decode cX10_runOf 19 = .ok (.iload 4, 2) := by decide +kernel
theorem dX10_runOf_21 : decode cX10_runOf 21 = .ok (.invokestatic 230, 3) := by decide +kernel
theorem dX10_runOf_24 : decode cX10_runOf 24 = .ok (.iconst 1, 1) := by decide +kernel
theorem dX10_runOf_25 : decode cX10_runOf 25 = .ok (.if_icmp .ne 9, 3) := by decide +kernel
theorem dX10_runOf_28 : decode cX10_runOf 28 = .ok (.iload_n 3, 1) := by decide +kernel
theorem dX10_runOf_29 : decode cX10_runOf 29 = .ok (.iconst 1, 1) := by decide +kernel
theorem dX10_runOf_30 : decode cX10_runOf 30 = .ok (.iadd, 1) := by decide +kernel
theorem dX10_runOf_31 : decode cX10_runOf 31 = .ok (.goto 4, 3) := by decide +kernel
theorem dX10_runOf_34 : decode cX10_runOf 34 = .ok (.iconst 0, 1) := by decide +kernel
theorem dX10_runOf_35 : decode cX10_runOf 35 = .ok (.istore_n 3, 1) := by decide +kernel
theorem dX10_runOf_36 : decode cX10_runOf 36 = .ok (.iload_n 2, 1) := by decide +kernel
theorem dX10_runOf_37 : decode cX10_runOf 37 = .ok (.iload_n 3, 1) := by decide +kernel
theorem dX10_runOf_38 : decode cX10_runOf 38 = .ok (.invokestatic 298, 3) := by decide +kernel
theorem dX10_runOf_41 : decode cX10_runOf 41 = .ok (.istore_n 2, 1) := by decide +kernel
theorem dX10_runOf_42 : decode cX10_runOf 42 = .ok (.iinc 4 1, 3) := by decide +kernel
theorem dX10_runOf_45 : decode cX10_runOf 45 = .ok (.goto (-38), 3) := by decide +kernel
theorem dX10_runOf_48 : decode cX10_runOf 48 = .ok (.iload_n 2, 1) := by decide +kernel
theorem dX10_runOf_49 : decode cX10_runOf 49 = .ok (.ireturn, 1) := by decide +kernel
theorem dX10_allDays_0 : decode cX10_allDays 0 = .ok (.iconst 1, 1) := by decide +kernel
theorem dX10_allDays_1 : decode cX10_allDays 1 = .ok (.aload_n 0, 1) := by decide +kernel
theorem dX10_allDays_2 : decode cX10_allDays 2 = .ok (.getfield 9, 3) := by decide +kernel
theorem dX10_allDays_5 : decode cX10_allDays 5 = .ok (.iconst 0, 1) := by decide +kernel
theorem dX10_allDays_6 : decode cX10_allDays 6 = .ok (.iaload, 1) := by decide +kernel
theorem dX10_allDays_7 : decode cX10_allDays 7 = .ok (.ishl, 1) := by decide +kernel
theorem dX10_allDays_8 : decode cX10_allDays 8 = .ok (.iconst 1, 1) := by decide +kernel
theorem dX10_allDays_9 : decode cX10_allDays 9 = .ok (.isub, 1) := by decide +kernel
theorem dX10_allDays_10 : decode cX10_allDays 10 = .ok (.ireturn, 1) := by decide +kernel
theorem dX10_fast_0 : decode cX10_fast 0 = .ok (.aload_n 0, 1) := by decide +kernel
theorem dX10_fast_1 : decode cX10_fast 1 = .ok (.invokevirtual 289, 3) := by decide +kernel
theorem dX10_fast_4 : decode cX10_fast 4 = .ok (.ifCond .eq 28, 3) := by decide +kernel
theorem dX10_fast_7 : decode cX10_fast 7 = .ok (.aload_n 0, 1) := by decide +kernel
theorem dX10_fast_8 : decode cX10_fast 8 = .ok (.aload_n 0, 1) := by decide +kernel
theorem dX10_fast_9 : decode cX10_fast 9 = .ok (.invokevirtual 301, 3) := by decide +kernel
theorem dX10_fast_12 : decode cX10_fast 12 = .ok (.aload_n 0, 1) := by decide +kernel
theorem dX10_fast_13 : decode cX10_fast 13 = .ok (.iconst 0, 1) := by decide +kernel
theorem dX10_fast_14 : decode cX10_fast 14 = .ok (.invokevirtual 295, 3) := by decide +kernel
theorem dX10_fast_17 : decode cX10_fast 17 = .ok (.aload_n 0, 1) := by decide +kernel
theorem dX10_fast_18 : decode cX10_fast 18 = .ok (.iconst 1, 1) := by decide +kernel
theorem dX10_fast_19 : decode cX10_fast 19 = .ok (.invokevirtual 295, 3) := by decide +kernel
theorem dX10_fast_22 : decode cX10_fast 22 = .ok (.ior, 1) := by decide +kernel
theorem dX10_fast_23 : decode cX10_fast 23 = .ok (.iconst (-1), 1) := by decide +kernel
theorem dX10_fast_24 : decode cX10_fast 24 = .ok (.ixor, 1) := by decide +kernel
theorem dX10_fast_25 : decode cX10_fast 25 = .ok (.iand, 1) := by decide +kernel
theorem dX10_fast_26 : decode cX10_fast 26 = .ok (.invokevirtual 304, 3) := by decide +kernel
theorem dX10_fast_29 : decode cX10_fast 29 = .ok (.goto 5, 3) := by decide +kernel
theorem dX10_fast_32 : decode cX10_fast 32 = .ok (.bipush (-2), 2) := by decide +kernel
theorem dX10_fast_34 : decode cX10_fast 34 = .ok (.ireturn, 1) := by decide +kernel
theorem dX10_first_0 : decode cX10_first 0 = .ok (.aload_n 0, 1) := by decide +kernel
theorem dX10_first_1 : decode cX10_first 1 = .ok (.iload_n 1, 1) := by decide +kernel
theorem dX10_first_2 : decode cX10_first 2 = .ok (.invokevirtual 292, 3) := by decide +kernel
theorem dX10_first_5 : decode cX10_first 5 = .ok (.ifCond .ne 6, 3) := by decide +kernel
theorem dX10_first_8 : decode cX10_first 8 = .ok (.bipush (-2), 2) := by decide +kernel
theorem dX10_first_10 : decode cX10_first 10 = .ok (.ireturn, 1) := by decide +kernel
theorem dX10_first_11 : decode cX10_first 11 = .ok (.aload_n 0, 1) := by decide +kernel
theorem dX10_first_12 : decode cX10_first 12 = .ok (.iconst 0, 1) := by decide +kernel
theorem dX10_first_13 : decode cX10_first 13 = .ok (.invokevirtual 295, 3) := by decide +kernel
theorem dX10_first_16 : decode cX10_first 16 = .ok (.aload_n 0, 1) := by decide +kernel
theorem dX10_first_17 : decode cX10_first 17 = .ok (.iconst 1, 1) := by decide +kernel
theorem dX10_first_18 : decode cX10_first 18 = .ok (.invokevirtual 295, 3) := by decide +kernel
theorem dX10_first_21 : decode cX10_first 21 = .ok (.ior, 1) := by decide +kernel
theorem dX10_first_22 : decode cX10_first 22 = .ok (.iconst 1, 1) := by decide +kernel
theorem dX10_first_23 : decode cX10_first 23 = .ok (.iload_n 1, 1) := by decide +kernel
theorem dX10_first_24 : decode cX10_first 24 = .ok (.ishl, 1) := by decide +kernel
theorem dX10_first_25 : decode cX10_first 25 = .ok (.iconst 1, 1) := by decide +kernel
theorem dX10_first_26 : decode cX10_first 26 = .ok (.isub, 1) := by decide +kernel
theorem dX10_first_27 : decode cX10_first 27 = .ok (.iand, 1) := by decide +kernel
theorem dX10_first_28 : decode cX10_first 28 = .ok (.ifCond .ne 7, 3) := by decide +kernel
theorem dX10_first_31 : decode cX10_first 31 = .ok (.iconst 1, 1) := by decide +kernel
theorem dX10_first_32 : decode cX10_first 32 = .ok (.goto 4, 3) := by decide +kernel
theorem dX10_first_35 : decode cX10_first 35 = .ok (.iconst 0, 1) := by decide +kernel
theorem dX10_first_36 : decode cX10_first 36 = .ok (.istore_n 2, 1) := by decide +kernel
theorem dX10_first_37 : decode cX10_first 37 = .ok (.iload_n 2, 1) := by decide +kernel
theorem dX10_first_38 : decode cX10_first 38 = .ok (.ifCond .eq 16, 3) := by decide +kernel
theorem dX10_first_41 : decode cX10_first 41 = .ok (.iconst 0, 1) := by decide +kernel
theorem dX10_first_42 : decode cX10_first 42 = .ok (.aload_n 0, 1) := by decide +kernel
theorem dX10_first_43 : decode cX10_first 43 = .ok (.getfield 9, 3) := by decide +kernel
theorem dX10_first_46 : decode cX10_first 46 = .ok (.iconst 2, 1) := by decide +kernel
theorem dX10_first_47 : decode cX10_first 47 = .ok (.iaload, 1) := by decide +kernel
theorem dX10_first_48 : decode cX10_first 48 = .ok (.iload_n 1, 1) := by decide +kernel
theorem dX10_first_49 : decode cX10_first 49 = .ok (.isub, 1) := by decide +kernel
theorem dX10_first_50 : decode cX10_first 50 = .ok (.invokestatic 298, 3) := by decide +kernel
theorem dX10_first_53 : decode cX10_first 53 = .ok (.ireturn, 1) := by decide +kernel
theorem dX10_first_54 : decode cX10_first 54 = .ok (.aload_n 0, 1) := by decide +kernel
theorem dX10_first_55 : decode cX10_first 55 = .ok (.iload_n 1, 1) := by decide +kernel
theorem dX10_first_56 : decode cX10_first 56 = .ok (.invokevirtual 273, 3) := by decide +kernel
theorem dX10_first_59 : decode cX10_first 59 = .ok (.ifCond .eq 7, 3) := by decide +kernel
theorem dX10_first_62 : decode cX10_first 62 = .ok (.iconst 0, 1) := by decide +kernel
theorem dX10_first_63 : decode cX10_first 63 = .ok (.goto 4, 3) := by decide +kernel
theorem dX10_first_66 : decode cX10_first 66 = .ok (.iconst (-1), 1) := by decide +kernel
theorem dX10_first_67 : decode cX10_first 67 = .ok (.ireturn, 1) := by decide +kernel
theorem dX10_passed_0 : decode cX10_passed 0 = .ok (.aload_n 0, 1) := by decide +kernel
theorem dX10_passed_1 : decode cX10_passed 1 = .ok (.iload_n 1, 1) := by decide +kernel
theorem dX10_passed_2 : decode cX10_passed 2 = .ok (.invokevirtual 292, 3) := by decide +kernel
theorem dX10_passed_5 : decode cX10_passed 5 = .ok (.ifCond .eq 12, 3) := by decide +kernel
theorem dX10_passed_8 : decode cX10_passed 8 = .ok (.aload_n 0, 1) := by decide +kernel
theorem dX10_passed_9 : decode cX10_passed 9 = .ok (.getfield 40, 3) := by decide +kernel
theorem dX10_passed_12 : decode cX10_passed 12 = .ok (.iload_n 1, 1) := by decide +kernel
theorem dX10_passed_13 : decode cX10_passed 13 = .ok (.iaload, 1) := by decide +kernel
theorem dX10_passed_14 : decode cX10_passed 14 = .ok (.goto 5, 3) := by decide +kernel
theorem dX10_passed_17 : decode cX10_passed 17 = .ok (.bipush (-2), 2) := by decide +kernel
theorem dX10_passed_19 : decode cX10_passed 19 = .ok (.ireturn, 1) := by decide +kernel
theorem dX10_when_0 : decode cX10_when 0 = .ok (.aload_n 0, 1) := by decide +kernel
theorem dX10_when_1 : decode cX10_when 1 = .ok (.iload_n 1, 1) := by decide +kernel
theorem dX10_when_2 : decode cX10_when 2 = .ok (.invokevirtual 307, 3) := by decide +kernel
theorem dX10_when_5 : decode cX10_when 5 = .ok (.ifCond .eq 12, 3) := by decide +kernel
theorem dX10_when_8 : decode cX10_when 8 = .ok (.aload_n 0, 1) := by decide +kernel
theorem dX10_when_9 : decode cX10_when 9 = .ok (.getfield 43, 3) := by decide +kernel
theorem dX10_when_12 : decode cX10_when 12 = .ok (.iload_n 1, 1) := by decide +kernel
theorem dX10_when_13 : decode cX10_when 13 = .ok (.iaload, 1) := by decide +kernel
theorem dX10_when_14 : decode cX10_when 14 = .ok (.goto 5, 3) := by decide +kernel
theorem dX10_when_17 : decode cX10_when 17 = .ok (.bipush (-2), 2) := by decide +kernel
theorem dX10_when_19 : decode cX10_when 19 = .ok (.ireturn, 1) := by decide +kernel
theorem dX10_why_0 : decode cX10_why 0 = .ok (.aload_n 0, 1) := by decide +kernel
theorem dX10_why_1 : decode cX10_why 1 = .ok (.iload_n 1, 1) := by decide +kernel
theorem dX10_why_2 : decode cX10_why 2 = .ok (.invokevirtual 307, 3) := by decide +kernel
theorem dX10_why_5 : decode cX10_why 5 = .ok (.ifCond .ne 6, 3) := by decide +kernel
theorem dX10_why_8 : decode cX10_why 8 = .ok (.bipush (-2), 2) := by decide +kernel
theorem dX10_why_10 : decode cX10_why 10 = .ok (.ireturn, 1) := by decide +kernel
theorem dX10_why_11 : decode cX10_why 11 = .ok (.aload_n 0, 1) := by decide +kernel
theorem dX10_why_12 : decode cX10_why 12 = .ok (.getfield 46, 3) := by decide +kernel
theorem dX10_why_15 : decode cX10_why 15 = .ok (.iload_n 1, 1) := by decide +kernel
theorem dX10_why_16 : decode cX10_why 16 = .ok (.iaload, 1) := by decide +kernel
theorem dX10_why_17 : decode cX10_why 17 = .ok (.iconst (-1), 1) := by decide +kernel
theorem dX10_why_18 : decode cX10_why 18 = .ok (.if_icmp .ne 7, 3) := by decide +kernel
theorem dX10_why_21 : decode cX10_why 21 = .ok (.iconst (-1), 1) := by decide +kernel
theorem dX10_why_22 : decode cX10_why 22 = .ok (.goto 24, 3) := by decide +kernel
theorem dX10_why_25 : decode cX10_why 25 = .ok (.aload_n 0, 1) := by decide +kernel
theorem dX10_why_26 : decode cX10_why 26 = .ok (.iload_n 1, 1) := by decide +kernel
theorem dX10_why_27 : decode cX10_why 27 = .ok (.aload_n 0, 1) := by decide +kernel
theorem dX10_why_28 : decode cX10_why 28 = .ok (.getfield 46, 3) := by decide +kernel
theorem dX10_why_31 : decode cX10_why 31 = .ok (.iload_n 1, 1) := by decide +kernel
theorem dX10_why_32 : decode cX10_why 32 = .ok (.iaload, 1) := by decide +kernel
theorem dX10_why_33 : decode cX10_why 33 = .ok (.aload_n 0, 1) := by decide +kernel
theorem dX10_why_34 : decode cX10_why 34 = .ok (.aload_n 0, 1) := by decide +kernel
theorem dX10_why_35 : decode cX10_why 35 = .ok (.getfield 46, 3) := by decide +kernel
theorem dX10_why_38 : decode cX10_why 38 = .ok (.iload_n 1, 1) := by decide +kernel
theorem dX10_why_39 : decode cX10_why 39 = .ok (.iaload, 1) := by decide +kernel
theorem dX10_why_40 : decode cX10_why 40 = .ok (.invokevirtual 273, 3) := by decide +kernel
theorem dX10_why_43 : decode cX10_why 43 = .ok (.invokevirtual 279, 3) := by decide +kernel
theorem dX10_why_46 : decode cX10_why 46 = .ok (.ireturn, 1) := by decide +kernel
theorem dX10_worth_0 : decode cX10_worth 0 = .ok (.aload_n 0, 1) := by decide +kernel
theorem dX10_worth_1 : decode cX10_worth 1 = .ok (.invokevirtual 289, 3) := by decide +kernel
theorem dX10_worth_4 : decode cX10_worth 4 = .ok (.ifCond .eq 11, 3) := by decide +kernel
theorem dX10_worth_7 : decode cX10_worth 7 = .ok (.aload_n 0, 1) := by decide +kernel
theorem dX10_worth_8 : decode cX10_worth 8 = .ok (.iload_n 1, 1) := by decide +kernel
theorem dX10_worth_9 : decode cX10_worth 9 = .ok (.invokevirtual 242, 3) := by decide +kernel
theorem dX10_worth_12 : decode cX10_worth 12 = .ok (.ifCond .ne 6, 3) := by decide +kernel
theorem dX10_worth_15 : decode cX10_worth 15 = .ok (.bipush (-2), 2) := by decide +kernel
theorem dX10_worth_17 : decode cX10_worth 17 = .ok (.ireturn, 1) := by decide +kernel
theorem dX10_worth_18 : decode cX10_worth 18 = .ok (.iconst 0, 1) := by decide +kernel
theorem dX10_worth_19 : decode cX10_worth 19 = .ok (.istore_n 2, 1) := by decide +kernel
theorem dX10_worth_20 : decode cX10_worth 20 = .ok (.iconst 0, 1) := by decide +kernel
theorem dX10_worth_21 : decode cX10_worth 21 = .ok (.istore_n 3, 1) := by decide +kernel
theorem dX10_worth_22 : decode cX10_worth 22 = .ok (.iload_n 3, 1) := by decide +kernel
theorem dX10_worth_23 : decode cX10_worth 23 = .ok (.aload_n 0, 1) := by decide +kernel
theorem dX10_worth_24 : decode cX10_worth 24 = .ok (.getfield 9, 3) := by decide +kernel
theorem dX10_worth_27 : decode cX10_worth 27 = .ok (.iconst 5, 1) := by decide +kernel
theorem dX10_worth_28 : decode cX10_worth 28 = .ok (.iaload, 1) := by decide +kernel
theorem dX10_worth_29 : decode cX10_worth 29 = .ok (.if_icmp .ge 42, 3) := by decide +kernel
theorem dX10_worth_32 : decode cX10_worth 32 = .ok (.iload_n 2, 1) := by decide +kernel
theorem dX10_worth_33 : decode cX10_worth 33 = .ok (.aload_n 0, 1) := by decide +kernel
theorem dX10_worth_34 : decode cX10_worth 34 = .ok (.iload_n 3, 1) := by decide +kernel
theorem dX10_worth_35 : decode cX10_worth 35 = .ok (.iconst 0, 1) := by decide +kernel
theorem dX10_worth_36 : decode cX10_worth 36 = .ok (.invokevirtual 228, 3) := by decide +kernel
theorem dX10_worth_39 : decode cX10_worth 39 = .ok (.iload_n 1, 1) := by decide +kernel
theorem dX10_worth_40 : decode cX10_worth 40 = .ok (.if_icmp .ne 22, 3) := by decide +kernel
theorem dX10_worth_43 : decode cX10_worth 43 = .ok (.aload_n 0, 1) := by decide +kernel
theorem dX10_worth_44 : decode cX10_worth 44 = .ok (.getfield 43, 3) := by decide +kernel
theorem dX10_worth_47 : decode cX10_worth 47 = .ok (.iload_n 3, 1) := by decide +kernel
theorem dX10_worth_48 : decode cX10_worth 48 = .ok (.iaload, 1) := by decide +kernel
theorem dX10_worth_49 : decode cX10_worth 49 = .ok (.iconst (-1), 1) := by decide +kernel
theorem dX10_worth_50 : decode cX10_worth 50 = .ok (.if_icmp .eq 12, 3) := by decide +kernel
theorem dX10_worth_53 : decode cX10_worth 53 = .ok (.aload_n 0, 1) := by decide +kernel
theorem dX10_worth_54 : decode cX10_worth 54 = .ok (.iload_n 3, 1) := by decide +kernel
theorem dX10_worth_55 : decode cX10_worth 55 = .ok (.iconst 1, 1) := by decide +kernel
theorem dX10_worth_56 : decode cX10_worth 56 = .ok (.invokevirtual 228, 3) := by decide +kernel
theorem dX10_worth_59 : decode cX10_worth 59 = .ok (.goto 4, 3) := by decide +kernel
theorem dX10_worth_62 : decode cX10_worth 62 = .ok (.iconst 0, 1) := by decide +kernel
theorem dX10_worth_63 : decode cX10_worth 63 = .ok (.iadd, 1) := by decide +kernel
theorem dX10_worth_64 : decode cX10_worth 64 = .ok (.istore_n 2, 1) := by decide +kernel
theorem dX10_worth_65 : decode cX10_worth 65 = .ok (.iinc 3 1, 3) := by decide +kernel
theorem dX10_worth_68 : decode cX10_worth 68 = .ok (.goto (-46), 3) := by decide +kernel
theorem dX10_worth_71 : decode cX10_worth 71 = .ok (.iload_n 2, 1) := by decide +kernel
theorem dX10_worth_72 : decode cX10_worth 72 = .ok (.ireturn, 1) := by decide +kernel
theorem dX10_state_0 : decode cX10_state 0 = .ok (.iload_n 0, 1) := by decide +kernel
theorem dX10_state_1 : decode cX10_state 1 = .ok (.bipush 10, 2) := by decide +kernel
theorem dX10_state_3 : decode cX10_state 3 = .ok (.imul, 1) := by decide +kernel
theorem dX10_state_4 : decode cX10_state 4 = .ok (.iload_n 1, 1) := by decide +kernel
theorem dX10_state_5 : decode cX10_state 5 = .ok (.iadd, 1) := by decide +kernel
theorem dX10_state_6 : decode cX10_state 6 = .ok (.sipush 256, 3) := by decide +kernel
theorem dX10_state_9 : decode cX10_state 9 = .ok (.imul, 1) := by decide +kernel
theorem dX10_state_10 : decode cX10_state 10 = .ok (.iload_n 2, 1) := by decide +kernel
theorem dX10_state_11 : decode cX10_state 11 = .ok (.iadd, 1) := by decide +kernel
theorem dX10_state_12 : decode cX10_state 12 = .ok (.ireturn, 1) := by decide +kernel
theorem dX10_then_0 : decode cX10_then 0 = .ok (.aload_n 0, 1) := by decide +kernel
theorem dX10_then_1 : decode cX10_then 1 = .ok (.getfield 9, 3) := by decide +kernel
theorem dX10_then_4 : decode cX10_then 4 = .ok (.iconst 2, 1) := by decide +kernel
theorem dX10_then_5 : decode cX10_then 5 = .ok (.iaload, 1) := by decide +kernel
theorem dX10_then_6 : decode cX10_then 6 = .ok (.iload_n 1, 1) := by decide +kernel
theorem dX10_then_7 : decode cX10_then 7 = .ok (.iconst 1, 1) := by decide +kernel
theorem dX10_then_8 : decode cX10_then 8 = .ok (.iadd, 1) := by decide +kernel
theorem dX10_then_9 : decode cX10_then 9 = .ok (.invokestatic 131, 3) := by decide +kernel
theorem dX10_then_12 : decode cX10_then 12 = .ok (.ireturn, 1) := by decide +kernel
theorem dX10_layOwn_0 : decode cX10_layOwn 0 = .ok (.aload_n 0, 1) := by decide +kernel
theorem dX10_layOwn_1 : decode cX10_layOwn 1 = .ok (.iconst 0, 1) := by decide +kernel
theorem dX10_layOwn_2 : decode cX10_layOwn 2 = .ok (.putfield 310, 3) := by decide +kernel
theorem dX10_layOwn_5 : decode cX10_layOwn 5 = .ok (.iconst 0, 1) := by decide +kernel
theorem dX10_layOwn_6 : decode cX10_layOwn 6 = .ok (.istore_n 2, 1) := by decide +kernel
theorem dX10_layOwn_7 : decode cX10_layOwn 7 = .ok (.iload_n 2, 1) := by decide +kernel
theorem dX10_layOwn_8 : decode cX10_layOwn 8 = .ok (.aload_n 0, 1) := by decide +kernel
theorem dX10_layOwn_9 : decode cX10_layOwn 9 = .ok (.getfield 9, 3) := by decide +kernel
theorem dX10_layOwn_12 : decode cX10_layOwn 12 = .ok (.iconst 5, 1) := by decide +kernel
theorem dX10_layOwn_13 : decode cX10_layOwn 13 = .ok (.iaload, 1) := by decide +kernel
theorem dX10_layOwn_14 : decode cX10_layOwn 14 = .ok (.if_icmp .ge 74, 3) := by decide +kernel
theorem dX10_layOwn_17 : decode cX10_layOwn 17 = .ok (.iload_n 1, 1) := by decide +kernel
theorem dX10_layOwn_18 : decode cX10_layOwn 18 = .ok (.iconst 2, 1) := by decide +kernel
theorem dX10_layOwn_19 : decode cX10_layOwn 19 = .ok (.if_icmp .eq 13, 3) := by decide +kernel
theorem dX10_layOwn_22 : decode cX10_layOwn 22 = .ok (.aload_n 0, 1) := by decide +kernel
theorem dX10_layOwn_23 : decode cX10_layOwn 23 = .ok (.iload_n 2, 1) := by decide +kernel
theorem dX10_layOwn_24 : decode cX10_layOwn 24 = .ok (.iconst 0, 1) := by decide +kernel
theorem dX10_layOwn_25 : decode cX10_layOwn 25 = .ok (.invokevirtual 228, 3) := by decide +kernel
theorem dX10_layOwn_28 : decode cX10_layOwn 28 = .ok (.iload_n 1, 1) := by decide +kernel
theorem dX10_layOwn_29 : decode cX10_layOwn 29 = .ok (.if_icmp .ne 53, 3) := by decide +kernel
theorem dX10_layOwn_32 : decode cX10_layOwn 32 = .ok (.iload_n 2, 1) := by decide +kernel
theorem dX10_layOwn_33 : decode cX10_layOwn 33 = .ok (.aload_n 0, 1) := by decide +kernel
theorem dX10_layOwn_34 : decode cX10_layOwn 34 = .ok (.getfield 65, 3) := by decide +kernel
theorem dX10_layOwn_37 : decode cX10_layOwn 37 = .ok (.if_icmp .ne 6, 3) := by decide +kernel
theorem dX10_layOwn_40 : decode cX10_layOwn 40 = .ok (.goto 42, 3) := by decide +kernel
theorem dX10_layOwn_43 : decode cX10_layOwn 43 = .ok (.aload_n 0, 1) := by decide +kernel
theorem dX10_layOwn_44 : decode cX10_layOwn 44 = .ok (.getfield 62, 3) := by decide +kernel
theorem dX10_layOwn_47 : decode cX10_layOwn 47 = .ok (.aload_n 0, 1) := by decide +kernel
theorem dX10_layOwn_48 : decode cX10_layOwn 48 = .ok (.getfield 310, 3) := by decide +kernel
theorem dX10_layOwn_51 : decode cX10_layOwn 51 = .ok (.aload_n 0, 1) := by decide +kernel
theorem dX10_layOwn_52 : decode cX10_layOwn 52 = .ok (.aload_n 0, 1) := by decide +kernel
theorem dX10_layOwn_53 : decode cX10_layOwn 53 = .ok (.iload_n 2, 1) := by decide +kernel
theorem dX10_layOwn_54 : decode cX10_layOwn 54 = .ok (.iconst 0, 1) := by decide +kernel
theorem dX10_layOwn_55 : decode cX10_layOwn 55 = .ok (.invokevirtual 228, 3) := by decide +kernel
theorem dX10_layOwn_58 : decode cX10_layOwn 58 = .ok (.invokevirtual 313, 3) := by decide +kernel
theorem dX10_layOwn_61 : decode cX10_layOwn 61 = .ok (.iastore, 1) := by decide +kernel
theorem dX10_layOwn_62 : decode cX10_layOwn 62 = .ok (.aload_n 0, 1) := by decide +kernel
theorem dX10_layOwn_63 : decode cX10_layOwn 63 = .ok (.getfield 59, 3) := by decide +kernel
theorem dX10_layOwn_66 : decode cX10_layOwn 66 = .ok (.aload_n 0, 1) := by decide +kernel
theorem dX10_layOwn_67 : decode cX10_layOwn 67 = .ok (.getfield 310, 3) := by decide +kernel
theorem dX10_layOwn_70 : decode cX10_layOwn 70 = .ok (.iload_n 2, 1) := by decide +kernel
theorem dX10_layOwn_71 : decode cX10_layOwn 71 = .ok (.iastore, 1) := by decide +kernel
theorem dX10_layOwn_72 : decode cX10_layOwn 72 = .ok (.aload_n 0, 1) := by decide +kernel
theorem dX10_layOwn_73 : decode cX10_layOwn 73 = .ok (.dup, 1) := by decide +kernel
theorem dX10_layOwn_74 : decode cX10_layOwn 74 = .ok (.getfield 310, 3) := by decide +kernel
theorem dX10_layOwn_77 : decode cX10_layOwn 77 = .ok (.iconst 1, 1) := by decide +kernel
theorem dX10_layOwn_78 : decode cX10_layOwn 78 = .ok (.iadd, 1) := by decide +kernel
theorem dX10_layOwn_79 : decode cX10_layOwn 79 = .ok (.putfield 310, 3) := by decide +kernel
theorem dX10_layOwn_82 : decode cX10_layOwn 82 = .ok (.iinc 2 1, 3) := by decide +kernel
theorem dX10_layOwn_85 : decode cX10_layOwn 85 = .ok (.goto (-78), 3) := by decide +kernel
theorem dX10_layOwn_88 : decode cX10_layOwn 88 = .ok (.return_, 1) := by decide +kernel
theorem dX10_freeDays_0 : decode cX10_freeDays 0 = .ok (.aload_n 0, 1) := by decide +kernel
theorem dX10_freeDays_1 : decode cX10_freeDays 1 = .ok (.iconst 1, 1) := by decide +kernel
theorem dX10_freeDays_2 : decode cX10_freeDays 2 = .ok (.iload_n 1, 1) := by decide +kernel
theorem dX10_freeDays_3 : decode cX10_freeDays 3 = .ok (.isub, 1) := by decide +kernel
theorem dX10_freeDays_4 : decode cX10_freeDays 4 = .ok (.aload_n 0, 1) := by decide +kernel
theorem dX10_freeDays_5 : decode cX10_freeDays 5 = .ok (.invokevirtual 236, 3) := by decide +kernel
theorem dX10_freeDays_8 : decode cX10_freeDays 8 = .ok (.aload_n 0, 1) := by decide +kernel
theorem dX10_freeDays_9 : decode cX10_freeDays 9 = .ok (.getfield 316, 3) := by decide +kernel
theorem dX10_freeDays_12 : decode cX10_freeDays 12 = .ok (.iconst (-1), 1) := by decide +kernel
theorem dX10_freeDays_13 : decode cX10_freeDays 13 = .ok (.ixor, 1) := by decide +kernel
theorem dX10_freeDays_14 : decode cX10_freeDays 14 = .ok (.iand, 1) := by decide +kernel
theorem dX10_freeDays_15 : decode cX10_freeDays 15 = .ok (.invokevirtual 239, 3) := by decide +kernel
theorem dX10_freeDays_18 : decode cX10_freeDays 18 = .ok (.aload_n 0, 1) := by decide +kernel
theorem dX10_freeDays_19 : decode cX10_freeDays 19 = .ok (.getfield 319, 3) := by decide +kernel
theorem dX10_freeDays_22 : decode cX10_freeDays 22 = .ok (.ior, 1) := by decide +kernel
theorem dX10_freeDays_23 : decode cX10_freeDays 23 = .ok (.istore_n 2, 1) := by decide +kernel
theorem dX10_freeDays_24 : decode cX10_freeDays 24 = .ok (.iconst 1, 1) := by decide +kernel
theorem dX10_freeDays_25 : decode cX10_freeDays 25 = .ok (.aload_n 0, 1) := by decide +kernel
theorem dX10_freeDays_26 : decode cX10_freeDays 26 = .ok (.getfield 9, 3) := by decide +kernel
theorem dX10_freeDays_29 : decode cX10_freeDays 29 = .ok (.iconst 0, 1) := by decide +kernel
theorem dX10_freeDays_30 : decode cX10_freeDays 30 = .ok (.iaload, 1) := by decide +kernel
theorem dX10_freeDays_31 : decode cX10_freeDays 31 = .ok (.ishl, 1) := by decide +kernel
theorem dX10_freeDays_32 : decode cX10_freeDays 32 = .ok (.iconst 1, 1) := by decide +kernel
theorem dX10_freeDays_33 : decode cX10_freeDays 33 = .ok (.isub, 1) := by decide +kernel
theorem dX10_freeDays_34 : decode cX10_freeDays 34 = .ok (.iload_n 2, 1) := by decide +kernel
theorem dX10_freeDays_35 : decode cX10_freeDays 35 = .ok (.iconst (-1), 1) := by decide +kernel
theorem dX10_freeDays_36 : decode cX10_freeDays 36 = .ok (.ixor, 1) := by decide +kernel
theorem dX10_freeDays_37 : decode cX10_freeDays 37 = .ok (.iand, 1) := by decide +kernel
theorem dX10_freeDays_38 : decode cX10_freeDays 38 = .ok (.aload_n 0, 1) := by decide +kernel
theorem dX10_freeDays_39 : decode cX10_freeDays 39 = .ok (.getfield 9, 3) := by decide +kernel
theorem dX10_freeDays_42 : decode cX10_freeDays 42 = .ok (.bipush 8, 2) := by decide +kernel
theorem dX10_freeDays_44 : decode cX10_freeDays 44 = .ok (.iaload, 1) := by decide +kernel
theorem dX10_freeDays_45 : decode cX10_freeDays 45 = .ok (.aload_n 0, 1) := by decide +kernel
theorem dX10_freeDays_46 : decode cX10_freeDays 46 = .ok (.getfield 322, 3) := by decide +kernel
theorem dX10_freeDays_49 : decode cX10_freeDays 49 = .ok (.iconst (-1), 1) := by decide +kernel
theorem dX10_freeDays_50 : decode cX10_freeDays 50 = .ok (.ixor, 1) := by decide +kernel
theorem dX10_freeDays_51 : decode cX10_freeDays 51 = .ok (.iand, 1) := by decide +kernel
theorem dX10_freeDays_52 : decode cX10_freeDays 52 = .ok (.iconst (-1), 1) := by decide +kernel
theorem dX10_freeDays_53 : decode cX10_freeDays 53 = .ok (.ixor, 1) := by decide +kernel
theorem dX10_freeDays_54 : decode cX10_freeDays 54 = .ok (.iand, 1) := by decide +kernel
theorem dX10_freeDays_55 : decode cX10_freeDays 55 = .ok (.ireturn, 1) := by decide +kernel
theorem dX10_mayPass_0 : decode cX10_mayPass 0 = .ok (.iload_n 2, 1) := by decide +kernel
theorem dX10_mayPass_1 : decode cX10_mayPass 1 = .ok (.iload_n 1, 1) := by decide +kernel
theorem dX10_mayPass_2 : decode cX10_mayPass 2 = .ok (.invokestatic 230, 3) := by decide +kernel
theorem dX10_mayPass_5 : decode cX10_mayPass 5 = .ok (.iconst 1, 1) := by decide +kernel
theorem dX10_mayPass_6 : decode cX10_mayPass 6 = .ok (.if_icmp .ne 5, 3) := by decide +kernel
theorem dX10_mayPass_9 : decode cX10_mayPass 9 = .ok (.iconst 0, 1) := by decide +kernel
theorem dX10_mayPass_10 : decode cX10_mayPass 10 = .ok (.ireturn, 1) := by decide +kernel
theorem dX10_mayPass_11 : decode cX10_mayPass 11 = .ok (.aload_n 0, 1) := by decide +kernel
theorem dX10_mayPass_12 : decode cX10_mayPass 12 = .ok (.aload_n 0, 1) := by decide +kernel
theorem dX10_mayPass_13 : decode cX10_mayPass 13 = .ok (.getfield 59, 3) := by decide +kernel
theorem dX10_mayPass_16 : decode cX10_mayPass 16 = .ok (.iload_n 1, 1) := by decide +kernel
theorem dX10_mayPass_17 : decode cX10_mayPass 17 = .ok (.iaload, 1) := by decide +kernel
theorem dX10_mayPass_18 : decode cX10_mayPass 18 = .ok (.iconst 2, 1) := by decide +kernel
theorem dX10_mayPass_19 : decode cX10_mayPass 19 = .ok (.invokevirtual 228, 3) := by decide +kernel
theorem dX10_mayPass_22 : decode cX10_mayPass 22 = .ok (.istore_n 3, 1) := by decide +kernel
theorem dX10_mayPass_23 : decode cX10_mayPass 23 = .ok (.iload_n 3, 1) := by decide +kernel
theorem dX10_mayPass_24 : decode cX10_mayPass 24 = .ok (.iconst (-1), 1) := by decide +kernel
theorem dX10_mayPass_25 : decode cX10_mayPass 25 = .ok (.if_icmp .ne 5, 3) := by decide +kernel
theorem dX10_mayPass_28 : decode cX10_mayPass 28 = .ok (.iconst 1, 1) := by decide +kernel
theorem dX10_mayPass_29 : decode cX10_mayPass 29 = .ok (.ireturn, 1) := by decide +kernel
theorem dX10_mayPass_30 : decode cX10_mayPass 30 = .ok (.iconst 0, 1) := by decide +kernel
theorem dX10_mayPass_31 : decode cX10_mayPass 31 = .ok (.istore 4, 2) := by decide +kernel
theorem dX10_mayPass_33 : decode cX10_mayPass 33 = .ok (.iload 4, 2) := by decide +kernel
theorem dX10_mayPass_35 : decode cX10_mayPass 35 = .ok (.aload_n 0, 1) := by decide +kernel
theorem dX10_mayPass_36 : decode cX10_mayPass 36 = .ok (.getfield 310, 3) := by decide +kernel
theorem dX10_mayPass_39 : decode cX10_mayPass 39 = .ok (.if_icmp .ge 36, 3) := by decide +kernel
theorem dX10_mayPass_42 : decode cX10_mayPass 42 = .ok (.aload_n 0, 1) := by decide +kernel
theorem dX10_mayPass_43 : decode cX10_mayPass 43 = .ok (.getfield 59, 3) := by decide +kernel
theorem dX10_mayPass_46 : decode cX10_mayPass 46 = .ok (.iload 4, 2) := by decide +kernel
theorem dX10_mayPass_48 : decode cX10_mayPass 48 = .ok (.iaload, 1) := by decide +kernel
theorem dX10_mayPass_49 : decode cX10_mayPass 49 = .ok (.iload_n 3, 1) := by decide +kernel
theorem dX10_mayPass_50 : decode cX10_mayPass 50 = .ok (.if_icmp .ne 19, 3) := by decide +kernel
theorem dX10_mayPass_53 : decode cX10_mayPass 53 = .ok (.iload_n 2, 1) := by decide +kernel
theorem dX10_mayPass_54 : decode cX10_mayPass 54 = .ok (.iload 4, 2) := by decide +kernel
theorem dX10_mayPass_56 : decode cX10_mayPass 56 = .ok (.invokestatic 230, 3) := by decide +kernel
theorem dX10_mayPass_59 : decode cX10_mayPass 59 = .ok (.iconst 1, 1) := by decide +kernel
theorem dX10_mayPass_60 : decode cX10_mayPass 60 = .ok (.if_icmp .ne 7, 3) := by decide +kernel
theorem dX10_mayPass_63 : decode cX10_mayPass 63 = .ok (.iconst 1, 1) := by decide +kernel
theorem dX10_mayPass_64 : decode cX10_mayPass 64 = .ok (.goto 4, 3) := by decide +kernel
theorem dX10_mayPass_67 : decode cX10_mayPass 67 = .ok (.iconst 0, 1) := by decide +kernel
theorem dX10_mayPass_68 : decode cX10_mayPass 68 = .ok (.ireturn, 1) := by decide +kernel
theorem dX10_mayPass_69 : decode cX10_mayPass 69 = .ok (.iinc 4 1, 3) := by decide +kernel
theorem dX10_mayPass_72 : decode cX10_mayPass 72 = .ok (.goto (-39), 3) := by decide +kernel
theorem dX10_mayPass_75 : decode cX10_mayPass 75 = .ok (.iconst 0, 1) := by decide +kernel
theorem dX10_mayPass_76 : decode cX10_mayPass 76 = .ok (.ireturn, 1) := by decide +kernel
theorem dX10_layState_0 : decode cX10_layState 0 = .ok (.iload_n 1, 1) := by decide +kernel
theorem dX10_layState_1 : decode cX10_layState 1 = .ok (.iload_n 2, 1) := by decide +kernel
theorem dX10_layState_2 : decode cX10_layState 2 = .ok (.iload_n 3, 1) := by decide +kernel
theorem dX10_layState_3 : decode cX10_layState 3 = .ok (.invokestatic 325, 3) := by decide +kernel
theorem dX10_layState_6 : decode cX10_layState 6 = .ok (.istore 4, 2) := by decide +kernel
theorem dX10_layState_8 : decode cX10_layState 8 = .ok (.iload_n 1, 1) := by decide +kernel
theorem dX10_layState_9 : decode cX10_layState 9 = .ok (.iconst 1, 1) := by decide +kernel
theorem dX10_layState_10 : decode cX10_layState 10 = .ok (.iadd, 1) := by decide +kernel
theorem dX10_layState_11 : decode cX10_layState 11 = .ok (.aload_n 0, 1) := by decide +kernel
theorem dX10_layState_12 : decode cX10_layState 12 = .ok (.iload_n 2, 1) := by decide +kernel
theorem dX10_layState_13 : decode cX10_layState 13 = .ok (.invokevirtual 329, 3) := by decide +kernel
theorem dX10_layState_16 : decode cX10_layState 16 = .ok (.iload_n 3, 1) := by decide +kernel
theorem dX10_layState_17 : decode cX10_layState 17 = .ok (.invokestatic 325, 3) := by decide +kernel
theorem dX10_layState_20 : decode cX10_layState 20 = .ok (.istore 5, 2) := by decide +kernel
theorem dX10_layState_22 : decode cX10_layState 22 = .ok (.aload_n 0, 1) := by decide +kernel
theorem dX10_layState_23 : decode cX10_layState 23 = .ok (.getfield 50, 3) := by decide +kernel
theorem dX10_layState_26 : decode cX10_layState 26 = .ok (.iload 4, 2) := by decide +kernel
theorem dX10_layState_28 : decode cX10_layState 28 = .ok (.aload_n 0, 1) := by decide +kernel
theorem dX10_layState_29 : decode cX10_layState 29 = .ok (.getfield 50, 3) := by decide +kernel
theorem dX10_layState_32 : decode cX10_layState 32 = .ok (.iload 5, 2) := by decide +kernel
theorem dX10_layState_34 : decode cX10_layState 34 = .ok (.iaload, 1) := by decide +kernel
theorem dX10_layState_35 : decode cX10_layState 35 = .ok (.iastore, 1) := by decide +kernel
theorem dX10_layState_36 : decode cX10_layState 36 = .ok (.aload_n 0, 1) := by decide +kernel
theorem dX10_layState_37 : decode cX10_layState 37 = .ok (.getfield 53, 3) := by decide +kernel
theorem dX10_layState_40 : decode cX10_layState 40 = .ok (.iload 4, 2) := by decide +kernel
theorem dX10_layState_42 : decode cX10_layState 42 = .ok (.aload_n 0, 1) := by decide +kernel
theorem dX10_layState_43 : decode cX10_layState 43 = .ok (.getfield 53, 3) := by decide +kernel
theorem dX10_layState_46 : decode cX10_layState 46 = .ok (.iload 5, 2) := by decide +kernel
theorem dX10_layState_48 : decode cX10_layState 48 = .ok (.iaload, 1) := by decide +kernel
theorem dX10_layState_49 : decode cX10_layState 49 = .ok (.iastore, 1) := by decide +kernel
theorem dX10_layState_50 : decode cX10_layState 50 = .ok (.aload_n 0, 1) := by decide +kernel
theorem dX10_layState_51 : decode cX10_layState 51 = .ok (.getfield 56, 3) := by decide +kernel
theorem dX10_layState_54 : decode cX10_layState 54 = .ok (.iload 4, 2) := by decide +kernel
theorem dX10_layState_56 : decode cX10_layState 56 = .ok (.aload_n 0, 1) := by decide +kernel
theorem dX10_layState_57 : decode cX10_layState 57 = .ok (.getfield 56, 3) := by decide +kernel
theorem dX10_layState_60 : decode cX10_layState 60 = .ok (.iload 5, 2) := by decide +kernel
theorem dX10_layState_62 : decode cX10_layState 62 = .ok (.iaload, 1) := by decide +kernel
theorem dX10_layState_63 : decode cX10_layState 63 = .ok (.iastore, 1) := by decide +kernel
theorem dX10_layState_64 : decode cX10_layState 64 = .ok (.iload_n 2, 1) := by decide +kernel
theorem dX10_layState_65 : decode cX10_layState 65 = .ok (.aload_n 0, 1) := by decide +kernel
theorem dX10_layState_66 : decode cX10_layState 66 = .ok (.getfield 9, 3) := by decide +kernel
theorem dX10_layState_69 : decode cX10_layState 69 = .ok (.iconst 2, 1) := by decide +kernel
theorem dX10_layState_70 : decode cX10_layState 70 = .ok (.iaload, 1) := by decide +kernel
theorem dX10_layState_71 : decode cX10_layState 71 = .ok (.if_icmp .ge 4, 3) := by decide +kernel
theorem dX10_layState_74 : decode cX10_layState 74 = .ok (.return_, 1) := by decide +kernel
theorem dX10_layState_75 : decode cX10_layState 75 = .ok (.iconst 0, 1) := by decide +kernel
theorem dX10_layState_76 : decode cX10_layState 76 = .ok (.istore 6, 2) := by decide +kernel
theorem dX10_layState_78 : decode cX10_layState 78 = .ok (.iload 6, 2) := by decide +kernel
theorem dX10_layState_80 : decode cX10_layState 80 = .ok (.aload_n 0, 1) := by decide +kernel
theorem dX10_layState_81 : decode cX10_layState 81 = .ok (.getfield 310, 3) := by decide +kernel
theorem dX10_layState_84 : decode cX10_layState 84 = .ok (.if_icmp .ge 171, 3) := by decide +kernel
theorem dX10_layState_87 : decode cX10_layState 87 = .ok (.aload_n 0, 1) := by decide +kernel
theorem dX10_layState_88 : decode cX10_layState 88 = .ok (.getfield 62, 3) := by decide +kernel
theorem dX10_layState_91 : decode cX10_layState 91 = .ok (.iload 6, 2) := by decide +kernel
theorem dX10_layState_93 : decode cX10_layState 93 = .ok (.iaload, 1) := by decide +kernel
theorem dX10_layState_94 : decode cX10_layState 94 = .ok (.iload_n 1, 1) := by decide +kernel
theorem dX10_layState_95 : decode cX10_layState 95 = .ok (.invokestatic 230, 3) := by decide +kernel
theorem dX10_layState_98 : decode cX10_layState 98 = .ok (.ifCond .eq 151, 3) := by decide +kernel
theorem dX10_layState_101 : decode cX10_layState 101 = .ok (.aload_n 0, 1) := by decide +kernel
theorem dX10_layState_102 : decode cX10_layState 102 = .ok (.iload 6, 2) := by decide +kernel
theorem dX10_layState_104 : decode cX10_layState 104 = .ok (.iload_n 3, 1) := by decide +kernel
theorem dX10_layState_105 : decode cX10_layState 105 = .ok (.invokevirtual 332, 3) := by decide +kernel
theorem dX10_layState_108 : decode cX10_layState 108 = .ok (.ifCond .ne 6, 3) := by decide +kernel
theorem dX10_layState_111 : decode cX10_layState 111 = .ok (.goto 138, 3) := by decide +kernel
theorem dX10_layState_114 : decode cX10_layState 114 = .ok (.iload_n 1, 1) := by decide +kernel
theorem dX10_layState_115 : decode cX10_layState 115 = .ok (.iconst 1, 1) := by decide +kernel
theorem dX10_layState_116 : decode cX10_layState 116 = .ok (.iadd, 1) := by decide +kernel
theorem dX10_layState_117 : decode cX10_layState 117 = .ok (.iconst 1, 1) := by decide +kernel
theorem dX10_layState_118 : decode cX10_layState 118 = .ok (.iload_n 3, 1) := by decide +kernel
theorem dX10_layState_119 : decode cX10_layState 119 = .ok (.iconst 1, 1) := by decide +kernel
theorem dX10_layState_120 : decode cX10_layState 120 = .ok (.iload 6, 2) := by decide +kernel
theorem dX10_layState_122 : decode cX10_layState 122 = .ok (.ishl, 1) := by decide +kernel
theorem dX10_layState_123 : decode cX10_layState 123 = .ok (.ior, 1) := by decide +kernel
theorem dX10_layState_124 : decode cX10_layState 124 = .ok (.invokestatic 325, 3) := by decide +kernel
theorem dX10_layState_127 : decode cX10_layState 127 = .ok (.istore 7, 2) := by decide +kernel
theorem dX10_layState_129 : decode cX10_layState 129 = .ok (.aload_n 0, 1) := by decide +kernel
theorem dX10_layState_130 : decode cX10_layState 130 = .ok (.aload_n 0, 1) := by decide +kernel
theorem dX10_layState_131 : decode cX10_layState 131 = .ok (.getfield 59, 3) := by decide +kernel
theorem dX10_layState_134 : decode cX10_layState 134 = .ok (.iload 6, 2) := by decide +kernel
theorem dX10_layState_136 : decode cX10_layState 136 = .ok (.iaload, 1) := by decide +kernel
theorem dX10_layState_137 : decode cX10_layState 137 = .ok (.iconst 1, 1) := by decide +kernel
theorem dX10_layState_138 : decode cX10_layState 138 = .ok (.invokevirtual 228, 3) := by decide +kernel
theorem dX10_layState_141 : decode cX10_layState 141 = .ok (.aload_n 0, 1) := by decide +kernel
theorem dX10_layState_142 : decode cX10_layState 142 = .ok (.getfield 50, 3) := by decide +kernel
theorem dX10_layState_145 : decode cX10_layState 145 = .ok (.iload 7, 2) := by decide +kernel
theorem dX10_layState_147 : decode cX10_layState 147 = .ok (.iaload, 1) := by decide +kernel
theorem dX10_layState_148 : decode cX10_layState 148 = .ok (.iadd, 1) := by decide +kernel
theorem dX10_layState_149 : decode cX10_layState 149 = .ok (.istore 8, 2) := by decide +kernel
theorem dX10_layState_151 : decode cX10_layState 151 = .ok (.iload 8, 2) := by decide +kernel
theorem dX10_layState_153 : decode cX10_layState 153 = .ok (.aload_n 0, 1) := by decide +kernel
theorem dX10_layState_154 : decode cX10_layState 154 = .ok (.getfield 50, 3) := by decide +kernel
theorem dX10_layState_157 : decode cX10_layState 157 = .ok (.iload 4, 2) := by decide +kernel
theorem dX10_layState_159 : decode cX10_layState 159 = .ok (.iaload, 1) := by decide +kernel
theorem dX10_layState_160 : decode cX10_layState 160 = .ok (.if_icmp .le 11, 3) := by decide +kernel
theorem dX10_layState_163 : decode cX10_layState 163 = .ok (.aload_n 0, 1) := by decide +kernel
theorem dX10_layState_164 : decode cX10_layState 164 = .ok (.getfield 53, 3) := by decide +kernel
theorem dX10_layState_167 : decode cX10_layState 167 = .ok (.iload 4, 2) := by decide +kernel
theorem dX10_layState_169 : decode cX10_layState 169 = .ok (.iconst 0, 1) := by decide +kernel
theorem dX10_layState_170 : decode cX10_layState 170 = .ok (.iastore, 1) := by decide +kernel
theorem dX10_layState_171 : decode cX10_layState 171 = .ok (.aload_n 0, 1) := by decide +kernel
theorem dX10_layState_172 : decode cX10_layState 172 = .ok (.getfield 50, 3) := by decide +kernel
theorem dX10_layState_175 : decode cX10_layState 175 = .ok (.iload 4, 2) := by decide +kernel
theorem dX10_layState_177 : decode cX10_layState 177 = .ok (.aload_n 0, 1) := by decide +kernel
theorem dX10_layState_178 : decode cX10_layState 178 = .ok (.getfield 50, 3) := by decide +kernel
theorem dX10_layState_181 : decode cX10_layState 181 = .ok (.iload 4, 2) := by decide +kernel
theorem dX10_layState_183 : decode cX10_layState 183 = .ok (.iaload, 1) := by decide +kernel
theorem dX10_layState_184 : decode cX10_layState 184 = .ok (.iload 8, 2) := by decide +kernel
theorem dX10_layState_186 : decode cX10_layState 186 = .ok (.invokestatic 298, 3) := by decide +kernel
theorem dX10_layState_189 : decode cX10_layState 189 = .ok (.iastore, 1) := by decide +kernel
theorem dX10_layState_190 : decode cX10_layState 190 = .ok (.aload_n 0, 1) := by decide +kernel
theorem dX10_layState_191 : decode cX10_layState 191 = .ok (.getfield 53, 3) := by decide +kernel
theorem dX10_layState_194 : decode cX10_layState 194 = .ok (.iload 4, 2) := by decide +kernel
theorem dX10_layState_196 : decode cX10_layState 196 = .ok (.dup2, 1) := by decide +kernel
theorem dX10_layState_197 : decode cX10_layState 197 = .ok (.iaload, 1) := by decide +kernel
theorem dX10_layState_198 : decode cX10_layState 198 = .ok (.iload 8, 2) := by decide +kernel
theorem dX10_layState_200 : decode cX10_layState 200 = .ok (.aload_n 0, 1) := by decide +kernel
theorem dX10_layState_201 : decode cX10_layState 201 = .ok (.getfield 50, 3) := by decide +kernel
theorem dX10_layState_204 : decode cX10_layState 204 = .ok (.iload 4, 2) := by decide +kernel
theorem dX10_layState_206 : decode cX10_layState 206 = .ok (.iaload, 1) := by decide +kernel
theorem dX10_layState_207 : decode cX10_layState 207 = .ok (.if_icmp .ne 13, 3) := by decide +kernel
theorem dX10_layState_210 : decode cX10_layState 210 = .ok (.aload_n 0, 1) := by decide +kernel
theorem dX10_layState_211 : decode cX10_layState 211 = .ok (.getfield 53, 3) := by decide +kernel
theorem dX10_layState_214 : decode cX10_layState 214 = .ok (.iload 7, 2) := by decide +kernel
theorem dX10_layState_216 : decode cX10_layState 216 = .ok (.iaload, 1) := by decide +kernel
theorem dX10_layState_217 : decode cX10_layState 217 = .ok (.goto 4, 3) := by decide +kernel
theorem dX10_layState_220 : decode cX10_layState 220 = .ok (.iconst 0, 1) := by decide +kernel
theorem dX10_layState_221 : decode cX10_layState 221 = .ok (.iadd, 1) := by decide +kernel
theorem dX10_layState_222 : decode cX10_layState 222 = .ok (.iastore, 1) := by decide +kernel
theorem dX10_layState_223 : decode cX10_layState 223 = .ok (.aload_n 0, 1) := by decide +kernel
theorem dX10_layState_224 : decode cX10_layState 224 = .ok (.getfield 56, 3) := by decide +kernel
theorem dX10_layState_227 : decode cX10_layState 227 = .ok (.iload 4, 2) := by decide +kernel
theorem dX10_layState_229 : decode cX10_layState 229 = .ok (.aload_n 0, 1) := by decide +kernel
theorem dX10_layState_230 : decode cX10_layState 230 = .ok (.getfield 56, 3) := by decide +kernel
theorem dX10_layState_233 : decode cX10_layState 233 = .ok (.iload 4, 2) := by decide +kernel
theorem dX10_layState_235 : decode cX10_layState 235 = .ok (.iaload, 1) := by decide +kernel
theorem dX10_layState_236 : decode cX10_layState 236 = .ok (.iconst 1, 1) := by decide +kernel
theorem dX10_layState_237 : decode cX10_layState 237 = .ok (.aload_n 0, 1) := by decide +kernel
theorem dX10_layState_238 : decode cX10_layState 238 = .ok (.getfield 56, 3) := by decide +kernel
theorem dX10_layState_241 : decode cX10_layState 241 = .ok (.iload 7, 2) := by decide +kernel
theorem dX10_layState_243 : decode cX10_layState 243 = .ok (.iaload, 1) := by decide +kernel
theorem dX10_layState_244 : decode cX10_layState 244 = .ok (.iadd, 1) := by decide +kernel
theorem dX10_layState_245 : decode cX10_layState 245 = .ok (.invokestatic 298, 3) := by decide +kernel
theorem dX10_layState_248 : decode cX10_layState 248 = .ok (.iastore, 1) := by decide +kernel
theorem dX10_layState_249 : decode cX10_layState 249 = .ok (.iinc 6 1, 3) := by decide +kernel
theorem dX10_layState_252 : decode cX10_layState 252 = .ok (.goto (-174), 3) := by decide +kernel
theorem dX10_layState_255 : decode cX10_layState 255 = .ok (.return_, 1) := by decide +kernel
theorem dX10_startState_0 : decode cX10_startState 0 = .ok (.iconst 0, 1) := by decide +kernel
theorem dX10_startState_1 : decode cX10_startState 1 = .ok (.aload_n 0, 1) := by decide +kernel
theorem dX10_startState_2 : decode cX10_startState 2 = .ok (.getfield 9, 3) := by decide +kernel
theorem dX10_startState_5 : decode cX10_startState 5 = .ok (.iconst 2, 1) := by decide +kernel
theorem dX10_startState_6 : decode cX10_startState 6 = .ok (.iaload, 1) := by decide +kernel
theorem dX10_startState_7 : decode cX10_startState 7 = .ok (.aload_n 0, 1) := by decide +kernel
theorem dX10_startState_8 : decode cX10_startState 8 = .ok (.getfield 9, 3) := by decide +kernel
theorem dX10_startState_11 : decode cX10_startState 11 = .ok (.iconst 1, 1) := by decide +kernel
theorem dX10_startState_12 : decode cX10_startState 12 = .ok (.iaload, 1) := by decide +kernel
theorem dX10_startState_13 : decode cX10_startState 13 = .ok (.invokestatic 131, 3) := by decide +kernel
theorem dX10_startState_16 : decode cX10_startState 16 = .ok (.iconst 0, 1) := by decide +kernel
theorem dX10_startState_17 : decode cX10_startState 17 = .ok (.invokestatic 325, 3) := by decide +kernel
theorem dX10_startState_20 : decode cX10_startState 20 = .ok (.ireturn, 1) := by decide +kernel
theorem dX10_layPlans_0 : decode cX10_layPlans 0 = .ok (.aload_n 0, 1) := by decide +kernel
theorem dX10_layPlans_1 : decode cX10_layPlans 1 = .ok (.iload_n 1, 1) := by decide +kernel
theorem dX10_layPlans_2 : decode cX10_layPlans 2 = .ok (.invokevirtual 336, 3) := by decide +kernel
theorem dX10_layPlans_5 : decode cX10_layPlans 5 = .ok (.aload_n 0, 1) := by decide +kernel
theorem dX10_layPlans_6 : decode cX10_layPlans 6 = .ok (.getfield 9, 3) := by decide +kernel
theorem dX10_layPlans_9 : decode cX10_layPlans 9 = .ok (.iconst 0, 1) := by decide +kernel
theorem dX10_layPlans_10 : decode cX10_layPlans 10 = .ok (.iaload, 1) := by decide +kernel
theorem dX10_layPlans_11 : decode cX10_layPlans 11 = .ok (.istore_n 2, 1) := by decide +kernel
theorem dX10_layPlans_12 : decode cX10_layPlans 12 = .ok (.iload_n 2, 1) := by decide +kernel
theorem dX10_layPlans_13 : decode cX10_layPlans 13 = .ok (.ifCond .lt 107, 3) := by decide +kernel
theorem dX10_layPlans_16 : decode cX10_layPlans 16 = .ok (.iconst 0, 1) := by decide +kernel
theorem dX10_layPlans_17 : decode cX10_layPlans 17 = .ok (.istore_n 3, 1) := by decide +kernel
theorem dX10_layPlans_18 : decode cX10_layPlans 18 = .ok (.iload_n 3, 1) := by decide +kernel
theorem dX10_layPlans_19 : decode cX10_layPlans 19 = .ok (.aload_n 0, 1) := by decide +kernel
theorem dX10_layPlans_20 : decode cX10_layPlans 20 = .ok (.getfield 9, 3) := by decide +kernel
theorem dX10_layPlans_23 : decode cX10_layPlans 23 = .ok (.iconst 2, 1) := by decide +kernel
theorem dX10_layPlans_24 : decode cX10_layPlans 24 = .ok (.iaload, 1) := by decide +kernel
theorem dX10_layPlans_25 : decode cX10_layPlans 25 = .ok (.if_icmp .gt 89, 3) := by decide +kernel
theorem dX10_layPlans_28 : decode cX10_layPlans 28 = .ok (.iconst 0, 1) := by decide +kernel
theorem dX10_layPlans_29 : decode cX10_layPlans 29 = .ok (.istore 4, 2) := by decide +kernel
theorem dX10_layPlans_31 : decode cX10_layPlans 31 = .ok (.iload 4, 2) := by decide +kernel
theorem dX10_layPlans_33 : decode cX10_layPlans 33 = .ok (.iconst 1, 1) := by decide +kernel
theorem dX10_layPlans_34 : decode cX10_layPlans 34 = .ok (.aload_n 0, 1) := by decide +kernel
theorem dX10_layPlans_35 : decode cX10_layPlans 35 = .ok (.getfield 310, 3) := by decide +kernel
theorem dX10_layPlans_38 : decode cX10_layPlans 38 = .ok (.ishl, 1) := by decide +kernel
theorem dX10_layPlans_39 : decode cX10_layPlans 39 = .ok (.if_icmp .ge 69, 3) := by decide +kernel
theorem dX10_layPlans_42 : decode cX10_layPlans 42 = .ok (.iload_n 2, 1) := by decide +kernel
theorem dX10_layPlans_43 : decode cX10_layPlans 43 = .ok (.aload_n 0, 1) := by decide +kernel
theorem dX10_layPlans_44 : decode cX10_layPlans 44 = .ok (.getfield 9, 3) := by decide +kernel
theorem dX10_layPlans_47 : decode cX10_layPlans 47 = .ok (.iconst 0, 1) := by decide +kernel
theorem dX10_layPlans_48 : decode cX10_layPlans 48 = .ok (.iaload, 1) := by decide +kernel
theorem dX10_layPlans_49 : decode cX10_layPlans 49 = .ok (.if_icmp .ge 14, 3) := by decide +kernel
theorem dX10_layPlans_52 : decode cX10_layPlans 52 = .ok (.aload_n 0, 1) := by decide +kernel
theorem dX10_layPlans_53 : decode cX10_layPlans 53 = .ok (.iload_n 2, 1) := by decide +kernel
theorem dX10_layPlans_54 : decode cX10_layPlans 54 = .ok (.iload_n 3, 1) := by decide +kernel
theorem dX10_layPlans_55 : decode cX10_layPlans 55 = .ok (.iload 4, 2) := by decide +kernel
theorem dX10_layPlans_57 : decode cX10_layPlans 57 = .ok (.invokevirtual 339, 3) := by decide +kernel
theorem dX10_layPlans_60 : decode cX10_layPlans 60 = .ok (.goto 42, 3) := by decide +kernel
theorem dX10_layPlans_63 : decode cX10_layPlans 63 = .ok (.aload_n 0, 1) := by decide +kernel
theorem dX10_layPlans_64 : decode cX10_layPlans 64 = .ok (.getfield 50, 3) := by decide +kernel
theorem dX10_layPlans_67 : decode cX10_layPlans 67 = .ok (.iload_n 2, 1) := by decide +kernel
theorem dX10_layPlans_68 : decode cX10_layPlans 68 = .ok (.iload_n 3, 1) := by decide +kernel
theorem dX10_layPlans_69 : decode cX10_layPlans 69 = .ok (.iload 4, 2) := by decide +kernel
theorem dX10_layPlans_71 : decode cX10_layPlans 71 = .ok (.invokestatic 325, 3) := by decide +kernel
theorem dX10_layPlans_74 : decode cX10_layPlans 74 = .ok (.iconst 0, 1) := by decide +kernel
theorem dX10_layPlans_75 : decode cX10_layPlans 75 = .ok (.iastore, 1) := by decide +kernel
theorem dX10_layPlans_76 : decode cX10_layPlans 76 = .ok (.aload_n 0, 1) := by decide +kernel
theorem dX10_layPlans_77 : decode cX10_layPlans 77 = .ok (.getfield 53, 3) := by decide +kernel
theorem dX10_layPlans_80 : decode cX10_layPlans 80 = .ok (.iload_n 2, 1) := by decide +kernel
theorem dX10_layPlans_81 : decode cX10_layPlans 81 = .ok (.iload_n 3, 1) := by decide +kernel
theorem dX10_layPlans_82 : decode cX10_layPlans 82 = .ok (.iload 4, 2) := by decide +kernel
theorem dX10_layPlans_84 : decode cX10_layPlans 84 = .ok (.invokestatic 325, 3) := by decide +kernel
theorem dX10_layPlans_87 : decode cX10_layPlans 87 = .ok (.iconst 1, 1) := by decide +kernel
theorem dX10_layPlans_88 : decode cX10_layPlans 88 = .ok (.iastore, 1) := by decide +kernel
theorem dX10_layPlans_89 : decode cX10_layPlans 89 = .ok (.aload_n 0, 1) := by decide +kernel
theorem dX10_layPlans_90 : decode cX10_layPlans 90 = .ok (.getfield 56, 3) := by decide +kernel
theorem dX10_layPlans_93 : decode cX10_layPlans 93 = .ok (.iload_n 2, 1) := by decide +kernel
theorem dX10_layPlans_94 : decode cX10_layPlans 94 = .ok (.iload_n 3, 1) := by decide +kernel
theorem dX10_layPlans_95 : decode cX10_layPlans 95 = .ok (.iload 4, 2) := by decide +kernel
theorem dX10_layPlans_97 : decode cX10_layPlans 97 = .ok (.invokestatic 325, 3) := by decide +kernel
theorem dX10_layPlans_100 : decode cX10_layPlans 100 = .ok (.iconst 0, 1) := by decide +kernel
theorem dX10_layPlans_101 : decode cX10_layPlans 101 = .ok (.iastore, 1) := by decide +kernel
theorem dX10_layPlans_102 : decode cX10_layPlans 102 = .ok (.iinc 4 1, 3) := by decide +kernel
theorem dX10_layPlans_105 : decode cX10_layPlans 105 = .ok (.goto (-74), 3) := by decide +kernel
theorem dX10_layPlans_108 : decode cX10_layPlans 108 = .ok (.iinc 3 1, 3) := by decide +kernel
theorem dX10_layPlans_111 : decode cX10_layPlans 111 = .ok (.goto (-93), 3) := by decide +kernel
theorem dX10_layPlans_114 : decode cX10_layPlans 114 = .ok (.iinc 2 (-1), 3) := by decide +kernel
theorem dX10_layPlans_117 : decode cX10_layPlans 117 = .ok (.goto (-105), 3) := by decide +kernel
theorem dX10_layPlans_120 : decode cX10_layPlans 120 = .ok (.aload_n 0, 1) := by decide +kernel
theorem dX10_layPlans_121 : decode cX10_layPlans 121 = .ok (.getfield 50, 3) := by decide +kernel
theorem dX10_layPlans_124 : decode cX10_layPlans 124 = .ok (.aload_n 0, 1) := by decide +kernel
theorem dX10_layPlans_125 : decode cX10_layPlans 125 = .ok (.invokevirtual 343, 3) := by decide +kernel
theorem dX10_layPlans_128 : decode cX10_layPlans 128 = .ok (.iaload, 1) := by decide +kernel
theorem dX10_layPlans_129 : decode cX10_layPlans 129 = .ok (.ireturn, 1) := by decide +kernel
theorem dX10_plan_0 : decode cX10_plan 0 = .ok (.aload_n 0, 1) := by decide +kernel
theorem dX10_plan_1 : decode cX10_plan 1 = .ok (.iload_n 1, 1) := by decide +kernel
theorem dX10_plan_2 : decode cX10_plan 2 = .ok (.invokevirtual 242, 3) := by decide +kernel
theorem dX10_plan_5 : decode cX10_plan 5 = .ok (.ifCond .eq 11, 3) := by decide +kernel
theorem dX10_plan_8 : decode cX10_plan 8 = .ok (.aload_n 0, 1) := by decide +kernel
theorem dX10_plan_9 : decode cX10_plan 9 = .ok (.iload_n 1, 1) := by decide +kernel
theorem dX10_plan_10 : decode cX10_plan 10 = .ok (.invokevirtual 346, 3) := by decide +kernel
theorem dX10_plan_13 : decode cX10_plan 13 = .ok (.goto 5, 3) := by decide +kernel
theorem dX10_plan_16 : decode cX10_plan 16 = .ok (.bipush (-2), 2) := by decide +kernel
theorem dX10_plan_18 : decode cX10_plan 18 = .ok (.ireturn, 1) := by decide +kernel
theorem dX10_ways_0 : decode cX10_ways 0 = .ok (.aload_n 0, 1) := by decide +kernel
theorem dX10_ways_1 : decode cX10_ways 1 = .ok (.iload_n 1, 1) := by decide +kernel
theorem dX10_ways_2 : decode cX10_ways 2 = .ok (.invokevirtual 242, 3) := by decide +kernel
theorem dX10_ways_5 : decode cX10_ways 5 = .ok (.ifCond .ne 6, 3) := by decide +kernel
theorem dX10_ways_8 : decode cX10_ways 8 = .ok (.bipush (-2), 2) := by decide +kernel
theorem dX10_ways_10 : decode cX10_ways 10 = .ok (.ireturn, 1) := by decide +kernel
theorem dX10_ways_11 : decode cX10_ways 11 = .ok (.aload_n 0, 1) := by decide +kernel
theorem dX10_ways_12 : decode cX10_ways 12 = .ok (.iload_n 1, 1) := by decide +kernel
theorem dX10_ways_13 : decode cX10_ways 13 = .ok (.invokevirtual 346, 3) := by decide +kernel
theorem dX10_ways_16 : decode cX10_ways 16 = .ok (.pop, 1) := by decide +kernel
theorem dX10_ways_17 : decode cX10_ways 17 = .ok (.aload_n 0, 1) := by decide +kernel
theorem dX10_ways_18 : decode cX10_ways 18 = .ok (.getfield 53, 3) := by decide +kernel
theorem dX10_ways_21 : decode cX10_ways 21 = .ok (.aload_n 0, 1) := by decide +kernel
theorem dX10_ways_22 : decode cX10_ways 22 = .ok (.invokevirtual 343, 3) := by decide +kernel
theorem dX10_ways_25 : decode cX10_ways 25 = .ok (.iaload, 1) := by decide +kernel
theorem dX10_ways_26 : decode cX10_ways 26 = .ok (.ireturn, 1) := by decide +kernel
theorem dX10_many_0 : decode cX10_many 0 = .ok (.aload_n 0, 1) := by decide +kernel
theorem dX10_many_1 : decode cX10_many 1 = .ok (.iload_n 1, 1) := by decide +kernel
theorem dX10_many_2 : decode cX10_many 2 = .ok (.invokevirtual 242, 3) := by decide +kernel
theorem dX10_many_5 : decode cX10_many 5 = .ok (.ifCond .ne 6, 3) := by decide +kernel
theorem dX10_many_8 : decode cX10_many 8 = .ok (.bipush (-2), 2) := by decide +kernel
theorem dX10_many_10 : decode cX10_many 10 = .ok (.ireturn, 1) := by decide +kernel
theorem dX10_many_11 : decode cX10_many 11 = .ok (.aload_n 0, 1) := by decide +kernel
theorem dX10_many_12 : decode cX10_many 12 = .ok (.iload_n 1, 1) := by decide +kernel
theorem dX10_many_13 : decode cX10_many 13 = .ok (.invokevirtual 346, 3) := by decide +kernel
theorem dX10_many_16 : decode cX10_many 16 = .ok (.pop, 1) := by decide +kernel
theorem dX10_many_17 : decode cX10_many 17 = .ok (.aload_n 0, 1) := by decide +kernel
theorem dX10_many_18 : decode cX10_many 18 = .ok (.getfield 56, 3) := by decide +kernel
theorem dX10_many_21 : decode cX10_many 21 = .ok (.aload_n 0, 1) := by decide +kernel
theorem dX10_many_22 : decode cX10_many 22 = .ok (.invokevirtual 343, 3) := by decide +kernel
theorem dX10_many_25 : decode cX10_many 25 = .ok (.iaload, 1) := by decide +kernel
theorem dX10_many_26 : decode cX10_many 26 = .ok (.ireturn, 1) := by decide +kernel
theorem dX10_planned_0 : decode cX10_planned 0 = .ok (.aload_n 0, 1) := by decide +kernel
theorem dX10_planned_1 : decode cX10_planned 1 = .ok (.iload_n 1, 1) := by decide +kernel
theorem dX10_planned_2 : decode cX10_planned 2 = .ok (.invokevirtual 242, 3) := by decide +kernel
theorem dX10_planned_5 : decode cX10_planned 5 = .ok (.ifCond .eq 12, 3) := by decide +kernel
theorem dX10_planned_8 : decode cX10_planned 8 = .ok (.aload_n 0, 1) := by decide +kernel
theorem dX10_planned_9 : decode cX10_planned 9 = .ok (.iload_n 2, 1) := by decide +kernel
theorem dX10_planned_10 : decode cX10_planned 10 = .ok (.i2l, 1) := by decide +kernel
theorem dX10_planned_11 : decode cX10_planned 11 = .ok (.invokevirtual 248, 3) := by decide +kernel
theorem dX10_planned_14 : decode cX10_planned 14 = .ok (.ifCond .ne 6, 3) := by decide +kernel
theorem dX10_planned_17 : decode cX10_planned 17 = .ok (.bipush (-2), 2) := by decide +kernel
theorem dX10_planned_19 : decode cX10_planned 19 = .ok (.ireturn, 1) := by decide +kernel
theorem dX10_planned_20 : decode cX10_planned 20 = .ok (.aload_n 0, 1) := by decide +kernel
theorem dX10_planned_21 : decode cX10_planned 21 = .ok (.iload_n 1, 1) := by decide +kernel
theorem dX10_planned_22 : decode cX10_planned 22 = .ok (.invokevirtual 346, 3) := by decide +kernel
theorem dX10_planned_25 : decode cX10_planned 25 = .ok (.pop, 1) := by decide +kernel
theorem dX10_planned_26 : decode cX10_planned 26 = .ok (.aload_n 0, 1) := by decide +kernel
theorem dX10_planned_27 : decode cX10_planned 27 = .ok (.getfield 9, 3) := by decide +kernel
theorem dX10_planned_30 : decode cX10_planned 30 = .ok (.iconst 2, 1) := by decide +kernel
theorem dX10_planned_31 : decode cX10_planned 31 = .ok (.iaload, 1) := by decide +kernel
theorem dX10_planned_32 : decode cX10_planned 32 = .ok (.aload_n 0, 1) := by decide +kernel
theorem dX10_planned_33 : decode cX10_planned 33 = .ok (.getfield 9, 3) := by decide +kernel
theorem dX10_planned_36 : decode cX10_planned 36 = .ok (.iconst 1, 1) := by decide +kernel
theorem dX10_planned_37 : decode cX10_planned 37 = .ok (.iaload, 1) := by decide +kernel
theorem dX10_planned_38 : decode cX10_planned 38 = .ok (.invokestatic 131, 3) := by decide +kernel
theorem dX10_planned_41 : decode cX10_planned 41 = .ok (.istore_n 3, 1) := by decide +kernel
theorem dX10_planned_42 : decode cX10_planned 42 = .ok (.iconst 0, 1) := by decide +kernel
theorem dX10_planned_43 : decode cX10_planned 43 = .ok (.istore 4, 2) := by decide +kernel
theorem dX10_planned_45 : decode cX10_planned 45 = .ok (.iconst (-1), 1) := by decide +kernel
theorem dX10_planned_46 : decode cX10_planned 46 = .ok (.istore 5, 2) := by decide +kernel
theorem dX10_planned_48 : decode cX10_planned 48 = .ok (.iconst 0, 1) := by decide +kernel
theorem dX10_planned_49 : decode cX10_planned 49 = .ok (.istore 6, 2) := by decide +kernel
theorem dX10_planned_51 : decode cX10_planned 51 = .ok (.iload 6, 2) := by decide +kernel
theorem dX10_planned_53 : decode cX10_planned 53 = .ok (.iload_n 2, 1) := by decide +kernel
theorem dX10_planned_54 : decode cX10_planned 54 = .ok (.if_icmp .gt 164, 3) := by decide +kernel
theorem dX10_planned_57 : decode cX10_planned 57 = .ok (.iload 6, 2) := by decide +kernel
theorem dX10_planned_59 : decode cX10_planned 59 = .ok (.iload_n 3, 1) := by decide +kernel
theorem dX10_planned_60 : decode cX10_planned 60 = .ok (.iload 4, 2) := by decide +kernel
theorem dX10_planned_62 : decode cX10_planned 62 = .ok (.invokestatic 325, 3) := by decide +kernel
theorem dX10_planned_65 : decode cX10_planned 65 = .ok (.istore 7, 2) := by decide +kernel
theorem dX10_planned_67 : decode cX10_planned 67 = .ok (.iconst (-1), 1) := by decide +kernel
theorem dX10_planned_68 : decode cX10_planned 68 = .ok (.istore 5, 2) := by decide +kernel
theorem dX10_planned_70 : decode cX10_planned 70 = .ok (.aload_n 0, 1) := by decide +kernel
theorem dX10_planned_71 : decode cX10_planned 71 = .ok (.getfield 50, 3) := by decide +kernel
theorem dX10_planned_74 : decode cX10_planned 74 = .ok (.iload 6, 2) := by decide +kernel
theorem dX10_planned_76 : decode cX10_planned 76 = .ok (.iconst 1, 1) := by decide +kernel
theorem dX10_planned_77 : decode cX10_planned 77 = .ok (.iadd, 1) := by decide +kernel
theorem dX10_planned_78 : decode cX10_planned 78 = .ok (.aload_n 0, 1) := by decide +kernel
theorem dX10_planned_79 : decode cX10_planned 79 = .ok (.iload_n 3, 1) := by decide +kernel
theorem dX10_planned_80 : decode cX10_planned 80 = .ok (.invokevirtual 329, 3) := by decide +kernel
theorem dX10_planned_83 : decode cX10_planned 83 = .ok (.iload 4, 2) := by decide +kernel
theorem dX10_planned_85 : decode cX10_planned 85 = .ok (.invokestatic 325, 3) := by decide +kernel
theorem dX10_planned_88 : decode cX10_planned 88 = .ok (.iaload, 1) := by decide +kernel
theorem dX10_planned_89 : decode cX10_planned 89 = .ok (.aload_n 0, 1) := by decide +kernel
theorem dX10_planned_90 : decode cX10_planned 90 = .ok (.getfield 50, 3) := by decide +kernel
theorem dX10_planned_93 : decode cX10_planned 93 = .ok (.iload 7, 2) := by decide +kernel
theorem dX10_planned_95 : decode cX10_planned 95 = .ok (.iaload, 1) := by decide +kernel
theorem dX10_planned_96 : decode cX10_planned 96 = .ok (.if_icmp .eq 81, 3) := by decide +kernel
theorem dX10_planned_99 : decode cX10_planned 99 = .ok (.iconst 0, 1) := by decide +kernel
theorem dX10_planned_100 : decode cX10_planned 100 = .ok (.istore 5, 2) := by decide +kernel
theorem dX10_planned_102 : decode cX10_planned 102 = .ok (.aload_n 0, 1) := by decide +kernel
theorem dX10_planned_103 : decode cX10_planned 103 = .ok (.getfield 62, 3) := by decide +kernel
theorem dX10_planned_106 : decode cX10_planned 106 = .ok (.iload 5, 2) := by decide +kernel
theorem dX10_planned_108 : decode cX10_planned 108 = .ok (.iaload, 1) := by decide +kernel
theorem dX10_planned_109 : decode cX10_planned 109 = .ok (.iload 6, 2) := by decide +kernel
theorem dX10_planned_111 : decode cX10_planned 111 = .ok (.invokestatic 230, 3) := by decide +kernel
theorem dX10_planned_114 : decode cX10_planned 114 = .ok (.ifCond .eq 57, 3) := by decide +kernel
theorem dX10_planned_117 : decode cX10_planned 117 = .ok (.aload_n 0, 1) := by decide +kernel
theorem dX10_planned_118 : decode cX10_planned 118 = .ok (.iload 5, 2) := by decide +kernel
theorem dX10_planned_120 : decode cX10_planned 120 = .ok (.iload 4, 2) := by decide +kernel
theorem dX10_planned_122 : decode cX10_planned 122 = .ok (.invokevirtual 332, 3) := by decide +kernel
theorem dX10_planned_125 : decode cX10_planned 125 = .ok (.ifCond .eq 46, 3) := by decide +kernel
theorem dX10_planned_128 : decode cX10_planned 128 = .ok (.aload_n 0, 1) := by decide +kernel
theorem dX10_planned_129 : decode cX10_planned 129 = .ok (.aload_n 0, 1) := by decide +kernel
theorem dX10_planned_130 : decode cX10_planned 130 = .ok (.getfield 59, 3) := by decide +kernel
theorem dX10_planned_133 : decode cX10_planned 133 = .ok (.iload 5, 2) := by decide +kernel
theorem dX10_planned_135 : decode cX10_planned 135 = .ok (.iaload, 1) := by decide +kernel
theorem dX10_planned_136 : decode cX10_planned 136 = .ok (.iconst 1, 1) := by decide +kernel
theorem dX10_planned_137 : decode cX10_planned 137 = .ok (.invokevirtual 228, 3) := by decide +kernel
theorem dX10_planned_140 : decode cX10_planned 140 = .ok (.aload_n 0, 1) := by decide +kernel
theorem dX10_planned_141 : decode cX10_planned 141 = .ok (.getfield 50, 3) := by decide +kernel
theorem dX10_planned_144 : decode cX10_planned 144 = .ok (.iload 6, 2) := by decide +kernel
theorem dX10_planned_146 : decode cX10_planned 146 = .ok (.iconst 1, 1) := by decide +kernel
theorem dX10_planned_147 : decode cX10_planned 147 = .ok (.iadd, 1) := by decide +kernel
theorem dX10_planned_148 : decode cX10_planned 148 = .ok (.iconst 1, 1) := by decide +kernel
theorem dX10_planned_149 : decode cX10_planned 149 = .ok (.iload 4, 2) := by decide +kernel
theorem dX10_planned_151 : decode cX10_planned 151 = .ok (.iconst 1, 1) := by decide +kernel
theorem dX10_planned_152 : decode cX10_planned 152 = .ok (.iload 5, 2) := by decide +kernel
theorem dX10_planned_154 : decode cX10_planned 154 = .ok (.ishl, 1) := by decide +kernel
theorem dX10_planned_155 : decode cX10_planned 155 = .ok (.ior, 1) := by decide +kernel
theorem dX10_planned_156 : decode cX10_planned 156 = .ok (.invokestatic 325, 3) := by decide +kernel
theorem dX10_planned_159 : decode cX10_planned 159 = .ok (.iaload, 1) := by decide +kernel
theorem dX10_planned_160 : decode cX10_planned 160 = .ok (.iadd, 1) := by decide +kernel
theorem dX10_planned_161 : decode cX10_planned 161 = .ok (.aload_n 0, 1) := by decide +kernel
theorem dX10_planned_162 : decode cX10_planned 162 = .ok (.getfield 50, 3) := by decide +kernel
theorem dX10_planned_165 : decode cX10_planned 165 = .ok (.iload 7, 2) := by decide +kernel
theorem dX10_planned_167 : decode cX10_planned 167 = .ok (.iaload, 1) := by decide +kernel
theorem dX10_planned_168 : decode cX10_planned 168 = .ok (.if_icmp .eq 9, 3) := by decide +kernel
theorem dX10_planned_171 : decode cX10_planned 171 = .ok (.iinc 5 1, 3) := by decide +kernel
theorem dX10_planned_174 : decode cX10_planned 174 = .ok (.goto (-72), 3) := by decide +kernel
theorem dX10_planned_177 : decode cX10_planned 177 = .ok (.iload 5, 2) := by decide +kernel
theorem dX10_planned_179 : decode cX10_planned 179 = .ok (.iconst (-1), 1) := by decide +kernel
theorem dX10_planned_180 : decode cX10_planned 180 = .ok (.if_icmp .ne 11, 3) := by decide +kernel
theorem dX10_planned_183 : decode cX10_planned 183 = .ok (.aload_n 0, 1) := by decide +kernel
theorem dX10_planned_184 : decode cX10_planned 184 = .ok (.iload_n 3, 1) := by decide +kernel
theorem dX10_planned_185 : decode cX10_planned 185 = .ok (.invokevirtual 329, 3) := by decide +kernel
theorem dX10_planned_188 : decode cX10_planned 188 = .ok (.goto 4, 3) := by decide +kernel
theorem dX10_planned_191 : decode cX10_planned 191 = .ok (.iconst 1, 1) := by decide +kernel
theorem dX10_planned_192 : decode cX10_planned 192 = .ok (.istore_n 3, 1) := by decide +kernel
theorem dX10_planned_193 : decode cX10_planned 193 = .ok (.iload 4, 2) := by decide +kernel
theorem dX10_planned_195 : decode cX10_planned 195 = .ok (.iload 5, 2) := by decide +kernel
theorem dX10_planned_197 : decode cX10_planned 197 = .ok (.iconst (-1), 1) := by decide +kernel
theorem dX10_planned_198 : decode cX10_planned 198 = .ok (.if_icmp .ne 7, 3) := by decide +kernel
theorem dX10_planned_201 : decode cX10_planned 201 = .ok (.iconst 0, 1) := by decide +kernel
theorem dX10_planned_202 : decode cX10_planned 202 = .ok (.goto 7, 3) := by decide +kernel
theorem dX10_planned_205 : decode cX10_planned 205 = .ok (.iconst 1, 1) := by decide +kernel
theorem dX10_planned_206 : decode cX10_planned 206 = .ok (.iload 5, 2) := by decide +kernel
theorem dX10_planned_208 : decode cX10_planned 208 = .ok (.ishl, 1) := by decide +kernel
theorem dX10_planned_209 : decode cX10_planned 209 = .ok (.ior, 1) := by decide +kernel
theorem dX10_planned_210 : decode cX10_planned 210 = .ok (.istore 4, 2) := by decide +kernel
theorem dX10_planned_212 : decode cX10_planned 212 = .ok (.iinc 6 1, 3) := by decide +kernel
theorem dX10_planned_215 : decode cX10_planned 215 = .ok (.goto (-164), 3) := by decide +kernel
theorem dX10_planned_218 : decode cX10_planned 218 = .ok (.iload 5, 2) := by decide +kernel
theorem dX10_planned_220 : decode cX10_planned 220 = .ok (.iconst (-1), 1) := by decide +kernel
theorem dX10_planned_221 : decode cX10_planned 221 = .ok (.if_icmp .ne 7, 3) := by decide +kernel
theorem dX10_planned_224 : decode cX10_planned 224 = .ok (.iconst (-1), 1) := by decide +kernel
theorem dX10_planned_225 : decode cX10_planned 225 = .ok (.goto 10, 3) := by decide +kernel
theorem dX10_planned_228 : decode cX10_planned 228 = .ok (.aload_n 0, 1) := by decide +kernel
theorem dX10_planned_229 : decode cX10_planned 229 = .ok (.getfield 59, 3) := by decide +kernel
theorem dX10_planned_232 : decode cX10_planned 232 = .ok (.iload 5, 2) := by decide +kernel
theorem dX10_planned_234 : decode cX10_planned 234 = .ok (.iaload, 1) := by decide +kernel
theorem dX10_planned_235 : decode cX10_planned 235 = .ok (.ireturn, 1) := by decide +kernel
theorem dX10_together_0 : decode cX10_together 0 = .ok (.aload_n 0, 1) := by decide +kernel
theorem dX10_together_1 : decode cX10_together 1 = .ok (.invokevirtual 96, 3) := by decide +kernel
theorem dX10_together_4 : decode cX10_together 4 = .ok (.ifCond .eq 11, 3) := by decide +kernel
theorem dX10_together_7 : decode cX10_together 7 = .ok (.aload_n 0, 1) := by decide +kernel
theorem dX10_together_8 : decode cX10_together 8 = .ok (.iconst 2, 1) := by decide +kernel
theorem dX10_together_9 : decode cX10_together 9 = .ok (.invokevirtual 346, 3) := by decide +kernel
theorem dX10_together_12 : decode cX10_together 12 = .ok (.goto 5, 3) := by decide +kernel
theorem dX10_together_15 : decode cX10_together 15 = .ok (.bipush (-2), 2) := by decide +kernel
theorem dX10_together_17 : decode cX10_together 17 = .ok (.ireturn, 1) := by decide +kernel
theorem dX10_withoutOf_0 : decode cX10_withoutOf 0 = .ok (.aload_n 0, 1) := by decide +kernel
theorem dX10_withoutOf_1 : decode cX10_withoutOf 1 = .ok (.iload_n 1, 1) := by decide +kernel
theorem dX10_withoutOf_2 : decode cX10_withoutOf 2 = .ok (.putfield 65, 3) := by decide +kernel
theorem dX10_withoutOf_5 : decode cX10_withoutOf 5 = .ok (.aload_n 0, 1) := by decide +kernel
theorem dX10_withoutOf_6 : decode cX10_withoutOf 6 = .ok (.aload_n 0, 1) := by decide +kernel
theorem dX10_withoutOf_7 : decode cX10_withoutOf 7 = .ok (.iload_n 1, 1) := by decide +kernel
theorem dX10_withoutOf_8 : decode cX10_withoutOf 8 = .ok (.iconst 0, 1) := by decide +kernel
theorem dX10_withoutOf_9 : decode cX10_withoutOf 9 = .ok (.invokevirtual 228, 3) := by decide +kernel
theorem dX10_withoutOf_12 : decode cX10_withoutOf 12 = .ok (.invokevirtual 346, 3) := by decide +kernel
theorem dX10_withoutOf_15 : decode cX10_withoutOf 15 = .ok (.istore_n 2, 1) := by decide +kernel
theorem dX10_withoutOf_16 : decode cX10_withoutOf 16 = .ok (.aload_n 0, 1) := by decide +kernel
theorem dX10_withoutOf_17 : decode cX10_withoutOf 17 = .ok (.iconst (-1), 1) := by decide +kernel
theorem dX10_withoutOf_18 : decode cX10_withoutOf 18 = .ok (.putfield 65, 3) := by decide +kernel
theorem dX10_withoutOf_21 : decode cX10_withoutOf 21 = .ok (.iload_n 2, 1) := by decide +kernel
theorem dX10_withoutOf_22 : decode cX10_withoutOf 22 = .ok (.ireturn, 1) := by decide +kernel
theorem dX10_without_0 : decode cX10_without 0 = .ok (.aload_n 0, 1) := by decide +kernel
theorem dX10_without_1 : decode cX10_without 1 = .ok (.iload_n 1, 1) := by decide +kernel
theorem dX10_without_2 : decode cX10_without 2 = .ok (.invokevirtual 225, 3) := by decide +kernel
theorem dX10_without_5 : decode cX10_without 5 = .ok (.ifCond .eq 11, 3) := by decide +kernel
theorem dX10_without_8 : decode cX10_without 8 = .ok (.aload_n 0, 1) := by decide +kernel
theorem dX10_without_9 : decode cX10_without 9 = .ok (.iload_n 1, 1) := by decide +kernel
theorem dX10_without_10 : decode cX10_without 10 = .ok (.invokevirtual 349, 3) := by decide +kernel
theorem dX10_without_13 : decode cX10_without 13 = .ok (.goto 5, 3) := by decide +kernel
theorem dX10_without_16 : decode cX10_without 16 = .ok (.bipush (-2), 2) := by decide +kernel
theorem dX10_without_18 : decode cX10_without 18 = .ok (.ireturn, 1) := by decide +kernel
theorem dX10_value_0 : decode cX10_value 0 = .ok (.aload_n 0, 1) := by decide +kernel
theorem dX10_value_1 : decode cX10_value 1 = .ok (.iload_n 1, 1) := by decide +kernel
theorem dX10_value_2 : decode cX10_value 2 = .ok (.invokevirtual 225, 3) := by decide +kernel
theorem dX10_value_5 : decode cX10_value 5 = .ok (.ifCond .eq 22, 3) := by decide +kernel
theorem dX10_value_8 : decode cX10_value 8 = .ok (.aload_n 0, 1) := by decide +kernel
theorem dX10_value_9 : decode cX10_value 9 = .ok (.aload_n 0, 1) := by decide +kernel
theorem dX10_value_10 : decode cX10_value 10 = .ok (.iload_n 1, 1) := by decide +kernel
theorem dX10_value_11 : decode cX10_value 11 = .ok (.iconst 0, 1) := by decide +kernel
theorem dX10_value_12 : decode cX10_value 12 = .ok (.invokevirtual 228, 3) := by decide +kernel
theorem dX10_value_15 : decode cX10_value 15 = .ok (.invokevirtual 346, 3) := by decide +kernel
theorem dX10_value_18 : decode cX10_value 18 = .ok (.aload_n 0, 1) := by decide +kernel
theorem dX10_value_19 : decode cX10_value 19 = .ok (.iload_n 1, 1) := by decide +kernel
theorem dX10_value_20 : decode cX10_value 20 = .ok (.invokevirtual 349, 3) := by decide +kernel
theorem dX10_value_23 : decode cX10_value 23 = .ok (.isub, 1) := by decide +kernel
theorem dX10_value_24 : decode cX10_value 24 = .ok (.goto 5, 3) := by decide +kernel
theorem dX10_value_27 : decode cX10_value 27 = .ok (.bipush (-2), 2) := by decide +kernel
theorem dX10_value_29 : decode cX10_value 29 = .ok (.ireturn, 1) := by decide +kernel
theorem dX10_needsOf_0 : decode cX10_needsOf 0 = .ok (.iconst 0, 1) := by decide +kernel
theorem dX10_needsOf_1 : decode cX10_needsOf 1 = .ok (.istore_n 2, 1) := by decide +kernel
theorem dX10_needsOf_2 : decode cX10_needsOf 2 = .ok (.aload_n 0, 1) := by decide +kernel
theorem dX10_needsOf_3 : decode cX10_needsOf 3 = .ok (.iload_n 1, 1) := by decide +kernel
theorem dX10_needsOf_4 : decode cX10_needsOf 4 = .ok (.iconst 2, 1) := by decide +kernel
theorem dX10_needsOf_5 : decode cX10_needsOf 5 = .ok (.invokevirtual 228, 3) := by decide +kernel
theorem dX10_needsOf_8 : decode cX10_needsOf 8 = .ok (.istore_n 3, 1) := by decide +kernel
theorem dX10_needsOf_9 : decode cX10_needsOf 9 = .ok (.iload_n 3, 1) := by decide +kernel
theorem dX10_needsOf_10 : decode cX10_needsOf 10 = .ok (.iconst (-1), 1) := by decide +kernel
theorem dX10_needsOf_11 : decode cX10_needsOf 11 = .ok (.if_icmp .eq 19, 3) := by decide +kernel
theorem dX10_needsOf_14 : decode cX10_needsOf 14 = .ok (.iload_n 2, 1) := by decide +kernel
theorem dX10_needsOf_15 : decode cX10_needsOf 15 = .ok (.iconst 1, 1) := by decide +kernel
theorem dX10_needsOf_16 : decode cX10_needsOf 16 = .ok (.iload_n 3, 1) := by decide +kernel
theorem dX10_needsOf_17 : decode cX10_needsOf 17 = .ok (.ishl, 1) := by decide +kernel
theorem dX10_needsOf_18 : decode cX10_needsOf 18 = .ok (.ior, 1) := by decide +kernel
theorem dX10_needsOf_19 : decode cX10_needsOf 19 = .ok (.istore_n 2, 1) := by decide +kernel
theorem dX10_needsOf_20 : decode cX10_needsOf 20 = .ok (.aload_n 0, 1) := by decide +kernel
theorem dX10_needsOf_21 : decode cX10_needsOf 21 = .ok (.iload_n 3, 1) := by decide +kernel
theorem dX10_needsOf_22 : decode cX10_needsOf 22 = .ok (.iconst 2, 1) := by decide +kernel
theorem dX10_needsOf_23 : decode cX10_needsOf 23 = .ok (.invokevirtual 228, 3) := by decide +kernel
theorem dX10_needsOf_26 : decode cX10_needsOf 26 = .ok (.istore_n 3, 1) := by decide +kernel
theorem dX10_needsOf_27 : decode cX10_needsOf 27 = .ok (.goto (-18), 3) := by decide +kernel
theorem dX10_needsOf_30 : decode cX10_needsOf 30 = .ok (.iload_n 2, 1) := by decide +kernel
theorem dX10_needsOf_31 : decode cX10_needsOf 31 = .ok (.ireturn, 1) := by decide +kernel
theorem dX10_needs__0 : decode cX10_needs_ 0 = .ok (.aload_n 0, 1) := by decide +kernel
theorem dX10_needs__1 : decode cX10_needs_ 1 = .ok (.iload_n 1, 1) := by decide +kernel
theorem dX10_needs__2 : decode cX10_needs_ 2 = .ok (.invokevirtual 225, 3) := by decide +kernel
theorem dX10_needs__5 : decode cX10_needs_ 5 = .ok (.ifCond .eq 11, 3) := by decide +kernel
theorem dX10_needs__8 : decode cX10_needs_ 8 = .ok (.aload_n 0, 1) := by decide +kernel
theorem dX10_needs__9 : decode cX10_needs_ 9 = .ok (.iload_n 1, 1) := by decide +kernel
theorem dX10_needs__10 : decode cX10_needs_ 10 = .ok (.invokevirtual 352, 3) := by decide +kernel
theorem dX10_needs__13 : decode cX10_needs_ 13 = .ok (.goto 5, 3) := by decide +kernel
theorem dX10_needs__16 : decode cX10_needs_ 16 = .ok (.bipush (-2), 2) := by decide +kernel
theorem dX10_needs__18 : decode cX10_needs_ 18 = .ok (.ireturn, 1) := by decide +kernel
theorem dX10_heirs_0 : decode cX10_heirs 0 = .ok (.aload_n 0, 1) := by decide +kernel
theorem dX10_heirs_1 : decode cX10_heirs 1 = .ok (.iload_n 1, 1) := by decide +kernel
theorem dX10_heirs_2 : decode cX10_heirs 2 = .ok (.invokevirtual 225, 3) := by decide +kernel
theorem dX10_heirs_5 : decode cX10_heirs 5 = .ok (.ifCond .ne 6, 3) := by decide +kernel
theorem dX10_heirs_8 : decode cX10_heirs 8 = .ok (.bipush (-2), 2) := by decide +kernel
theorem dX10_heirs_10 : decode cX10_heirs 10 = .ok (.ireturn, 1) := by decide +kernel
theorem dX10_heirs_11 : decode cX10_heirs 11 = .ok (.iconst 0, 1) := by decide +kernel
theorem dX10_heirs_12 : decode cX10_heirs 12 = .ok (.istore_n 2, 1) := by decide +kernel
theorem dX10_heirs_13 : decode cX10_heirs 13 = .ok (.iconst 0, 1) := by decide +kernel
theorem dX10_heirs_14 : decode cX10_heirs 14 = .ok (.istore_n 3, 1) := by decide +kernel
theorem dX10_heirs_15 : decode cX10_heirs 15 = .ok (.iload_n 3, 1) := by decide +kernel
theorem dX10_heirs_16 : decode cX10_heirs 16 = .ok (.aload_n 0, 1) := by decide +kernel
theorem dX10_heirs_17 : decode cX10_heirs 17 = .ok (.getfield 9, 3) := by decide +kernel
theorem dX10_heirs_20 : decode cX10_heirs 20 = .ok (.iconst 5, 1) := by decide +kernel
theorem dX10_heirs_21 : decode cX10_heirs 21 = .ok (.iaload, 1) := by decide +kernel
theorem dX10_heirs_22 : decode cX10_heirs 22 = .ok (.if_icmp .ge 23, 3) := by decide +kernel
theorem dX10_heirs_25 : decode cX10_heirs 25 = .ok (.iload_n 2, 1) := by decide +kernel
theorem dX10_heirs_26 : decode cX10_heirs 26 = .ok (.aload_n 0, 1) := by decide +kernel
theorem dX10_heirs_27 : decode cX10_heirs 27 = .ok (.iload_n 3, 1) := by decide +kernel
theorem dX10_heirs_28 : decode cX10_heirs 28 = .ok (.invokevirtual 352, 3) := by decide +kernel
theorem dX10_heirs_31 : decode cX10_heirs 31 = .ok (.iload_n 1, 1) := by decide +kernel
theorem dX10_heirs_32 : decode cX10_heirs 32 = .ok (.invokestatic 230, 3) := by decide +kernel
theorem dX10_heirs_35 : decode cX10_heirs 35 = .ok (.iload_n 3, 1) := by decide +kernel
theorem dX10_heirs_36 : decode cX10_heirs 36 = .ok (.ishl, 1) := by decide +kernel
theorem dX10_heirs_37 : decode cX10_heirs 37 = .ok (.ior, 1) := by decide +kernel
theorem dX10_heirs_38 : decode cX10_heirs 38 = .ok (.istore_n 2, 1) := by decide +kernel
theorem dX10_heirs_39 : decode cX10_heirs 39 = .ok (.iinc 3 1, 3) := by decide +kernel
theorem dX10_heirs_42 : decode cX10_heirs 42 = .ok (.goto (-27), 3) := by decide +kernel
theorem dX10_heirs_45 : decode cX10_heirs 45 = .ok (.iload_n 2, 1) := by decide +kernel
theorem dX10_heirs_46 : decode cX10_heirs 46 = .ok (.ireturn, 1) := by decide +kernel
theorem dX10_deepest_0 : decode cX10_deepest 0 = .ok (.aload_n 0, 1) := by decide +kernel
theorem dX10_deepest_1 : decode cX10_deepest 1 = .ok (.invokevirtual 96, 3) := by decide +kernel
theorem dX10_deepest_4 : decode cX10_deepest 4 = .ok (.ifCond .ne 6, 3) := by decide +kernel
theorem dX10_deepest_7 : decode cX10_deepest 7 = .ok (.bipush (-2), 2) := by decide +kernel
theorem dX10_deepest_9 : decode cX10_deepest 9 = .ok (.ireturn, 1) := by decide +kernel
theorem dX10_deepest_10 : decode cX10_deepest 10 = .ok (.iconst (-1), 1) := by decide +kernel
theorem dX10_deepest_11 : decode cX10_deepest 11 = .ok (.istore_n 1, 1) := by decide +kernel
theorem dX10_deepest_12 : decode cX10_deepest 12 = .ok (.iconst 0, 1) := by decide +kernel
theorem dX10_deepest_13 : decode cX10_deepest 13 = .ok (.istore_n 2, 1) := by decide +kernel
theorem dX10_deepest_14 : decode cX10_deepest 14 = .ok (.iconst 0, 1) := by decide +kernel
theorem dX10_deepest_15 : decode cX10_deepest 15 = .ok (.istore_n 3, 1) := by decide +kernel
theorem dX10_deepest_16 : decode cX10_deepest 16 = .ok (.iload_n 3, 1) := by decide +kernel
theorem dX10_deepest_17 : decode cX10_deepest 17 = .ok (.aload_n 0, 1) := by decide +kernel
theorem dX10_deepest_18 : decode cX10_deepest 18 = .ok (.getfield 9, 3) := by decide +kernel
theorem dX10_deepest_21 : decode cX10_deepest 21 = .ok (.iconst 5, 1) := by decide +kernel
theorem dX10_deepest_22 : decode cX10_deepest 22 = .ok (.iaload, 1) := by decide +kernel
theorem dX10_deepest_23 : decode cX10_deepest 23 = .ok (.if_icmp .ge 33, 3) := by decide +kernel
theorem dX10_deepest_26 : decode cX10_deepest 26 = .ok (.aload_n 0, 1) := by decide +kernel
theorem dX10_deepest_27 : decode cX10_deepest 27 = .ok (.iload_n 3, 1) := by decide +kernel
theorem dX10_deepest_28 : decode cX10_deepest 28 = .ok (.invokevirtual 352, 3) := by decide +kernel
theorem dX10_deepest_31 : decode cX10_deepest 31 = .ok (.invokestatic 355, 3) := by decide +kernel
theorem dX10_deepest_34 : decode cX10_deepest 34 = .ok (.istore 4, 2) := by decide +kernel
theorem dX10_deepest_36 : decode cX10_deepest 36 = .ok (.iload 4, 2) := by decide +kernel
theorem dX10_deepest_38 : decode cX10_deepest 38 = .ok (.iload_n 2, 1) := by decide +kernel
theorem dX10_deepest_39 : decode cX10_deepest 39 = .ok (.if_icmp .gt 6, 3) := by decide +kernel
theorem dX10_deepest_42 : decode cX10_deepest 42 = .ok (.goto 8, 3) := by decide +kernel
theorem dX10_deepest_45 : decode cX10_deepest 45 = .ok (.iload 4, 2) := by decide +kernel
theorem dX10_deepest_47 : decode cX10_deepest 47 = .ok (.istore_n 2, 1) := by decide +kernel
theorem dX10_deepest_48 : decode cX10_deepest 48 = .ok (.iload_n 3, 1) := by decide +kernel
theorem dX10_deepest_49 : decode cX10_deepest 49 = .ok (.istore_n 1, 1) := by decide +kernel
theorem dX10_deepest_50 : decode cX10_deepest 50 = .ok (.iinc 3 1, 3) := by decide +kernel
theorem dX10_deepest_53 : decode cX10_deepest 53 = .ok (.goto (-37), 3) := by decide +kernel
theorem dX10_deepest_56 : decode cX10_deepest 56 = .ok (.iload_n 1, 1) := by decide +kernel
theorem dX10_deepest_57 : decode cX10_deepest 57 = .ok (.ireturn, 1) := by decide +kernel
theorem dX10_latest_0 : decode cX10_latest 0 = .ok (.aload_n 0, 1) := by decide +kernel
theorem dX10_latest_1 : decode cX10_latest 1 = .ok (.iload_n 1, 1) := by decide +kernel
theorem dX10_latest_2 : decode cX10_latest 2 = .ok (.invokevirtual 225, 3) := by decide +kernel
theorem dX10_latest_5 : decode cX10_latest 5 = .ok (.ifCond .ne 6, 3) := by decide +kernel
theorem dX10_latest_8 : decode cX10_latest 8 = .ok (.bipush (-2), 2) := by decide +kernel
theorem dX10_latest_10 : decode cX10_latest 10 = .ok (.ireturn, 1) := by decide +kernel
theorem dX10_latest_11 : decode cX10_latest 11 = .ok (.aload_n 0, 1) := by decide +kernel
theorem dX10_latest_12 : decode cX10_latest 12 = .ok (.aload_n 0, 1) := by decide +kernel
theorem dX10_latest_13 : decode cX10_latest 13 = .ok (.iload_n 1, 1) := by decide +kernel
theorem dX10_latest_14 : decode cX10_latest 14 = .ok (.iconst 0, 1) := by decide +kernel
theorem dX10_latest_15 : decode cX10_latest 15 = .ok (.invokevirtual 228, 3) := by decide +kernel
theorem dX10_latest_18 : decode cX10_latest 18 = .ok (.invokevirtual 313, 3) := by decide +kernel
theorem dX10_latest_21 : decode cX10_latest 21 = .ok (.istore_n 2, 1) := by decide +kernel
theorem dX10_latest_22 : decode cX10_latest 22 = .ok (.aload_n 0, 1) := by decide +kernel
theorem dX10_latest_23 : decode cX10_latest 23 = .ok (.iload_n 1, 1) := by decide +kernel
theorem dX10_latest_24 : decode cX10_latest 24 = .ok (.iload_n 2, 1) := by decide +kernel
theorem dX10_latest_25 : decode cX10_latest 25 = .ok (.invokevirtual 358, 3) := by decide +kernel
theorem dX10_latest_28 : decode cX10_latest 28 = .ok (.istore_n 3, 1) := by decide +kernel
theorem dX10_latest_29 : decode cX10_latest 29 = .ok (.iconst (-1), 1) := by decide +kernel
theorem dX10_latest_30 : decode cX10_latest 30 = .ok (.istore 4, 2) := by decide +kernel
theorem dX10_latest_32 : decode cX10_latest 32 = .ok (.iconst 0, 1) := by decide +kernel
theorem dX10_latest_33 : decode cX10_latest 33 = .ok (.istore 5, 2) := by decide +kernel
theorem dX10_latest_35 : decode cX10_latest 35 = .ok (.iload 5, 2) := by decide +kernel
theorem dX10_latest_37 : decode cX10_latest 37 = .ok (.aload_n 0, 1) := by decide +kernel
theorem dX10_latest_38 : decode cX10_latest 38 = .ok (.getfield 9, 3) := by decide +kernel
theorem dX10_latest_41 : decode cX10_latest 41 = .ok (.iconst 0, 1) := by decide +kernel
theorem dX10_latest_42 : decode cX10_latest 42 = .ok (.iaload, 1) := by decide +kernel
theorem dX10_latest_43 : decode cX10_latest 43 = .ok (.if_icmp .ge 39, 3) := by decide +kernel
theorem dX10_latest_46 : decode cX10_latest 46 = .ok (.iload_n 3, 1) := by decide +kernel
theorem dX10_latest_47 : decode cX10_latest 47 = .ok (.iconst (-1), 1) := by decide +kernel
theorem dX10_latest_48 : decode cX10_latest 48 = .ok (.if_icmp .eq 34, 3) := by decide +kernel
theorem dX10_latest_51 : decode cX10_latest 51 = .ok (.iload 5, 2) := by decide +kernel
theorem dX10_latest_53 : decode cX10_latest 53 = .ok (.iload_n 3, 1) := by decide +kernel
theorem dX10_latest_54 : decode cX10_latest 54 = .ok (.if_icmp .lt 18, 3) := by decide +kernel
theorem dX10_latest_57 : decode cX10_latest 57 = .ok (.iload_n 2, 1) := by decide +kernel
theorem dX10_latest_58 : decode cX10_latest 58 = .ok (.iload 5, 2) := by decide +kernel
theorem dX10_latest_60 : decode cX10_latest 60 = .ok (.invokestatic 230, 3) := by decide +kernel
theorem dX10_latest_63 : decode cX10_latest 63 = .ok (.iconst 1, 1) := by decide +kernel
theorem dX10_latest_64 : decode cX10_latest 64 = .ok (.if_icmp .ne 8, 3) := by decide +kernel
theorem dX10_latest_67 : decode cX10_latest 67 = .ok (.iload 5, 2) := by decide +kernel
theorem dX10_latest_69 : decode cX10_latest 69 = .ok (.goto 5, 3) := by decide +kernel
theorem dX10_latest_72 : decode cX10_latest 72 = .ok (.iload 4, 2) := by decide +kernel
theorem dX10_latest_74 : decode cX10_latest 74 = .ok (.istore 4, 2) := by decide +kernel
theorem dX10_latest_76 : decode cX10_latest 76 = .ok (.iinc 5 1, 3) := by decide +kernel
theorem dX10_latest_79 : decode cX10_latest 79 = .ok (.goto (-44), 3) := by decide +kernel
theorem dX10_latest_82 : decode cX10_latest 82 = .ok (.iload 4, 2) := by decide +kernel
theorem dX10_latest_84 : decode cX10_latest 84 = .ok (.ireturn, 1) := by decide +kernel
theorem dX10_soonestBy_0 : decode cX10_soonestBy 0 = .ok (.iconst 1, 1) := by decide +kernel
theorem dX10_soonestBy_1 : decode cX10_soonestBy 1 = .ok (.istore_n 3, 1) := by decide +kernel
theorem dX10_soonestBy_2 : decode cX10_soonestBy 2 = .ok (.aload_n 0, 1) := by decide +kernel
theorem dX10_soonestBy_3 : decode cX10_soonestBy 3 = .ok (.iload_n 1, 1) := by decide +kernel
theorem dX10_soonestBy_4 : decode cX10_soonestBy 4 = .ok (.iconst 2, 1) := by decide +kernel
theorem dX10_soonestBy_5 : decode cX10_soonestBy 5 = .ok (.invokevirtual 228, 3) := by decide +kernel
theorem dX10_soonestBy_8 : decode cX10_soonestBy 8 = .ok (.istore 4, 2) := by decide +kernel
theorem dX10_soonestBy_10 : decode cX10_soonestBy 10 = .ok (.iload 4, 2) := by decide +kernel
theorem dX10_soonestBy_12 : decode cX10_soonestBy 12 = .ok (.iconst (-1), 1) := by decide +kernel
theorem dX10_soonestBy_13 : decode cX10_soonestBy 13 = .ok (.if_icmp .eq 36, 3) := by decide +kernel
theorem dX10_soonestBy_16 : decode cX10_soonestBy 16 = .ok (.aload_n 0, 1) := by decide +kernel
theorem dX10_soonestBy_17 : decode cX10_soonestBy 17 = .ok (.iload 4, 2) := by decide +kernel
theorem dX10_soonestBy_19 : decode cX10_soonestBy 19 = .ok (.iconst 0, 1) := by decide +kernel
theorem dX10_soonestBy_20 : decode cX10_soonestBy 20 = .ok (.invokevirtual 228, 3) := by decide +kernel
theorem dX10_soonestBy_23 : decode cX10_soonestBy 23 = .ok (.aload_n 0, 1) := by decide +kernel
theorem dX10_soonestBy_24 : decode cX10_soonestBy 24 = .ok (.iload_n 1, 1) := by decide +kernel
theorem dX10_soonestBy_25 : decode cX10_soonestBy 25 = .ok (.iconst 0, 1) := by decide +kernel
theorem dX10_soonestBy_26 : decode cX10_soonestBy 26 = .ok (.invokevirtual 228, 3) := by decide +kernel
theorem dX10_soonestBy_29 : decode cX10_soonestBy 29 = .ok (.if_icmp .eq 5, 3) := by decide +kernel
theorem dX10_soonestBy_32 : decode cX10_soonestBy 32 = .ok (.iconst (-1), 1) := by decide +kernel
theorem dX10_soonestBy_33 : decode cX10_soonestBy 33 = .ok (.ireturn, 1) := by decide +kernel
theorem dX10_soonestBy_34 : decode cX10_soonestBy 34 = .ok (.iinc 3 1, 3) := by decide +kernel
theorem dX10_soonestBy_37 : decode cX10_soonestBy 37 = .ok (.aload_n 0, 1) := by decide +kernel
theorem dX10_soonestBy_38 : decode cX10_soonestBy 38 = .ok (.iload 4, 2) := by decide +kernel
theorem dX10_soonestBy_40 : decode cX10_soonestBy 40 = .ok (.iconst 2, 1) := by decide +kernel
theorem dX10_soonestBy_41 : decode cX10_soonestBy 41 = .ok (.invokevirtual 228, 3) := by decide +kernel
theorem dX10_soonestBy_44 : decode cX10_soonestBy 44 = .ok (.istore 4, 2) := by decide +kernel
theorem dX10_soonestBy_46 : decode cX10_soonestBy 46 = .ok (.goto (-36), 3) := by decide +kernel
theorem dX10_soonestBy_49 : decode cX10_soonestBy 49 = .ok (.iconst 0, 1) := by decide +kernel
theorem dX10_soonestBy_50 : decode cX10_soonestBy 50 = .ok (.aload_n 0, 1) := by decide +kernel
theorem dX10_soonestBy_51 : decode cX10_soonestBy 51 = .ok (.getfield 9, 3) := by decide +kernel
theorem dX10_soonestBy_54 : decode cX10_soonestBy 54 = .ok (.iconst 2, 1) := by decide +kernel
theorem dX10_soonestBy_55 : decode cX10_soonestBy 55 = .ok (.iaload, 1) := by decide +kernel
theorem dX10_soonestBy_56 : decode cX10_soonestBy 56 = .ok (.aload_n 0, 1) := by decide +kernel
theorem dX10_soonestBy_57 : decode cX10_soonestBy 57 = .ok (.getfield 9, 3) := by decide +kernel
theorem dX10_soonestBy_60 : decode cX10_soonestBy 60 = .ok (.iconst 1, 1) := by decide +kernel
theorem dX10_soonestBy_61 : decode cX10_soonestBy 61 = .ok (.iaload, 1) := by decide +kernel
theorem dX10_soonestBy_62 : decode cX10_soonestBy 62 = .ok (.isub, 1) := by decide +kernel
theorem dX10_soonestBy_63 : decode cX10_soonestBy 63 = .ok (.invokestatic 298, 3) := by decide +kernel
theorem dX10_soonestBy_66 : decode cX10_soonestBy 66 = .ok (.istore 4, 2) := by decide +kernel
theorem dX10_soonestBy_68 : decode cX10_soonestBy 68 = .ok (.iload 4, 2) := by decide +kernel
theorem dX10_soonestBy_70 : decode cX10_soonestBy 70 = .ok (.aload_n 0, 1) := by decide +kernel
theorem dX10_soonestBy_71 : decode cX10_soonestBy 71 = .ok (.getfield 9, 3) := by decide +kernel
theorem dX10_soonestBy_74 : decode cX10_soonestBy 74 = .ok (.iconst 0, 1) := by decide +kernel
theorem dX10_soonestBy_75 : decode cX10_soonestBy 75 = .ok (.iaload, 1) := by decide +kernel
theorem dX10_soonestBy_76 : decode cX10_soonestBy 76 = .ok (.if_icmp .ge 42, 3) := by decide +kernel
theorem dX10_soonestBy_79 : decode cX10_soonestBy 79 = .ok (.iload_n 2, 1) := by decide +kernel
theorem dX10_soonestBy_80 : decode cX10_soonestBy 80 = .ok (.iload 4, 2) := by decide +kernel
theorem dX10_soonestBy_82 : decode cX10_soonestBy 82 = .ok (.invokestatic 230, 3) := by decide +kernel
theorem dX10_soonestBy_85 : decode cX10_soonestBy 85 = .ok (.ifCond .ne 9, 3) := by decide +kernel
theorem dX10_soonestBy_88 : decode cX10_soonestBy 88 = .ok (.iinc 4 1, 3) := by decide +kernel
theorem dX10_soonestBy_91 : decode cX10_soonestBy 91 = .ok (.goto (-23), 3) := by decide +kernel
theorem dX10_soonestBy_94 : decode cX10_soonestBy 94 = .ok (.iinc 3 (-1), 3) := by decide +kernel
theorem dX10_soonestBy_97 : decode cX10_soonestBy 97 = .ok (.iload_n 3, 1) := by decide +kernel
theorem dX10_soonestBy_98 : decode cX10_soonestBy 98 = .ok (.ifCond .ne 6, 3) := by decide +kernel
theorem dX10_soonestBy_101 : decode cX10_soonestBy 101 = .ok (.iload 4, 2) := by decide +kernel
theorem dX10_soonestBy_103 : decode cX10_soonestBy 103 = .ok (.ireturn, 1) := by decide +kernel
theorem dX10_soonestBy_104 : decode cX10_soonestBy 104 = .ok (.iload 4, 2) := by decide +kernel
theorem dX10_soonestBy_106 : decode cX10_soonestBy 106 = .ok (.aload_n 0, 1) := by decide +kernel
theorem dX10_soonestBy_107 : decode cX10_soonestBy 107 = .ok (.getfield 9, 3) := by decide +kernel
theorem dX10_soonestBy_110 : decode cX10_soonestBy 110 = .ok (.iconst 2, 1) := by decide +kernel
theorem dX10_soonestBy_111 : decode cX10_soonestBy 111 = .ok (.iaload, 1) := by decide +kernel
theorem dX10_soonestBy_112 : decode cX10_soonestBy 112 = .ok (.iadd, 1) := by decide +kernel
theorem dX10_soonestBy_113 : decode cX10_soonestBy 113 = .ok (.istore 4, 2) := by decide +kernel
theorem dX10_soonestBy_115 : decode cX10_soonestBy 115 = .ok (.goto (-47), 3) := by decide +kernel
theorem dX10_soonestBy_118 : decode cX10_soonestBy 118 = .ok (.iconst (-1), 1) := by decide +kernel
theorem dX10_soonestBy_119 : decode cX10_soonestBy 119 = .ok (.ireturn, 1) := by decide +kernel
theorem dX10_soonest_0 : decode cX10_soonest 0 = .ok (.aload_n 0, 1) := by decide +kernel
theorem dX10_soonest_1 : decode cX10_soonest 1 = .ok (.iload_n 1, 1) := by decide +kernel
theorem dX10_soonest_2 : decode cX10_soonest 2 = .ok (.invokevirtual 225, 3) := by decide +kernel
theorem dX10_soonest_5 : decode cX10_soonest 5 = .ok (.ifCond .eq 21, 3) := by decide +kernel
theorem dX10_soonest_8 : decode cX10_soonest 8 = .ok (.aload_n 0, 1) := by decide +kernel
theorem dX10_soonest_9 : decode cX10_soonest 9 = .ok (.iload_n 1, 1) := by decide +kernel
theorem dX10_soonest_10 : decode cX10_soonest 10 = .ok (.aload_n 0, 1) := by decide +kernel
theorem dX10_soonest_11 : decode cX10_soonest 11 = .ok (.aload_n 0, 1) := by decide +kernel
theorem dX10_soonest_12 : decode cX10_soonest 12 = .ok (.iload_n 1, 1) := by decide +kernel
theorem dX10_soonest_13 : decode cX10_soonest 13 = .ok (.iconst 0, 1) := by decide +kernel
theorem dX10_soonest_14 : decode cX10_soonest 14 = .ok (.invokevirtual 228, 3) := by decide +kernel
theorem dX10_soonest_17 : decode cX10_soonest 17 = .ok (.invokevirtual 313, 3) := by decide +kernel
theorem dX10_soonest_20 : decode cX10_soonest 20 = .ok (.invokevirtual 358, 3) := by decide +kernel
theorem dX10_soonest_23 : decode cX10_soonest 23 = .ok (.goto 5, 3) := by decide +kernel
theorem dX10_soonest_26 : decode cX10_soonest 26 = .ok (.bipush (-2), 2) := by decide +kernel
theorem dX10_soonest_28 : decode cX10_soonest 28 = .ok (.ireturn, 1) := by decide +kernel
theorem dX10_stopOf_0 : decode cX10_stopOf 0 = .ok (.aload_n 0, 1) := by decide +kernel
theorem dX10_stopOf_1 : decode cX10_stopOf 1 = .ok (.aload_n 0, 1) := by decide +kernel
theorem dX10_stopOf_2 : decode cX10_stopOf 2 = .ok (.iload_n 1, 1) := by decide +kernel
theorem dX10_stopOf_3 : decode cX10_stopOf 3 = .ok (.iconst 0, 1) := by decide +kernel
theorem dX10_stopOf_4 : decode cX10_stopOf 4 = .ok (.invokevirtual 228, 3) := by decide +kernel
theorem dX10_stopOf_7 : decode cX10_stopOf 7 = .ok (.invokevirtual 313, 3) := by decide +kernel
theorem dX10_stopOf_10 : decode cX10_stopOf 10 = .ok (.istore_n 2, 1) := by decide +kernel
theorem dX10_stopOf_11 : decode cX10_stopOf 11 = .ok (.iconst (-1), 1) := by decide +kernel
theorem dX10_stopOf_12 : decode cX10_stopOf 12 = .ok (.istore_n 3, 1) := by decide +kernel
theorem dX10_stopOf_13 : decode cX10_stopOf 13 = .ok (.iconst 0, 1) := by decide +kernel
theorem dX10_stopOf_14 : decode cX10_stopOf 14 = .ok (.istore 4, 2) := by decide +kernel
theorem dX10_stopOf_16 : decode cX10_stopOf 16 = .ok (.iload 4, 2) := by decide +kernel
theorem dX10_stopOf_18 : decode cX10_stopOf 18 = .ok (.iconst 1, 1) := by decide +kernel
theorem dX10_stopOf_19 : decode cX10_stopOf 19 = .ok (.aload_n 0, 1) := by decide +kernel
theorem dX10_stopOf_20 : decode cX10_stopOf 20 = .ok (.getfield 9, 3) := by decide +kernel
theorem dX10_stopOf_23 : decode cX10_stopOf 23 = .ok (.iconst 0, 1) := by decide +kernel
theorem dX10_stopOf_24 : decode cX10_stopOf 24 = .ok (.iaload, 1) := by decide +kernel
theorem dX10_stopOf_25 : decode cX10_stopOf 25 = .ok (.ishl, 1) := by decide +kernel
theorem dX10_stopOf_26 : decode cX10_stopOf 26 = .ok (.if_icmp .ge 47, 3) := by decide +kernel
theorem dX10_stopOf_29 : decode cX10_stopOf 29 = .ok (.iload_n 3, 1) := by decide +kernel
theorem dX10_stopOf_30 : decode cX10_stopOf 30 = .ok (.iconst (-1), 1) := by decide +kernel
theorem dX10_stopOf_31 : decode cX10_stopOf 31 = .ok (.if_icmp .eq 18, 3) := by decide +kernel
theorem dX10_stopOf_34 : decode cX10_stopOf 34 = .ok (.iload 4, 2) := by decide +kernel
theorem dX10_stopOf_36 : decode cX10_stopOf 36 = .ok (.invokestatic 355, 3) := by decide +kernel
theorem dX10_stopOf_39 : decode cX10_stopOf 39 = .ok (.iload_n 3, 1) := by decide +kernel
theorem dX10_stopOf_40 : decode cX10_stopOf 40 = .ok (.invokestatic 355, 3) := by decide +kernel
theorem dX10_stopOf_43 : decode cX10_stopOf 43 = .ok (.if_icmp .lt 6, 3) := by decide +kernel
theorem dX10_stopOf_46 : decode cX10_stopOf 46 = .ok (.goto 21, 3) := by decide +kernel
theorem dX10_stopOf_49 : decode cX10_stopOf 49 = .ok (.aload_n 0, 1) := by decide +kernel
theorem dX10_stopOf_50 : decode cX10_stopOf 50 = .ok (.iload_n 1, 1) := by decide +kernel
theorem dX10_stopOf_51 : decode cX10_stopOf 51 = .ok (.iload_n 2, 1) := by decide +kernel
theorem dX10_stopOf_52 : decode cX10_stopOf 52 = .ok (.iload 4, 2) := by decide +kernel
theorem dX10_stopOf_54 : decode cX10_stopOf 54 = .ok (.iconst (-1), 1) := by decide +kernel
theorem dX10_stopOf_55 : decode cX10_stopOf 55 = .ok (.ixor, 1) := by decide +kernel
theorem dX10_stopOf_56 : decode cX10_stopOf 56 = .ok (.iand, 1) := by decide +kernel
theorem dX10_stopOf_57 : decode cX10_stopOf 57 = .ok (.invokevirtual 358, 3) := by decide +kernel
theorem dX10_stopOf_60 : decode cX10_stopOf 60 = .ok (.iconst (-1), 1) := by decide +kernel
theorem dX10_stopOf_61 : decode cX10_stopOf 61 = .ok (.if_icmp .ne 6, 3) := by decide +kernel
theorem dX10_stopOf_64 : decode cX10_stopOf 64 = .ok (.iload 4, 2) := by decide +kernel
theorem dX10_stopOf_66 : decode cX10_stopOf 66 = .ok (.istore_n 3, 1) := by decide +kernel
theorem dX10_stopOf_67 : decode cX10_stopOf 67 = .ok (.iinc 4 1, 3) := by decide +kernel
theorem dX10_stopOf_70 : decode cX10_stopOf 70 = .ok (.goto (-54), 3) := by decide +kernel
theorem dX10_stopOf_73 : decode cX10_stopOf 73 = .ok (.iload_n 3, 1) := by decide +kernel
theorem dX10_stopOf_74 : decode cX10_stopOf 74 = .ok (.ireturn, 1) := by decide +kernel
theorem dX10_stop_0 : decode cX10_stop 0 = .ok (.aload_n 0, 1) := by decide +kernel
theorem dX10_stop_1 : decode cX10_stop 1 = .ok (.iload_n 1, 1) := by decide +kernel
theorem dX10_stop_2 : decode cX10_stop 2 = .ok (.invokevirtual 225, 3) := by decide +kernel
theorem dX10_stop_5 : decode cX10_stop 5 = .ok (.ifCond .eq 14, 3) := by decide +kernel
theorem dX10_stop_8 : decode cX10_stop 8 = .ok (.aload_n 0, 1) := by decide +kernel
theorem dX10_stop_9 : decode cX10_stop 9 = .ok (.iload_n 1, 1) := by decide +kernel
theorem dX10_stop_10 : decode cX10_stop 10 = .ok (.invokevirtual 361, 3) := by decide +kernel
theorem dX10_stop_13 : decode cX10_stop 13 = .ok (.invokestatic 355, 3) := by decide +kernel
theorem dX10_stop_16 : decode cX10_stop 16 = .ok (.goto 5, 3) := by decide +kernel
theorem dX10_stop_19 : decode cX10_stop 19 = .ok (.bipush (-2), 2) := by decide +kernel
theorem dX10_stop_21 : decode cX10_stop 21 = .ok (.ireturn, 1) := by decide +kernel
theorem dX10_stops_0 : decode cX10_stops 0 = .ok (.aload_n 0, 1) := by decide +kernel
theorem dX10_stops_1 : decode cX10_stops 1 = .ok (.iload_n 1, 1) := by decide +kernel
theorem dX10_stops_2 : decode cX10_stops 2 = .ok (.invokevirtual 225, 3) := by decide +kernel
theorem dX10_stops_5 : decode cX10_stops 5 = .ok (.ifCond .eq 11, 3) := by decide +kernel
theorem dX10_stops_8 : decode cX10_stops 8 = .ok (.aload_n 0, 1) := by decide +kernel
theorem dX10_stops_9 : decode cX10_stops 9 = .ok (.iload_n 1, 1) := by decide +kernel
theorem dX10_stops_10 : decode cX10_stops 10 = .ok (.invokevirtual 361, 3) := by decide +kernel
theorem dX10_stops_13 : decode cX10_stops 13 = .ok (.goto 5, 3) := by decide +kernel
theorem dX10_stops_16 : decode cX10_stops 16 = .ok (.bipush (-2), 2) := by decide +kernel
theorem dX10_stops_18 : decode cX10_stops 18 = .ok (.ireturn, 1) := by decide +kernel
theorem dX10_spoilOf_0 : decode cX10_spoilOf 0 = .ok (.aload_n 0, 1) := by decide +kernel
theorem dX10_spoilOf_1 : decode cX10_spoilOf 1 = .ok (.aload_n 0, 1) := by decide +kernel
theorem dX10_spoilOf_2 : decode cX10_spoilOf 2 = .ok (.iload_n 1, 1) := by decide +kernel
theorem dX10_spoilOf_3 : decode cX10_spoilOf 3 = .ok (.invokevirtual 346, 3) := by decide +kernel
theorem dX10_spoilOf_6 : decode cX10_spoilOf 6 = .ok (.putfield 364, 3) := by decide +kernel
theorem dX10_spoilOf_9 : decode cX10_spoilOf 9 = .ok (.iconst (-1), 1) := by decide +kernel
theorem dX10_spoilOf_10 : decode cX10_spoilOf 10 = .ok (.istore_n 2, 1) := by decide +kernel
theorem dX10_spoilOf_11 : decode cX10_spoilOf 11 = .ok (.iconst 0, 1) := by decide +kernel
theorem dX10_spoilOf_12 : decode cX10_spoilOf 12 = .ok (.istore_n 3, 1) := by decide +kernel
theorem dX10_spoilOf_13 : decode cX10_spoilOf 13 = .ok (.iload_n 3, 1) := by decide +kernel
theorem dX10_spoilOf_14 : decode cX10_spoilOf 14 = .ok (.aload_n 0, 1) := by decide +kernel
theorem dX10_spoilOf_15 : decode cX10_spoilOf 15 = .ok (.getfield 9, 3) := by decide +kernel
theorem dX10_spoilOf_18 : decode cX10_spoilOf 18 = .ok (.iconst 0, 1) := by decide +kernel
theorem dX10_spoilOf_19 : decode cX10_spoilOf 19 = .ok (.iaload, 1) := by decide +kernel
theorem dX10_spoilOf_20 : decode cX10_spoilOf 20 = .ok (.if_icmp .ge 43, 3) := by decide +kernel
theorem dX10_spoilOf_23 : decode cX10_spoilOf 23 = .ok (.aload_n 0, 1) := by decide +kernel
theorem dX10_spoilOf_24 : decode cX10_spoilOf 24 = .ok (.iconst 1, 1) := by decide +kernel
theorem dX10_spoilOf_25 : decode cX10_spoilOf 25 = .ok (.iload_n 3, 1) := by decide +kernel
theorem dX10_spoilOf_26 : decode cX10_spoilOf 26 = .ok (.ishl, 1) := by decide +kernel
theorem dX10_spoilOf_27 : decode cX10_spoilOf 27 = .ok (.putfield 319, 3) := by decide +kernel
theorem dX10_spoilOf_30 : decode cX10_spoilOf 30 = .ok (.aload_n 0, 1) := by decide +kernel
theorem dX10_spoilOf_31 : decode cX10_spoilOf 31 = .ok (.iload_n 1, 1) := by decide +kernel
theorem dX10_spoilOf_32 : decode cX10_spoilOf 32 = .ok (.invokevirtual 346, 3) := by decide +kernel
theorem dX10_spoilOf_35 : decode cX10_spoilOf 35 = .ok (.istore 4, 2) := by decide +kernel
theorem dX10_spoilOf_37 : decode cX10_spoilOf 37 = .ok (.iload 4, 2) := by decide +kernel
theorem dX10_spoilOf_39 : decode cX10_spoilOf 39 = .ok (.aload_n 0, 1) := by decide +kernel
theorem dX10_spoilOf_40 : decode cX10_spoilOf 40 = .ok (.getfield 364, 3) := by decide +kernel
theorem dX10_spoilOf_43 : decode cX10_spoilOf 43 = .ok (.if_icmp .lt 6, 3) := by decide +kernel
theorem dX10_spoilOf_46 : decode cX10_spoilOf 46 = .ok (.goto 11, 3) := by decide +kernel
theorem dX10_spoilOf_49 : decode cX10_spoilOf 49 = .ok (.aload_n 0, 1) := by decide +kernel
theorem dX10_spoilOf_50 : decode cX10_spoilOf 50 = .ok (.iload 4, 2) := by decide +kernel
theorem dX10_spoilOf_52 : decode cX10_spoilOf 52 = .ok (.putfield 364, 3) := by decide +kernel
theorem dX10_spoilOf_55 : decode cX10_spoilOf 55 = .ok (.iload_n 3, 1) := by decide +kernel
theorem dX10_spoilOf_56 : decode cX10_spoilOf 56 = .ok (.istore_n 2, 1) := by decide +kernel
theorem dX10_spoilOf_57 : decode cX10_spoilOf 57 = .ok (.iinc 3 1, 3) := by decide +kernel
theorem dX10_spoilOf_60 : decode cX10_spoilOf 60 = .ok (.goto (-47), 3) := by decide +kernel
theorem dX10_spoilOf_63 : decode cX10_spoilOf 63 = .ok (.aload_n 0, 1) := by decide +kernel
theorem dX10_spoilOf_64 : decode cX10_spoilOf 64 = .ok (.iconst 0, 1) := by decide +kernel
theorem dX10_spoilOf_65 : decode cX10_spoilOf 65 = .ok (.putfield 319, 3) := by decide +kernel
theorem dX10_spoilOf_68 : decode cX10_spoilOf 68 = .ok (.iload_n 2, 1) := by decide +kernel
theorem dX10_spoilOf_69 : decode cX10_spoilOf 69 = .ok (.ireturn, 1) := by decide +kernel
theorem dX10_spoil_0 : decode cX10_spoil 0 = .ok (.aload_n 0, 1) := by decide +kernel
theorem dX10_spoil_1 : decode cX10_spoil 1 = .ok (.iload_n 1, 1) := by decide +kernel
theorem dX10_spoil_2 : decode cX10_spoil 2 = .ok (.invokevirtual 242, 3) := by decide +kernel
theorem dX10_spoil_5 : decode cX10_spoil 5 = .ok (.ifCond .eq 11, 3) := by decide +kernel
theorem dX10_spoil_8 : decode cX10_spoil 8 = .ok (.aload_n 0, 1) := by decide +kernel
theorem dX10_spoil_9 : decode cX10_spoil 9 = .ok (.iload_n 1, 1) := by decide +kernel
theorem dX10_spoil_10 : decode cX10_spoil 10 = .ok (.invokevirtual 367, 3) := by decide +kernel
theorem dX10_spoil_13 : decode cX10_spoil 13 = .ok (.goto 5, 3) := by decide +kernel
theorem dX10_spoil_16 : decode cX10_spoil 16 = .ok (.bipush (-2), 2) := by decide +kernel
theorem dX10_spoil_18 : decode cX10_spoil 18 = .ok (.ireturn, 1) := by decide +kernel
theorem dX10_spoilt_0 : decode cX10_spoilt 0 = .ok (.aload_n 0, 1) := by decide +kernel
theorem dX10_spoilt_1 : decode cX10_spoilt 1 = .ok (.iload_n 1, 1) := by decide +kernel
theorem dX10_spoilt_2 : decode cX10_spoilt 2 = .ok (.invokevirtual 242, 3) := by decide +kernel
theorem dX10_spoilt_5 : decode cX10_spoilt 5 = .ok (.ifCond .ne 6, 3) := by decide +kernel
theorem dX10_spoilt_8 : decode cX10_spoilt 8 = .ok (.bipush (-2), 2) := by decide +kernel
theorem dX10_spoilt_10 : decode cX10_spoilt 10 = .ok (.ireturn, 1) := by decide +kernel
theorem dX10_spoilt_11 : decode cX10_spoilt 11 = .ok (.aload_n 0, 1) := by decide +kernel
theorem dX10_spoilt_12 : decode cX10_spoilt 12 = .ok (.iload_n 1, 1) := by decide +kernel
theorem dX10_spoilt_13 : decode cX10_spoilt 13 = .ok (.invokevirtual 367, 3) := by decide +kernel
theorem dX10_spoilt_16 : decode cX10_spoilt 16 = .ok (.pop, 1) := by decide +kernel
theorem dX10_spoilt_17 : decode cX10_spoilt 17 = .ok (.aload_n 0, 1) := by decide +kernel
theorem dX10_spoilt_18 : decode cX10_spoilt 18 = .ok (.getfield 364, 3) := by decide +kernel
theorem dX10_spoilt_21 : decode cX10_spoilt 21 = .ok (.ireturn, 1) := by decide +kernel
theorem dX10_bribe_0 : decode cX10_bribe 0 = .ok (.aload_n 0, 1) := by decide +kernel
theorem dX10_bribe_1 : decode cX10_bribe 1 = .ok (.iload_n 1, 1) := by decide +kernel
theorem dX10_bribe_2 : decode cX10_bribe 2 = .ok (.invokevirtual 242, 3) := by decide +kernel
theorem dX10_bribe_5 : decode cX10_bribe 5 = .ok (.ifCond .ne 6, 3) := by decide +kernel
theorem dX10_bribe_8 : decode cX10_bribe 8 = .ok (.bipush (-2), 2) := by decide +kernel
theorem dX10_bribe_10 : decode cX10_bribe 10 = .ok (.ireturn, 1) := by decide +kernel
theorem dX10_bribe_11 : decode cX10_bribe 11 = .ok (.aload_n 0, 1) := by decide +kernel
theorem dX10_bribe_12 : decode cX10_bribe 12 = .ok (.iload_n 1, 1) := by decide +kernel
theorem dX10_bribe_13 : decode cX10_bribe 13 = .ok (.invokevirtual 346, 3) := by decide +kernel
theorem dX10_bribe_16 : decode cX10_bribe 16 = .ok (.istore_n 2, 1) := by decide +kernel
theorem dX10_bribe_17 : decode cX10_bribe 17 = .ok (.iconst (-1), 1) := by decide +kernel
theorem dX10_bribe_18 : decode cX10_bribe 18 = .ok (.istore_n 3, 1) := by decide +kernel
theorem dX10_bribe_19 : decode cX10_bribe 19 = .ok (.iconst 0, 1) := by decide +kernel
theorem dX10_bribe_20 : decode cX10_bribe 20 = .ok (.istore 4, 2) := by decide +kernel
theorem dX10_bribe_22 : decode cX10_bribe 22 = .ok (.iload 4, 2) := by decide +kernel
theorem dX10_bribe_24 : decode cX10_bribe 24 = .ok (.aload_n 0, 1) := by decide +kernel
theorem dX10_bribe_25 : decode cX10_bribe 25 = .ok (.getfield 9, 3) := by decide +kernel
theorem dX10_bribe_28 : decode cX10_bribe 28 = .ok (.iconst 4, 1) := by decide +kernel
theorem dX10_bribe_29 : decode cX10_bribe 29 = .ok (.iaload, 1) := by decide +kernel
theorem dX10_bribe_30 : decode cX10_bribe 30 = .ok (.if_icmp .ge 53, 3) := by decide +kernel
theorem dX10_bribe_33 : decode cX10_bribe 33 = .ok (.aload_n 0, 1) := by decide +kernel
theorem dX10_bribe_34 : decode cX10_bribe 34 = .ok (.iload 4, 2) := by decide +kernel
theorem dX10_bribe_36 : decode cX10_bribe 36 = .ok (.iconst 0, 1) := by decide +kernel
theorem dX10_bribe_37 : decode cX10_bribe 37 = .ok (.invokevirtual 222, 3) := by decide +kernel
theorem dX10_bribe_40 : decode cX10_bribe 40 = .ok (.iload_n 1, 1) := by decide +kernel
theorem dX10_bribe_41 : decode cX10_bribe 41 = .ok (.if_icmp .ne 6, 3) := by decide +kernel
theorem dX10_bribe_44 : decode cX10_bribe 44 = .ok (.goto 33, 3) := by decide +kernel
theorem dX10_bribe_47 : decode cX10_bribe 47 = .ok (.aload_n 0, 1) := by decide +kernel
theorem dX10_bribe_48 : decode cX10_bribe 48 = .ok (.iconst 1, 1) := by decide +kernel
theorem dX10_bribe_49 : decode cX10_bribe 49 = .ok (.iload 4, 2) := by decide +kernel
theorem dX10_bribe_51 : decode cX10_bribe 51 = .ok (.ishl, 1) := by decide +kernel
theorem dX10_bribe_52 : decode cX10_bribe 52 = .ok (.putfield 316, 3) := by decide +kernel
theorem dX10_bribe_55 : decode cX10_bribe 55 = .ok (.aload_n 0, 1) := by decide +kernel
theorem dX10_bribe_56 : decode cX10_bribe 56 = .ok (.iload_n 1, 1) := by decide +kernel
theorem dX10_bribe_57 : decode cX10_bribe 57 = .ok (.invokevirtual 346, 3) := by decide +kernel
theorem dX10_bribe_60 : decode cX10_bribe 60 = .ok (.istore 5, 2) := by decide +kernel
theorem dX10_bribe_62 : decode cX10_bribe 62 = .ok (.iload 5, 2) := by decide +kernel
theorem dX10_bribe_64 : decode cX10_bribe 64 = .ok (.iload_n 2, 1) := by decide +kernel
theorem dX10_bribe_65 : decode cX10_bribe 65 = .ok (.if_icmp .gt 6, 3) := by decide +kernel
theorem dX10_bribe_68 : decode cX10_bribe 68 = .ok (.goto 9, 3) := by decide +kernel
theorem dX10_bribe_71 : decode cX10_bribe 71 = .ok (.iload 5, 2) := by decide +kernel
theorem dX10_bribe_73 : decode cX10_bribe 73 = .ok (.istore_n 2, 1) := by decide +kernel
theorem dX10_bribe_74 : decode cX10_bribe 74 = .ok (.iload 4, 2) := by decide +kernel
theorem dX10_bribe_76 : decode cX10_bribe 76 = .ok (.istore_n 3, 1) := by decide +kernel
theorem dX10_bribe_77 : decode cX10_bribe 77 = .ok (.iinc 4 1, 3) := by decide +kernel
theorem dX10_bribe_80 : decode cX10_bribe 80 = .ok (.goto (-58), 3) := by decide +kernel
theorem dX10_bribe_83 : decode cX10_bribe 83 = .ok (.aload_n 0, 1) := by decide +kernel
theorem dX10_bribe_84 : decode cX10_bribe 84 = .ok (.iconst 0, 1) := by decide +kernel
theorem dX10_bribe_85 : decode cX10_bribe 85 = .ok (.putfield 316, 3) := by decide +kernel
theorem dX10_bribe_88 : decode cX10_bribe 88 = .ok (.iload_n 3, 1) := by decide +kernel
theorem dX10_bribe_89 : decode cX10_bribe 89 = .ok (.ireturn, 1) := by decide +kernel
theorem dX10_unmark_0 : decode cX10_unmark 0 = .ok (.aload_n 0, 1) := by decide +kernel
theorem dX10_unmark_1 : decode cX10_unmark 1 = .ok (.iload_n 1, 1) := by decide +kernel
theorem dX10_unmark_2 : decode cX10_unmark 2 = .ok (.invokevirtual 242, 3) := by decide +kernel
theorem dX10_unmark_5 : decode cX10_unmark 5 = .ok (.ifCond .ne 6, 3) := by decide +kernel
theorem dX10_unmark_8 : decode cX10_unmark 8 = .ok (.bipush (-2), 2) := by decide +kernel
theorem dX10_unmark_10 : decode cX10_unmark 10 = .ok (.ireturn, 1) := by decide +kernel
theorem dX10_unmark_11 : decode cX10_unmark 11 = .ok (.aload_n 0, 1) := by decide +kernel
theorem dX10_unmark_12 : decode cX10_unmark 12 = .ok (.iload_n 1, 1) := by decide +kernel
theorem dX10_unmark_13 : decode cX10_unmark 13 = .ok (.invokevirtual 346, 3) := by decide +kernel
theorem dX10_unmark_16 : decode cX10_unmark 16 = .ok (.istore_n 2, 1) := by decide +kernel
theorem dX10_unmark_17 : decode cX10_unmark 17 = .ok (.iconst (-1), 1) := by decide +kernel
theorem dX10_unmark_18 : decode cX10_unmark 18 = .ok (.istore_n 3, 1) := by decide +kernel
theorem dX10_unmark_19 : decode cX10_unmark 19 = .ok (.iconst 0, 1) := by decide +kernel
theorem dX10_unmark_20 : decode cX10_unmark 20 = .ok (.istore 4, 2) := by decide +kernel
theorem dX10_unmark_22 : decode cX10_unmark 22 = .ok (.iload 4, 2) := by decide +kernel
theorem dX10_unmark_24 : decode cX10_unmark 24 = .ok (.aload_n 0, 1) := by decide +kernel
theorem dX10_unmark_25 : decode cX10_unmark 25 = .ok (.getfield 9, 3) := by decide +kernel
theorem dX10_unmark_28 : decode cX10_unmark 28 = .ok (.iconst 0, 1) := by decide +kernel
theorem dX10_unmark_29 : decode cX10_unmark 29 = .ok (.iaload, 1) := by decide +kernel
theorem dX10_unmark_30 : decode cX10_unmark 30 = .ok (.if_icmp .ge 57, 3) := by decide +kernel
theorem dX10_unmark_33 : decode cX10_unmark 33 = .ok (.aload_n 0, 1) := by decide +kernel
theorem dX10_unmark_34 : decode cX10_unmark 34 = .ok (.getfield 9, 3) := by decide +kernel
theorem dX10_unmark_37 : decode cX10_unmark 37 = .ok (.bipush 8, 2) := by decide +kernel
theorem dX10_unmark_39 : decode cX10_unmark 39 = .ok (.iaload, 1) := by decide +kernel
theorem dX10_unmark_40 : decode cX10_unmark 40 = .ok (.iload 4, 2) := by decide +kernel
theorem dX10_unmark_42 : decode cX10_unmark 42 = .ok (.invokestatic 230, 3) := by decide +kernel
theorem dX10_unmark_45 : decode cX10_unmark 45 = .ok (.ifCond .ne 6, 3) := by decide +kernel
theorem dX10_unmark_48 : decode cX10_unmark 48 = .ok (.goto 33, 3) := by decide +kernel
theorem dX10_unmark_51 : decode cX10_unmark 51 = .ok (.aload_n 0, 1) := by decide +kernel
theorem dX10_unmark_52 : decode cX10_unmark 52 = .ok (.iconst 1, 1) := by decide +kernel
theorem dX10_unmark_53 : decode cX10_unmark 53 = .ok (.iload 4, 2) := by decide +kernel
theorem dX10_unmark_55 : decode cX10_unmark 55 = .ok (.ishl, 1) := by decide +kernel
theorem dX10_unmark_56 : decode cX10_unmark 56 = .ok (.putfield 322, 3) := by decide +kernel
theorem dX10_unmark_59 : decode cX10_unmark 59 = .ok (.aload_n 0, 1) := by decide +kernel
theorem dX10_unmark_60 : decode cX10_unmark 60 = .ok (.iload_n 1, 1) := by decide +kernel
theorem dX10_unmark_61 : decode cX10_unmark 61 = .ok (.invokevirtual 346, 3) := by decide +kernel
theorem dX10_unmark_64 : decode cX10_unmark 64 = .ok (.istore 5, 2) := by decide +kernel
theorem dX10_unmark_66 : decode cX10_unmark 66 = .ok (.iload 5, 2) := by decide +kernel
theorem dX10_unmark_68 : decode cX10_unmark 68 = .ok (.iload_n 2, 1) := by decide +kernel
theorem dX10_unmark_69 : decode cX10_unmark 69 = .ok (.if_icmp .gt 6, 3) := by decide +kernel
theorem dX10_unmark_72 : decode cX10_unmark 72 = .ok (.goto 9, 3) := by decide +kernel
theorem dX10_unmark_75 : decode cX10_unmark 75 = .ok (.iload 5, 2) := by decide +kernel
theorem dX10_unmark_77 : decode cX10_unmark 77 = .ok (.istore_n 2, 1) := by decide +kernel
theorem dX10_unmark_78 : decode cX10_unmark 78 = .ok (.iload 4, 2) := by decide +kernel
theorem dX10_unmark_80 : decode cX10_unmark 80 = .ok (.istore_n 3, 1) := by decide +kernel
theorem dX10_unmark_81 : decode cX10_unmark 81 = .ok (.iinc 4 1, 3) := by decide +kernel
theorem dX10_unmark_84 : decode cX10_unmark 84 = .ok (.goto (-62), 3) := by decide +kernel
theorem dX10_unmark_87 : decode cX10_unmark 87 = .ok (.aload_n 0, 1) := by decide +kernel
theorem dX10_unmark_88 : decode cX10_unmark 88 = .ok (.iconst 0, 1) := by decide +kernel
theorem dX10_unmark_89 : decode cX10_unmark 89 = .ok (.putfield 322, 3) := by decide +kernel
theorem dX10_unmark_92 : decode cX10_unmark 92 = .ok (.iload_n 3, 1) := by decide +kernel
theorem dX10_unmark_93 : decode cX10_unmark 93 = .ok (.ireturn, 1) := by decide +kernel
theorem dX10_sideAugurs_0 : decode cX10_sideAugurs 0 = .ok (.iconst 0, 1) := by decide +kernel
theorem dX10_sideAugurs_1 : decode cX10_sideAugurs 1 = .ok (.istore_n 2, 1) := by decide +kernel
theorem dX10_sideAugurs_2 : decode cX10_sideAugurs 2 = .ok (.iconst 0, 1) := by decide +kernel
theorem dX10_sideAugurs_3 : decode cX10_sideAugurs 3 = .ok (.istore_n 3, 1) := by decide +kernel
theorem dX10_sideAugurs_4 : decode cX10_sideAugurs 4 = .ok (.iload_n 3, 1) := by decide +kernel
theorem dX10_sideAugurs_5 : decode cX10_sideAugurs 5 = .ok (.aload_n 0, 1) := by decide +kernel
theorem dX10_sideAugurs_6 : decode cX10_sideAugurs 6 = .ok (.getfield 9, 3) := by decide +kernel
theorem dX10_sideAugurs_9 : decode cX10_sideAugurs 9 = .ok (.iconst 4, 1) := by decide +kernel
theorem dX10_sideAugurs_10 : decode cX10_sideAugurs 10 = .ok (.iaload, 1) := by decide +kernel
theorem dX10_sideAugurs_11 : decode cX10_sideAugurs 11 = .ok (.if_icmp .ge 29, 3) := by decide +kernel
theorem dX10_sideAugurs_14 : decode cX10_sideAugurs 14 = .ok (.iload_n 2, 1) := by decide +kernel
theorem dX10_sideAugurs_15 : decode cX10_sideAugurs 15 = .ok (.aload_n 0, 1) := by decide +kernel
theorem dX10_sideAugurs_16 : decode cX10_sideAugurs 16 = .ok (.iload_n 3, 1) := by decide +kernel
theorem dX10_sideAugurs_17 : decode cX10_sideAugurs 17 = .ok (.iconst 0, 1) := by decide +kernel
theorem dX10_sideAugurs_18 : decode cX10_sideAugurs 18 = .ok (.invokevirtual 222, 3) := by decide +kernel
theorem dX10_sideAugurs_21 : decode cX10_sideAugurs 21 = .ok (.iload_n 1, 1) := by decide +kernel
theorem dX10_sideAugurs_22 : decode cX10_sideAugurs 22 = .ok (.if_icmp .ne 9, 3) := by decide +kernel
theorem dX10_sideAugurs_25 : decode cX10_sideAugurs 25 = .ok (.iconst 1, 1) := by decide +kernel
theorem dX10_sideAugurs_26 : decode cX10_sideAugurs 26 = .ok (.iload_n 3, 1) := by decide +kernel
theorem dX10_sideAugurs_27 : decode cX10_sideAugurs 27 = .ok (.ishl, 1) := by decide +kernel
theorem dX10_sideAugurs_28 : decode cX10_sideAugurs 28 = .ok (.goto 4, 3) := by decide +kernel
theorem dX10_sideAugurs_31 : decode cX10_sideAugurs 31 = .ok (.iconst 0, 1) := by decide +kernel
theorem dX10_sideAugurs_32 : decode cX10_sideAugurs 32 = .ok (.ior, 1) := by decide +kernel
theorem dX10_sideAugurs_33 : decode cX10_sideAugurs 33 = .ok (.istore_n 2, 1) := by decide +kernel
theorem dX10_sideAugurs_34 : decode cX10_sideAugurs 34 = .ok (.iinc 3 1, 3) := by decide +kernel
theorem dX10_sideAugurs_37 : decode cX10_sideAugurs 37 = .ok (.goto (-33), 3) := by decide +kernel
theorem dX10_sideAugurs_40 : decode cX10_sideAugurs 40 = .ok (.iload_n 2, 1) := by decide +kernel
theorem dX10_sideAugurs_41 : decode cX10_sideAugurs 41 = .ok (.ireturn, 1) := by decide +kernel
theorem dX10_chosenOf_0 : decode cX10_chosenOf 0 = .ok (.aload_n 0, 1) := by decide +kernel
theorem dX10_chosenOf_1 : decode cX10_chosenOf 1 = .ok (.iload_n 1, 1) := by decide +kernel
theorem dX10_chosenOf_2 : decode cX10_chosenOf 2 = .ok (.invokevirtual 370, 3) := by decide +kernel
theorem dX10_chosenOf_5 : decode cX10_chosenOf 5 = .ok (.istore_n 2, 1) := by decide +kernel
theorem dX10_chosenOf_6 : decode cX10_chosenOf 6 = .ok (.iload_n 2, 1) := by decide +kernel
theorem dX10_chosenOf_7 : decode cX10_chosenOf 7 = .ok (.istore_n 3, 1) := by decide +kernel
theorem dX10_chosenOf_8 : decode cX10_chosenOf 8 = .ok (.iload_n 2, 1) := by decide +kernel
theorem dX10_chosenOf_9 : decode cX10_chosenOf 9 = .ok (.istore 4, 2) := by decide +kernel
theorem dX10_chosenOf_11 : decode cX10_chosenOf 11 = .ok (.iload 4, 2) := by decide +kernel
theorem dX10_chosenOf_13 : decode cX10_chosenOf 13 = .ok (.ifCond .lt 48, 3) := by decide +kernel
theorem dX10_chosenOf_16 : decode cX10_chosenOf 16 = .ok (.iload 4, 2) := by decide +kernel
theorem dX10_chosenOf_18 : decode cX10_chosenOf 18 = .ok (.iload_n 2, 1) := by decide +kernel
theorem dX10_chosenOf_19 : decode cX10_chosenOf 19 = .ok (.iconst (-1), 1) := by decide +kernel
theorem dX10_chosenOf_20 : decode cX10_chosenOf 20 = .ok (.ixor, 1) := by decide +kernel
theorem dX10_chosenOf_21 : decode cX10_chosenOf 21 = .ok (.iand, 1) := by decide +kernel
theorem dX10_chosenOf_22 : decode cX10_chosenOf 22 = .ok (.ifCond .ne 33, 3) := by decide +kernel
theorem dX10_chosenOf_25 : decode cX10_chosenOf 25 = .ok (.iload 4, 2) := by decide +kernel
theorem dX10_chosenOf_27 : decode cX10_chosenOf 27 = .ok (.invokestatic 355, 3) := by decide +kernel
theorem dX10_chosenOf_30 : decode cX10_chosenOf 30 = .ok (.iload_n 3, 1) := by decide +kernel
theorem dX10_chosenOf_31 : decode cX10_chosenOf 31 = .ok (.invokestatic 355, 3) := by decide +kernel
theorem dX10_chosenOf_34 : decode cX10_chosenOf 34 = .ok (.if_icmp .gt 21, 3) := by decide +kernel
theorem dX10_chosenOf_37 : decode cX10_chosenOf 37 = .ok (.aload_n 0, 1) := by decide +kernel
theorem dX10_chosenOf_38 : decode cX10_chosenOf 38 = .ok (.iload_n 1, 1) := by decide +kernel
theorem dX10_chosenOf_39 : decode cX10_chosenOf 39 = .ok (.iload 4, 2) := by decide +kernel
theorem dX10_chosenOf_41 : decode cX10_chosenOf 41 = .ok (.invokevirtual 239, 3) := by decide +kernel
theorem dX10_chosenOf_44 : decode cX10_chosenOf 44 = .ok (.aload_n 0, 1) := by decide +kernel
theorem dX10_chosenOf_45 : decode cX10_chosenOf 45 = .ok (.iload_n 1, 1) := by decide +kernel
theorem dX10_chosenOf_46 : decode cX10_chosenOf 46 = .ok (.invokevirtual 245, 3) := by decide +kernel
theorem dX10_chosenOf_49 : decode cX10_chosenOf 49 = .ok (.if_icmp .ne 6, 3) := by decide +kernel
theorem dX10_chosenOf_52 : decode cX10_chosenOf 52 = .ok (.iload 4, 2) := by decide +kernel
theorem dX10_chosenOf_54 : decode cX10_chosenOf 54 = .ok (.istore_n 3, 1) := by decide +kernel
theorem dX10_chosenOf_55 : decode cX10_chosenOf 55 = .ok (.iinc 4 (-1), 3) := by decide +kernel
theorem dX10_chosenOf_58 : decode cX10_chosenOf 58 = .ok (.goto (-47), 3) := by decide +kernel
theorem dX10_chosenOf_61 : decode cX10_chosenOf 61 = .ok (.iload_n 3, 1) := by decide +kernel
theorem dX10_chosenOf_62 : decode cX10_chosenOf 62 = .ok (.ireturn, 1) := by decide +kernel
theorem dX10_college_0 : decode cX10_college 0 = .ok (.aload_n 0, 1) := by decide +kernel
theorem dX10_college_1 : decode cX10_college 1 = .ok (.iload_n 1, 1) := by decide +kernel
theorem dX10_college_2 : decode cX10_college 2 = .ok (.invokevirtual 242, 3) := by decide +kernel
theorem dX10_college_5 : decode cX10_college 5 = .ok (.ifCond .eq 14, 3) := by decide +kernel
theorem dX10_college_8 : decode cX10_college 8 = .ok (.aload_n 0, 1) := by decide +kernel
theorem dX10_college_9 : decode cX10_college 9 = .ok (.iload_n 1, 1) := by decide +kernel
theorem dX10_college_10 : decode cX10_college 10 = .ok (.invokevirtual 373, 3) := by decide +kernel
theorem dX10_college_13 : decode cX10_college 13 = .ok (.invokestatic 355, 3) := by decide +kernel
theorem dX10_college_16 : decode cX10_college 16 = .ok (.goto 5, 3) := by decide +kernel
theorem dX10_college_19 : decode cX10_college 19 = .ok (.bipush (-2), 2) := by decide +kernel
theorem dX10_college_21 : decode cX10_college 21 = .ok (.ireturn, 1) := by decide +kernel
theorem dX10_chosen_0 : decode cX10_chosen 0 = .ok (.aload_n 0, 1) := by decide +kernel
theorem dX10_chosen_1 : decode cX10_chosen 1 = .ok (.iload_n 1, 1) := by decide +kernel
theorem dX10_chosen_2 : decode cX10_chosen 2 = .ok (.invokevirtual 242, 3) := by decide +kernel
theorem dX10_chosen_5 : decode cX10_chosen 5 = .ok (.ifCond .eq 11, 3) := by decide +kernel
theorem dX10_chosen_8 : decode cX10_chosen 8 = .ok (.aload_n 0, 1) := by decide +kernel
theorem dX10_chosen_9 : decode cX10_chosen 9 = .ok (.iload_n 1, 1) := by decide +kernel
theorem dX10_chosen_10 : decode cX10_chosen 10 = .ok (.invokevirtual 373, 3) := by decide +kernel
theorem dX10_chosen_13 : decode cX10_chosen 13 = .ok (.goto 5, 3) := by decide +kernel
theorem dX10_chosen_16 : decode cX10_chosen 16 = .ok (.bipush (-2), 2) := by decide +kernel
theorem dX10_chosen_18 : decode cX10_chosen 18 = .ok (.ireturn, 1) := by decide +kernel
theorem dX10_hold_0 : decode cX10_hold 0 = .ok (.aload_n 0, 1) := by decide +kernel
theorem dX10_hold_1 : decode cX10_hold 1 = .ok (.iload_n 1, 1) := by decide +kernel
theorem dX10_hold_2 : decode cX10_hold 2 = .ok (.invokevirtual 242, 3) := by decide +kernel
theorem dX10_hold_5 : decode cX10_hold 5 = .ok (.ifCond .eq 15, 3) := by decide +kernel
theorem dX10_hold_8 : decode cX10_hold 8 = .ok (.iload_n 2, 1) := by decide +kernel
theorem dX10_hold_9 : decode cX10_hold 9 = .ok (.i2l, 1) := by decide +kernel
theorem dX10_hold_10 : decode cX10_hold 10 = .ok (.lconst 0, 1) := by decide +kernel
theorem dX10_hold_11 : decode cX10_hold 11 = .ok (.ldc2_w 376, 3) := by decide +kernel
theorem dX10_hold_14 : decode cX10_hold 14 = .ok (.invokestatic 92, 3) := by decide +kernel
theorem dX10_hold_17 : decode cX10_hold 17 = .ok (.ifCond .ne 6, 3) := by decide +kernel
theorem dX10_hold_20 : decode cX10_hold 20 = .ok (.bipush (-2), 2) := by decide +kernel
theorem dX10_hold_22 : decode cX10_hold 22 = .ok (.ireturn, 1) := by decide +kernel
theorem dX10_hold_23 : decode cX10_hold 23 = .ok (.aload_n 0, 1) := by decide +kernel
theorem dX10_hold_24 : decode cX10_hold 24 = .ok (.iload_n 1, 1) := by decide +kernel
theorem dX10_hold_25 : decode cX10_hold 25 = .ok (.invokevirtual 370, 3) := by decide +kernel
theorem dX10_hold_28 : decode cX10_hold 28 = .ok (.istore_n 3, 1) := by decide +kernel
theorem dX10_hold_29 : decode cX10_hold 29 = .ok (.iconst 0, 1) := by decide +kernel
theorem dX10_hold_30 : decode cX10_hold 30 = .ok (.istore 4, 2) := by decide +kernel
theorem dX10_hold_32 : decode cX10_hold 32 = .ok (.iconst 0, 1) := by decide +kernel
theorem dX10_hold_33 : decode cX10_hold 33 = .ok (.istore 5, 2) := by decide +kernel
theorem dX10_hold_35 : decode cX10_hold 35 = .ok (.iload 5, 2) := by decide +kernel
theorem dX10_hold_37 : decode cX10_hold 37 = .ok (.iload_n 3, 1) := by decide +kernel
theorem dX10_hold_38 : decode cX10_hold 38 = .ok (.if_icmp .gt 44, 3) := by decide +kernel
theorem dX10_hold_41 : decode cX10_hold 41 = .ok (.iload 5, 2) := by decide +kernel
theorem dX10_hold_43 : decode cX10_hold 43 = .ok (.iload_n 3, 1) := by decide +kernel
theorem dX10_hold_44 : decode cX10_hold 44 = .ok (.iconst (-1), 1) := by decide +kernel
theorem dX10_hold_45 : decode cX10_hold 45 = .ok (.ixor, 1) := by decide +kernel
theorem dX10_hold_46 : decode cX10_hold 46 = .ok (.iand, 1) := by decide +kernel
theorem dX10_hold_47 : decode cX10_hold 47 = .ok (.ifCond .ne 29, 3) := by decide +kernel
theorem dX10_hold_50 : decode cX10_hold 50 = .ok (.iload 5, 2) := by decide +kernel
theorem dX10_hold_52 : decode cX10_hold 52 = .ok (.invokestatic 355, 3) := by decide +kernel
theorem dX10_hold_55 : decode cX10_hold 55 = .ok (.iload_n 2, 1) := by decide +kernel
theorem dX10_hold_56 : decode cX10_hold 56 = .ok (.if_icmp .gt 20, 3) := by decide +kernel
theorem dX10_hold_59 : decode cX10_hold 59 = .ok (.iload 4, 2) := by decide +kernel
theorem dX10_hold_61 : decode cX10_hold 61 = .ok (.aload_n 0, 1) := by decide +kernel
theorem dX10_hold_62 : decode cX10_hold 62 = .ok (.iload_n 1, 1) := by decide +kernel
theorem dX10_hold_63 : decode cX10_hold 63 = .ok (.iload 5, 2) := by decide +kernel
theorem dX10_hold_65 : decode cX10_hold 65 = .ok (.invokevirtual 239, 3) := by decide +kernel
theorem dX10_hold_68 : decode cX10_hold 68 = .ok (.invokestatic 355, 3) := by decide +kernel
theorem dX10_hold_71 : decode cX10_hold 71 = .ok (.invokestatic 298, 3) := by decide +kernel
theorem dX10_hold_74 : decode cX10_hold 74 = .ok (.istore 4, 2) := by decide +kernel
theorem dX10_hold_76 : decode cX10_hold 76 = .ok (.iinc 5 1, 3) := by decide +kernel
theorem dX10_hold_79 : decode cX10_hold 79 = .ok (.goto (-44), 3) := by decide +kernel
theorem dX10_hold_82 : decode cX10_hold 82 = .ok (.iload 4, 2) := by decide +kernel
theorem dX10_hold_84 : decode cX10_hold 84 = .ok (.ireturn, 1) := by decide +kernel
theorem dX10_idle_0 : decode cX10_idle 0 = .ok (.aload_n 0, 1) := by decide +kernel
theorem dX10_idle_1 : decode cX10_idle 1 = .ok (.iload_n 1, 1) := by decide +kernel
theorem dX10_idle_2 : decode cX10_idle 2 = .ok (.invokevirtual 242, 3) := by decide +kernel
theorem dX10_idle_5 : decode cX10_idle 5 = .ok (.ifCond .ne 6, 3) := by decide +kernel
theorem dX10_idle_8 : decode cX10_idle 8 = .ok (.bipush (-2), 2) := by decide +kernel
theorem dX10_idle_10 : decode cX10_idle 10 = .ok (.ireturn, 1) := by decide +kernel
theorem dX10_idle_11 : decode cX10_idle 11 = .ok (.iconst 0, 1) := by decide +kernel
theorem dX10_idle_12 : decode cX10_idle 12 = .ok (.istore_n 2, 1) := by decide +kernel
theorem dX10_idle_13 : decode cX10_idle 13 = .ok (.iconst 0, 1) := by decide +kernel
theorem dX10_idle_14 : decode cX10_idle 14 = .ok (.istore_n 3, 1) := by decide +kernel
theorem dX10_idle_15 : decode cX10_idle 15 = .ok (.iload_n 3, 1) := by decide +kernel
theorem dX10_idle_16 : decode cX10_idle 16 = .ok (.aload_n 0, 1) := by decide +kernel
theorem dX10_idle_17 : decode cX10_idle 17 = .ok (.getfield 9, 3) := by decide +kernel
theorem dX10_idle_20 : decode cX10_idle 20 = .ok (.iconst 4, 1) := by decide +kernel
theorem dX10_idle_21 : decode cX10_idle 21 = .ok (.iaload, 1) := by decide +kernel
theorem dX10_idle_22 : decode cX10_idle 22 = .ok (.if_icmp .ge 52, 3) := by decide +kernel
theorem dX10_idle_25 : decode cX10_idle 25 = .ok (.iload_n 2, 1) := by decide +kernel
theorem dX10_idle_26 : decode cX10_idle 26 = .ok (.aload_n 0, 1) := by decide +kernel
theorem dX10_idle_27 : decode cX10_idle 27 = .ok (.iload_n 3, 1) := by decide +kernel
theorem dX10_idle_28 : decode cX10_idle 28 = .ok (.iconst 0, 1) := by decide +kernel
theorem dX10_idle_29 : decode cX10_idle 29 = .ok (.invokevirtual 222, 3) := by decide +kernel
theorem dX10_idle_32 : decode cX10_idle 32 = .ok (.iload_n 1, 1) := by decide +kernel
theorem dX10_idle_33 : decode cX10_idle 33 = .ok (.if_icmp .ne 32, 3) := by decide +kernel
theorem dX10_idle_36 : decode cX10_idle 36 = .ok (.aload_n 0, 1) := by decide +kernel
theorem dX10_idle_37 : decode cX10_idle 37 = .ok (.iload_n 1, 1) := by decide +kernel
theorem dX10_idle_38 : decode cX10_idle 38 = .ok (.aload_n 0, 1) := by decide +kernel
theorem dX10_idle_39 : decode cX10_idle 39 = .ok (.invokevirtual 236, 3) := by decide +kernel
theorem dX10_idle_42 : decode cX10_idle 42 = .ok (.iconst 1, 1) := by decide +kernel
theorem dX10_idle_43 : decode cX10_idle 43 = .ok (.iload_n 3, 1) := by decide +kernel
theorem dX10_idle_44 : decode cX10_idle 44 = .ok (.ishl, 1) := by decide +kernel
theorem dX10_idle_45 : decode cX10_idle 45 = .ok (.iconst (-1), 1) := by decide +kernel
theorem dX10_idle_46 : decode cX10_idle 46 = .ok (.ixor, 1) := by decide +kernel
theorem dX10_idle_47 : decode cX10_idle 47 = .ok (.iand, 1) := by decide +kernel
theorem dX10_idle_48 : decode cX10_idle 48 = .ok (.invokevirtual 239, 3) := by decide +kernel
theorem dX10_idle_51 : decode cX10_idle 51 = .ok (.aload_n 0, 1) := by decide +kernel
theorem dX10_idle_52 : decode cX10_idle 52 = .ok (.iload_n 1, 1) := by decide +kernel
theorem dX10_idle_53 : decode cX10_idle 53 = .ok (.invokevirtual 245, 3) := by decide +kernel
theorem dX10_idle_56 : decode cX10_idle 56 = .ok (.if_icmp .ne 9, 3) := by decide +kernel
theorem dX10_idle_59 : decode cX10_idle 59 = .ok (.iconst 1, 1) := by decide +kernel
theorem dX10_idle_60 : decode cX10_idle 60 = .ok (.iload_n 3, 1) := by decide +kernel
theorem dX10_idle_61 : decode cX10_idle 61 = .ok (.ishl, 1) := by decide +kernel
theorem dX10_idle_62 : decode cX10_idle 62 = .ok (.goto 4, 3) := by decide +kernel
theorem dX10_idle_65 : decode cX10_idle 65 = .ok (.iconst 0, 1) := by decide +kernel
theorem dX10_idle_66 : decode cX10_idle 66 = .ok (.ior, 1) := by decide +kernel
theorem dX10_idle_67 : decode cX10_idle 67 = .ok (.istore_n 2, 1) := by decide +kernel
theorem dX10_idle_68 : decode cX10_idle 68 = .ok (.iinc 3 1, 3) := by decide +kernel
theorem dX10_idle_71 : decode cX10_idle 71 = .ok (.goto (-56), 3) := by decide +kernel
theorem dX10_idle_74 : decode cX10_idle 74 = .ok (.iload_n 2, 1) := by decide +kernel
theorem dX10_idle_75 : decode cX10_idle 75 = .ok (.ireturn, 1) := by decide +kernel
theorem dX10_lone_0 : decode cX10_lone 0 = .ok (.aload_n 0, 1) := by decide +kernel
theorem dX10_lone_1 : decode cX10_lone 1 = .ok (.iload_n 1, 1) := by decide +kernel
theorem dX10_lone_2 : decode cX10_lone 2 = .ok (.invokevirtual 242, 3) := by decide +kernel
theorem dX10_lone_5 : decode cX10_lone 5 = .ok (.ifCond .ne 6, 3) := by decide +kernel
theorem dX10_lone_8 : decode cX10_lone 8 = .ok (.bipush (-2), 2) := by decide +kernel
theorem dX10_lone_10 : decode cX10_lone 10 = .ok (.ireturn, 1) := by decide +kernel
theorem dX10_lone_11 : decode cX10_lone 11 = .ok (.iconst 0, 1) := by decide +kernel
theorem dX10_lone_12 : decode cX10_lone 12 = .ok (.istore_n 2, 1) := by decide +kernel
theorem dX10_lone_13 : decode cX10_lone 13 = .ok (.iconst 0, 1) := by decide +kernel
theorem dX10_lone_14 : decode cX10_lone 14 = .ok (.istore_n 3, 1) := by decide +kernel
theorem dX10_lone_15 : decode cX10_lone 15 = .ok (.iload_n 3, 1) := by decide +kernel
theorem dX10_lone_16 : decode cX10_lone 16 = .ok (.aload_n 0, 1) := by decide +kernel
theorem dX10_lone_17 : decode cX10_lone 17 = .ok (.getfield 9, 3) := by decide +kernel
theorem dX10_lone_20 : decode cX10_lone 20 = .ok (.iconst 4, 1) := by decide +kernel
theorem dX10_lone_21 : decode cX10_lone 21 = .ok (.iaload, 1) := by decide +kernel
theorem dX10_lone_22 : decode cX10_lone 22 = .ok (.if_icmp .ge 52, 3) := by decide +kernel
theorem dX10_lone_25 : decode cX10_lone 25 = .ok (.iload_n 2, 1) := by decide +kernel
theorem dX10_lone_26 : decode cX10_lone 26 = .ok (.aload_n 0, 1) := by decide +kernel
theorem dX10_lone_27 : decode cX10_lone 27 = .ok (.iload_n 3, 1) := by decide +kernel
theorem dX10_lone_28 : decode cX10_lone 28 = .ok (.iconst 0, 1) := by decide +kernel
theorem dX10_lone_29 : decode cX10_lone 29 = .ok (.invokevirtual 222, 3) := by decide +kernel
theorem dX10_lone_32 : decode cX10_lone 32 = .ok (.iload_n 1, 1) := by decide +kernel
theorem dX10_lone_33 : decode cX10_lone 33 = .ok (.if_icmp .ne 32, 3) := by decide +kernel
theorem dX10_lone_36 : decode cX10_lone 36 = .ok (.aload_n 0, 1) := by decide +kernel
theorem dX10_lone_37 : decode cX10_lone 37 = .ok (.iload_n 1, 1) := by decide +kernel
theorem dX10_lone_38 : decode cX10_lone 38 = .ok (.aload_n 0, 1) := by decide +kernel
theorem dX10_lone_39 : decode cX10_lone 39 = .ok (.invokevirtual 236, 3) := by decide +kernel
theorem dX10_lone_42 : decode cX10_lone 42 = .ok (.iconst 1, 1) := by decide +kernel
theorem dX10_lone_43 : decode cX10_lone 43 = .ok (.iload_n 3, 1) := by decide +kernel
theorem dX10_lone_44 : decode cX10_lone 44 = .ok (.ishl, 1) := by decide +kernel
theorem dX10_lone_45 : decode cX10_lone 45 = .ok (.iconst (-1), 1) := by decide +kernel
theorem dX10_lone_46 : decode cX10_lone 46 = .ok (.ixor, 1) := by decide +kernel
theorem dX10_lone_47 : decode cX10_lone 47 = .ok (.iand, 1) := by decide +kernel
theorem dX10_lone_48 : decode cX10_lone 48 = .ok (.invokevirtual 239, 3) := by decide +kernel
theorem dX10_lone_51 : decode cX10_lone 51 = .ok (.aload_n 0, 1) := by decide +kernel
theorem dX10_lone_52 : decode cX10_lone 52 = .ok (.iload_n 1, 1) := by decide +kernel
theorem dX10_lone_53 : decode cX10_lone 53 = .ok (.invokevirtual 245, 3) := by decide +kernel
theorem dX10_lone_56 : decode cX10_lone 56 = .ok (.if_icmp .eq 9, 3) := by decide +kernel
theorem dX10_lone_59 : decode cX10_lone 59 = .ok (.iconst 1, 1) := by decide +kernel
theorem dX10_lone_60 : decode cX10_lone 60 = .ok (.iload_n 3, 1) := by decide +kernel
theorem dX10_lone_61 : decode cX10_lone 61 = .ok (.ishl, 1) := by decide +kernel
theorem dX10_lone_62 : decode cX10_lone 62 = .ok (.goto 4, 3) := by decide +kernel
theorem dX10_lone_65 : decode cX10_lone 65 = .ok (.iconst 0, 1) := by decide +kernel
theorem dX10_lone_66 : decode cX10_lone 66 = .ok (.ior, 1) := by decide +kernel
theorem dX10_lone_67 : decode cX10_lone 67 = .ok (.istore_n 2, 1) := by decide +kernel
theorem dX10_lone_68 : decode cX10_lone 68 = .ok (.iinc 3 1, 3) := by decide +kernel
theorem dX10_lone_71 : decode cX10_lone 71 = .ok (.goto (-56), 3) := by decide +kernel
theorem dX10_lone_74 : decode cX10_lone 74 = .ok (.iload_n 2, 1) := by decide +kernel
theorem dX10_lone_75 : decode cX10_lone 75 = .ok (.ireturn, 1) := by decide +kernel
theorem dX10_tenure_0 : decode cX10_tenure 0 = .ok (.aload_n 0, 1) := by decide +kernel
theorem dX10_tenure_1 : decode cX10_tenure 1 = .ok (.iload_n 1, 1) := by decide +kernel
theorem dX10_tenure_2 : decode cX10_tenure 2 = .ok (.invokevirtual 242, 3) := by decide +kernel
theorem dX10_tenure_5 : decode cX10_tenure 5 = .ok (.ifCond .ne 6, 3) := by decide +kernel
theorem dX10_tenure_8 : decode cX10_tenure 8 = .ok (.bipush (-2), 2) := by decide +kernel
theorem dX10_tenure_10 : decode cX10_tenure 10 = .ok (.ireturn, 1) := by decide +kernel
theorem dX10_tenure_11 : decode cX10_tenure 11 = .ok (.iconst (-1), 1) := by decide +kernel
theorem dX10_tenure_12 : decode cX10_tenure 12 = .ok (.istore_n 2, 1) := by decide +kernel
theorem dX10_tenure_13 : decode cX10_tenure 13 = .ok (.iconst 0, 1) := by decide +kernel
theorem dX10_tenure_14 : decode cX10_tenure 14 = .ok (.istore_n 3, 1) := by decide +kernel
theorem dX10_tenure_15 : decode cX10_tenure 15 = .ok (.iload_n 3, 1) := by decide +kernel
theorem dX10_tenure_16 : decode cX10_tenure 16 = .ok (.aload_n 0, 1) := by decide +kernel
theorem dX10_tenure_17 : decode cX10_tenure 17 = .ok (.getfield 9, 3) := by decide +kernel
theorem dX10_tenure_20 : decode cX10_tenure 20 = .ok (.iconst 4, 1) := by decide +kernel
theorem dX10_tenure_21 : decode cX10_tenure 21 = .ok (.iaload, 1) := by decide +kernel
theorem dX10_tenure_22 : decode cX10_tenure 22 = .ok (.if_icmp .ge 45, 3) := by decide +kernel
theorem dX10_tenure_25 : decode cX10_tenure 25 = .ok (.aload_n 0, 1) := by decide +kernel
theorem dX10_tenure_26 : decode cX10_tenure 26 = .ok (.iload_n 3, 1) := by decide +kernel
theorem dX10_tenure_27 : decode cX10_tenure 27 = .ok (.iconst 0, 1) := by decide +kernel
theorem dX10_tenure_28 : decode cX10_tenure 28 = .ok (.invokevirtual 222, 3) := by decide +kernel
theorem dX10_tenure_31 : decode cX10_tenure 31 = .ok (.iload_n 1, 1) := by decide +kernel
theorem dX10_tenure_32 : decode cX10_tenure 32 = .ok (.if_icmp .ne 29, 3) := by decide +kernel
theorem dX10_tenure_35 : decode cX10_tenure 35 = .ok (.iload_n 2, 1) := by decide +kernel
theorem dX10_tenure_36 : decode cX10_tenure 36 = .ok (.iconst (-1), 1) := by decide +kernel
theorem dX10_tenure_37 : decode cX10_tenure 37 = .ok (.if_icmp .eq 22, 3) := by decide +kernel
theorem dX10_tenure_40 : decode cX10_tenure 40 = .ok (.aload_n 0, 1) := by decide +kernel
theorem dX10_tenure_41 : decode cX10_tenure 41 = .ok (.iload_n 3, 1) := by decide +kernel
theorem dX10_tenure_42 : decode cX10_tenure 42 = .ok (.invokevirtual 233, 3) := by decide +kernel
theorem dX10_tenure_45 : decode cX10_tenure 45 = .ok (.invokestatic 355, 3) := by decide +kernel
theorem dX10_tenure_48 : decode cX10_tenure 48 = .ok (.aload_n 0, 1) := by decide +kernel
theorem dX10_tenure_49 : decode cX10_tenure 49 = .ok (.iload_n 2, 1) := by decide +kernel
theorem dX10_tenure_50 : decode cX10_tenure 50 = .ok (.invokevirtual 233, 3) := by decide +kernel
theorem dX10_tenure_53 : decode cX10_tenure 53 = .ok (.invokestatic 355, 3) := by decide +kernel
theorem dX10_tenure_56 : decode cX10_tenure 56 = .ok (.if_icmp .le 5, 3) := by decide +kernel
theorem dX10_tenure_59 : decode cX10_tenure 59 = .ok (.iload_n 3, 1) := by decide +kernel
theorem dX10_tenure_60 : decode cX10_tenure 60 = .ok (.istore_n 2, 1) := by decide +kernel
theorem dX10_tenure_61 : decode cX10_tenure 61 = .ok (.iinc 3 1, 3) := by decide +kernel
theorem dX10_tenure_64 : decode cX10_tenure 64 = .ok (.goto (-49), 3) := by decide +kernel
theorem dX10_tenure_67 : decode cX10_tenure 67 = .ok (.iload_n 2, 1) := by decide +kernel
theorem dX10_tenure_68 : decode cX10_tenure 68 = .ok (.ireturn, 1) := by decide +kernel
theorem dX10_clear_0 : decode cX10_clear 0 = .ok (.aload_n 0, 1) := by decide +kernel
theorem dX10_clear_1 : decode cX10_clear 1 = .ok (.iload_n 1, 1) := by decide +kernel
theorem dX10_clear_2 : decode cX10_clear 2 = .ok (.invokevirtual 242, 3) := by decide +kernel
theorem dX10_clear_5 : decode cX10_clear 5 = .ok (.ifCond .eq 11, 3) := by decide +kernel
theorem dX10_clear_8 : decode cX10_clear 8 = .ok (.aload_n 0, 1) := by decide +kernel
theorem dX10_clear_9 : decode cX10_clear 9 = .ok (.iload_n 1, 1) := by decide +kernel
theorem dX10_clear_10 : decode cX10_clear 10 = .ok (.invokevirtual 313, 3) := by decide +kernel
theorem dX10_clear_13 : decode cX10_clear 13 = .ok (.goto 5, 3) := by decide +kernel
theorem dX10_clear_16 : decode cX10_clear 16 = .ok (.bipush (-2), 2) := by decide +kernel
theorem dX10_clear_18 : decode cX10_clear 18 = .ok (.ireturn, 1) := by decide +kernel
theorem dX10_run_0 : decode cX10_run 0 = .ok (.aload_n 0, 1) := by decide +kernel
theorem dX10_run_1 : decode cX10_run 1 = .ok (.iload_n 1, 1) := by decide +kernel
theorem dX10_run_2 : decode cX10_run 2 = .ok (.invokevirtual 242, 3) := by decide +kernel
theorem dX10_run_5 : decode cX10_run 5 = .ok (.ifCond .eq 15, 3) := by decide +kernel
theorem dX10_run_8 : decode cX10_run 8 = .ok (.aload_n 0, 1) := by decide +kernel
theorem dX10_run_9 : decode cX10_run 9 = .ok (.aload_n 0, 1) := by decide +kernel
theorem dX10_run_10 : decode cX10_run 10 = .ok (.iload_n 1, 1) := by decide +kernel
theorem dX10_run_11 : decode cX10_run 11 = .ok (.invokevirtual 313, 3) := by decide +kernel
theorem dX10_run_14 : decode cX10_run 14 = .ok (.invokevirtual 304, 3) := by decide +kernel
theorem dX10_run_17 : decode cX10_run 17 = .ok (.goto 5, 3) := by decide +kernel
theorem dX10_run_20 : decode cX10_run 20 = .ok (.bipush (-2), 2) := by decide +kernel
theorem dX10_run_22 : decode cX10_run 22 = .ok (.ireturn, 1) := by decide +kernel
theorem dX10_both_0 : decode cX10_both 0 = .ok (.aload_n 0, 1) := by decide +kernel
theorem dX10_both_1 : decode cX10_both 1 = .ok (.invokevirtual 96, 3) := by decide +kernel
theorem dX10_both_4 : decode cX10_both 4 = .ok (.ifCond .eq 17, 3) := by decide +kernel
theorem dX10_both_7 : decode cX10_both 7 = .ok (.aload_n 0, 1) := by decide +kernel
theorem dX10_both_8 : decode cX10_both 8 = .ok (.iconst 0, 1) := by decide +kernel
theorem dX10_both_9 : decode cX10_both 9 = .ok (.invokevirtual 245, 3) := by decide +kernel
theorem dX10_both_12 : decode cX10_both 12 = .ok (.aload_n 0, 1) := by decide +kernel
theorem dX10_both_13 : decode cX10_both 13 = .ok (.iconst 1, 1) := by decide +kernel
theorem dX10_both_14 : decode cX10_both 14 = .ok (.invokevirtual 245, 3) := by decide +kernel
theorem dX10_both_17 : decode cX10_both 17 = .ok (.iand, 1) := by decide +kernel
theorem dX10_both_18 : decode cX10_both 18 = .ok (.goto 5, 3) := by decide +kernel
theorem dX10_both_21 : decode cX10_both 21 = .ok (.bipush (-2), 2) := by decide +kernel
theorem dX10_both_23 : decode cX10_both 23 = .ok (.ireturn, 1) := by decide +kernel
theorem dX10_fallsBy_0 : decode cX10_fallsBy 0 = .ok (.aload_n 0, 1) := by decide +kernel
theorem dX10_fallsBy_1 : decode cX10_fallsBy 1 = .ok (.getfield 40, 3) := by decide +kernel
theorem dX10_fallsBy_4 : decode cX10_fallsBy 4 = .ok (.iload_n 1, 1) := by decide +kernel
theorem dX10_fallsBy_5 : decode cX10_fallsBy 5 = .ok (.iaload, 1) := by decide +kernel
theorem dX10_fallsBy_6 : decode cX10_fallsBy 6 = .ok (.iconst (-1), 1) := by decide +kernel
theorem dX10_fallsBy_7 : decode cX10_fallsBy 7 = .ok (.if_icmp .ne 7, 3) := by decide +kernel
theorem dX10_fallsBy_10 : decode cX10_fallsBy 10 = .ok (.iconst 0, 1) := by decide +kernel
theorem dX10_fallsBy_11 : decode cX10_fallsBy 11 = .ok (.goto 11, 3) := by decide +kernel
theorem dX10_fallsBy_14 : decode cX10_fallsBy 14 = .ok (.iconst 1, 1) := by decide +kernel
theorem dX10_fallsBy_15 : decode cX10_fallsBy 15 = .ok (.aload_n 0, 1) := by decide +kernel
theorem dX10_fallsBy_16 : decode cX10_fallsBy 16 = .ok (.getfield 40, 3) := by decide +kernel
theorem dX10_fallsBy_19 : decode cX10_fallsBy 19 = .ok (.iload_n 1, 1) := by decide +kernel
theorem dX10_fallsBy_20 : decode cX10_fallsBy 20 = .ok (.iaload, 1) := by decide +kernel
theorem dX10_fallsBy_21 : decode cX10_fallsBy 21 = .ok (.ishl, 1) := by decide +kernel
theorem dX10_fallsBy_22 : decode cX10_fallsBy 22 = .ok (.istore_n 2, 1) := by decide +kernel
theorem dX10_fallsBy_23 : decode cX10_fallsBy 23 = .ok (.iconst 0, 1) := by decide +kernel
theorem dX10_fallsBy_24 : decode cX10_fallsBy 24 = .ok (.istore_n 3, 1) := by decide +kernel
theorem dX10_fallsBy_25 : decode cX10_fallsBy 25 = .ok (.iload_n 3, 1) := by decide +kernel
theorem dX10_fallsBy_26 : decode cX10_fallsBy 26 = .ok (.aload_n 0, 1) := by decide +kernel
theorem dX10_fallsBy_27 : decode cX10_fallsBy 27 = .ok (.getfield 9, 3) := by decide +kernel
theorem dX10_fallsBy_30 : decode cX10_fallsBy 30 = .ok (.iconst 5, 1) := by decide +kernel
theorem dX10_fallsBy_31 : decode cX10_fallsBy 31 = .ok (.iaload, 1) := by decide +kernel
theorem dX10_fallsBy_32 : decode cX10_fallsBy 32 = .ok (.if_icmp .ge 35, 3) := by decide +kernel
theorem dX10_fallsBy_35 : decode cX10_fallsBy 35 = .ok (.aload_n 0, 1) := by decide +kernel
theorem dX10_fallsBy_36 : decode cX10_fallsBy 36 = .ok (.getfield 43, 3) := by decide +kernel
theorem dX10_fallsBy_39 : decode cX10_fallsBy 39 = .ok (.iload_n 3, 1) := by decide +kernel
theorem dX10_fallsBy_40 : decode cX10_fallsBy 40 = .ok (.iaload, 1) := by decide +kernel
theorem dX10_fallsBy_41 : decode cX10_fallsBy 41 = .ok (.iconst (-1), 1) := by decide +kernel
theorem dX10_fallsBy_42 : decode cX10_fallsBy 42 = .ok (.if_icmp .eq 19, 3) := by decide +kernel
theorem dX10_fallsBy_45 : decode cX10_fallsBy 45 = .ok (.aload_n 0, 1) := by decide +kernel
theorem dX10_fallsBy_46 : decode cX10_fallsBy 46 = .ok (.iload_n 3, 1) := by decide +kernel
theorem dX10_fallsBy_47 : decode cX10_fallsBy 47 = .ok (.invokevirtual 352, 3) := by decide +kernel
theorem dX10_fallsBy_50 : decode cX10_fallsBy 50 = .ok (.iload_n 2, 1) := by decide +kernel
theorem dX10_fallsBy_51 : decode cX10_fallsBy 51 = .ok (.iand, 1) := by decide +kernel
theorem dX10_fallsBy_52 : decode cX10_fallsBy 52 = .ok (.ifCond .eq 9, 3) := by decide +kernel
theorem dX10_fallsBy_55 : decode cX10_fallsBy 55 = .ok (.iload_n 2, 1) := by decide +kernel
theorem dX10_fallsBy_56 : decode cX10_fallsBy 56 = .ok (.iconst 1, 1) := by decide +kernel
theorem dX10_fallsBy_57 : decode cX10_fallsBy 57 = .ok (.iload_n 3, 1) := by decide +kernel
theorem dX10_fallsBy_58 : decode cX10_fallsBy 58 = .ok (.ishl, 1) := by decide +kernel
theorem dX10_fallsBy_59 : decode cX10_fallsBy 59 = .ok (.ior, 1) := by decide +kernel
theorem dX10_fallsBy_60 : decode cX10_fallsBy 60 = .ok (.istore_n 2, 1) := by decide +kernel
theorem dX10_fallsBy_61 : decode cX10_fallsBy 61 = .ok (.iinc 3 1, 3) := by decide +kernel
theorem dX10_fallsBy_64 : decode cX10_fallsBy 64 = .ok (.goto (-39), 3) := by decide +kernel
theorem dX10_fallsBy_67 : decode cX10_fallsBy 67 = .ok (.iload_n 2, 1) := by decide +kernel
theorem dX10_fallsBy_68 : decode cX10_fallsBy 68 = .ok (.ireturn, 1) := by decide +kernel
theorem dX10_falls_0 : decode cX10_falls 0 = .ok (.aload_n 0, 1) := by decide +kernel
theorem dX10_falls_1 : decode cX10_falls 1 = .ok (.iload_n 1, 1) := by decide +kernel
theorem dX10_falls_2 : decode cX10_falls 2 = .ok (.invokevirtual 292, 3) := by decide +kernel
theorem dX10_falls_5 : decode cX10_falls 5 = .ok (.ifCond .eq 11, 3) := by decide +kernel
theorem dX10_falls_8 : decode cX10_falls 8 = .ok (.aload_n 0, 1) := by decide +kernel
theorem dX10_falls_9 : decode cX10_falls 9 = .ok (.iload_n 1, 1) := by decide +kernel
theorem dX10_falls_10 : decode cX10_falls 10 = .ok (.invokevirtual 378, 3) := by decide +kernel
theorem dX10_falls_13 : decode cX10_falls 13 = .ok (.goto 5, 3) := by decide +kernel
theorem dX10_falls_16 : decode cX10_falls 16 = .ok (.bipush (-2), 2) := by decide +kernel
theorem dX10_falls_18 : decode cX10_falls 18 = .ok (.ireturn, 1) := by decide +kernel
theorem dX10_worthBy_0 : decode cX10_worthBy 0 = .ok (.iconst 0, 1) := by decide +kernel
theorem dX10_worthBy_1 : decode cX10_worthBy 1 = .ok (.istore_n 2, 1) := by decide +kernel
theorem dX10_worthBy_2 : decode cX10_worthBy 2 = .ok (.iconst 0, 1) := by decide +kernel
theorem dX10_worthBy_3 : decode cX10_worthBy 3 = .ok (.istore_n 3, 1) := by decide +kernel
theorem dX10_worthBy_4 : decode cX10_worthBy 4 = .ok (.iload_n 3, 1) := by decide +kernel
theorem dX10_worthBy_5 : decode cX10_worthBy 5 = .ok (.aload_n 0, 1) := by decide +kernel
theorem dX10_worthBy_6 : decode cX10_worthBy 6 = .ok (.getfield 9, 3) := by decide +kernel
theorem dX10_worthBy_9 : decode cX10_worthBy 9 = .ok (.iconst 5, 1) := by decide +kernel
theorem dX10_worthBy_10 : decode cX10_worthBy 10 = .ok (.iaload, 1) := by decide +kernel
theorem dX10_worthBy_11 : decode cX10_worthBy 11 = .ok (.if_icmp .ge 24, 3) := by decide +kernel
theorem dX10_worthBy_14 : decode cX10_worthBy 14 = .ok (.iload_n 2, 1) := by decide +kernel
theorem dX10_worthBy_15 : decode cX10_worthBy 15 = .ok (.iload_n 1, 1) := by decide +kernel
theorem dX10_worthBy_16 : decode cX10_worthBy 16 = .ok (.iload_n 3, 1) := by decide +kernel
theorem dX10_worthBy_17 : decode cX10_worthBy 17 = .ok (.invokestatic 230, 3) := by decide +kernel
theorem dX10_worthBy_20 : decode cX10_worthBy 20 = .ok (.aload_n 0, 1) := by decide +kernel
theorem dX10_worthBy_21 : decode cX10_worthBy 21 = .ok (.iload_n 3, 1) := by decide +kernel
theorem dX10_worthBy_22 : decode cX10_worthBy 22 = .ok (.iconst 1, 1) := by decide +kernel
theorem dX10_worthBy_23 : decode cX10_worthBy 23 = .ok (.invokevirtual 228, 3) := by decide +kernel
theorem dX10_worthBy_26 : decode cX10_worthBy 26 = .ok (.imul, 1) := by decide +kernel
theorem dX10_worthBy_27 : decode cX10_worthBy 27 = .ok (.iadd, 1) := by decide +kernel
theorem dX10_worthBy_28 : decode cX10_worthBy 28 = .ok (.istore_n 2, 1) := by decide +kernel
theorem dX10_worthBy_29 : decode cX10_worthBy 29 = .ok (.iinc 3 1, 3) := by decide +kernel
theorem dX10_worthBy_32 : decode cX10_worthBy 32 = .ok (.goto (-28), 3) := by decide +kernel
theorem dX10_worthBy_35 : decode cX10_worthBy 35 = .ok (.iload_n 2, 1) := by decide +kernel
theorem dX10_worthBy_36 : decode cX10_worthBy 36 = .ok (.ireturn, 1) := by decide +kernel
theorem dX10_worst_0 : decode cX10_worst 0 = .ok (.aload_n 0, 1) := by decide +kernel
theorem dX10_worst_1 : decode cX10_worst 1 = .ok (.invokevirtual 289, 3) := by decide +kernel
theorem dX10_worst_4 : decode cX10_worst 4 = .ok (.ifCond .ne 6, 3) := by decide +kernel
theorem dX10_worst_7 : decode cX10_worst 7 = .ok (.bipush (-2), 2) := by decide +kernel
theorem dX10_worst_9 : decode cX10_worst 9 = .ok (.ireturn, 1) := by decide +kernel
theorem dX10_worst_10 : decode cX10_worst 10 = .ok (.iconst (-1), 1) := by decide +kernel
theorem dX10_worst_11 : decode cX10_worst 11 = .ok (.istore_n 1, 1) := by decide +kernel
theorem dX10_worst_12 : decode cX10_worst 12 = .ok (.iconst 0, 1) := by decide +kernel
theorem dX10_worst_13 : decode cX10_worst 13 = .ok (.istore_n 2, 1) := by decide +kernel
theorem dX10_worst_14 : decode cX10_worst 14 = .ok (.iconst 0, 1) := by decide +kernel
theorem dX10_worst_15 : decode cX10_worst 15 = .ok (.istore_n 3, 1) := by decide +kernel
theorem dX10_worst_16 : decode cX10_worst 16 = .ok (.iload_n 3, 1) := by decide +kernel
theorem dX10_worst_17 : decode cX10_worst 17 = .ok (.aload_n 0, 1) := by decide +kernel
theorem dX10_worst_18 : decode cX10_worst 18 = .ok (.getfield 9, 3) := by decide +kernel
theorem dX10_worst_21 : decode cX10_worst 21 = .ok (.iconst 0, 1) := by decide +kernel
theorem dX10_worst_22 : decode cX10_worst 22 = .ok (.iaload, 1) := by decide +kernel
theorem dX10_worst_23 : decode cX10_worst 23 = .ok (.if_icmp .ge 34, 3) := by decide +kernel
theorem dX10_worst_26 : decode cX10_worst 26 = .ok (.aload_n 0, 1) := by decide +kernel
theorem dX10_worst_27 : decode cX10_worst 27 = .ok (.aload_n 0, 1) := by decide +kernel
theorem dX10_worst_28 : decode cX10_worst 28 = .ok (.iload_n 3, 1) := by decide +kernel
theorem dX10_worst_29 : decode cX10_worst 29 = .ok (.invokevirtual 378, 3) := by decide +kernel
theorem dX10_worst_32 : decode cX10_worst 32 = .ok (.invokevirtual 381, 3) := by decide +kernel
theorem dX10_worst_35 : decode cX10_worst 35 = .ok (.istore 4, 2) := by decide +kernel
theorem dX10_worst_37 : decode cX10_worst 37 = .ok (.iload 4, 2) := by decide +kernel
theorem dX10_worst_39 : decode cX10_worst 39 = .ok (.iload_n 2, 1) := by decide +kernel
theorem dX10_worst_40 : decode cX10_worst 40 = .ok (.if_icmp .gt 6, 3) := by decide +kernel
theorem dX10_worst_43 : decode cX10_worst 43 = .ok (.goto 8, 3) := by decide +kernel
theorem dX10_worst_46 : decode cX10_worst 46 = .ok (.iload 4, 2) := by decide +kernel
theorem dX10_worst_48 : decode cX10_worst 48 = .ok (.istore_n 2, 1) := by decide +kernel
theorem dX10_worst_49 : decode cX10_worst 49 = .ok (.iload_n 3, 1) := by decide +kernel
theorem dX10_worst_50 : decode cX10_worst 50 = .ok (.istore_n 1, 1) := by decide +kernel
theorem dX10_worst_51 : decode cX10_worst 51 = .ok (.iinc 3 1, 3) := by decide +kernel
theorem dX10_worst_54 : decode cX10_worst 54 = .ok (.goto (-38), 3) := by decide +kernel
theorem dX10_worst_57 : decode cX10_worst 57 = .ok (.iload_n 1, 1) := by decide +kernel
theorem dX10_worst_58 : decode cX10_worst 58 = .ok (.ireturn, 1) := by decide +kernel
theorem dX10_numberAt_0 : decode cX10_numberAt 0 = .ok (.aload_n 0, 1) := by decide +kernel
theorem dX10_numberAt_1 : decode cX10_numberAt 1 = .ok (.getfield 80, 3) := by decide +kernel
theorem dX10_numberAt_4 : decode cX10_numberAt 4 = .ok (.bipush 60, 2) := by decide +kernel
theorem dX10_numberAt_6 : decode cX10_numberAt 6 = .ok (.iload_n 1, 1) := by decide +kernel
theorem dX10_numberAt_7 : decode cX10_numberAt 7 = .ok (.imul, 1) := by decide +kernel
theorem dX10_numberAt_8 : decode cX10_numberAt 8 = .ok (.iload_n 2, 1) := by decide +kernel
theorem dX10_numberAt_9 : decode cX10_numberAt 9 = .ok (.iadd, 1) := by decide +kernel
theorem dX10_numberAt_10 : decode cX10_numberAt 10 = .ok (.laload, 1) := by decide +kernel
theorem dX10_numberAt_11 : decode cX10_numberAt 11 = .ok (.lreturn, 1) := by decide +kernel
theorem dX10_eatsBy_0 : decode cX10_eatsBy 0 = .ok (.iload_n 1, 1) := by decide +kernel
theorem dX10_eatsBy_1 : decode cX10_eatsBy 1 = .ok (.bipush 100, 2) := by decide +kernel
theorem dX10_eatsBy_3 : decode cX10_eatsBy 3 = .ok (.irem, 1) := by decide +kernel
theorem dX10_eatsBy_4 : decode cX10_eatsBy 4 = .ok (.istore_n 3, 1) := by decide +kernel
theorem dX10_eatsBy_5 : decode cX10_eatsBy 5 = .ok (.iload_n 2, 1) := by decide +kernel
theorem dX10_eatsBy_6 : decode cX10_eatsBy 6 = .ok (.iload_n 3, 1) := by decide +kernel
theorem dX10_eatsBy_7 : decode cX10_eatsBy 7 = .ok (.if_icmp .gt 12, 3) := by decide +kernel
theorem dX10_eatsBy_10 : decode cX10_eatsBy 10 = .ok (.iload_n 1, 1) := by decide +kernel
theorem dX10_eatsBy_11 : decode cX10_eatsBy 11 = .ok (.bipush 100, 2) := by decide +kernel
theorem dX10_eatsBy_13 : decode cX10_eatsBy 13 = .ok (.idiv, 1) := by decide +kernel
theorem dX10_eatsBy_14 : decode cX10_eatsBy 14 = .ok (.iload_n 2, 1) := by decide +kernel
theorem dX10_eatsBy_15 : decode cX10_eatsBy 15 = .ok (.iadd, 1) := by decide +kernel
theorem dX10_eatsBy_16 : decode cX10_eatsBy 16 = .ok (.goto 6, 3) := by decide +kernel
theorem dX10_eatsBy_19 : decode cX10_eatsBy 19 = .ok (.iload_n 2, 1) := by decide +kernel
theorem dX10_eatsBy_20 : decode cX10_eatsBy 20 = .ok (.iload_n 3, 1) := by decide +kernel
theorem dX10_eatsBy_21 : decode cX10_eatsBy 21 = .ok (.isub, 1) := by decide +kernel
theorem dX10_eatsBy_22 : decode cX10_eatsBy 22 = .ok (.aload_n 0, 1) := by decide +kernel
theorem dX10_eatsBy_23 : decode cX10_eatsBy 23 = .ok (.getfield 9, 3) := by decide +kernel
theorem dX10_eatsBy_26 : decode cX10_eatsBy 26 = .ok (.iconst 2, 1) := by decide +kernel
theorem dX10_eatsBy_27 : decode cX10_eatsBy 27 = .ok (.iaload, 1) := by decide +kernel
theorem dX10_eatsBy_28 : decode cX10_eatsBy 28 = .ok (.if_icmp .lt 7, 3) := by decide +kernel
theorem dX10_eatsBy_31 : decode cX10_eatsBy 31 = .ok (.iconst 1, 1) := by decide +kernel
theorem dX10_eatsBy_32 : decode cX10_eatsBy 32 = .ok (.goto 4, 3) := by decide +kernel
theorem dX10_eatsBy_35 : decode cX10_eatsBy 35 = .ok (.iconst 0, 1) := by decide +kernel
theorem dX10_eatsBy_36 : decode cX10_eatsBy 36 = .ok (.ireturn, 1) := by decide +kernel
theorem dX10_layPairs_0 : decode cX10_layPairs 0 = .ok (.iload_n 1, 1) := by decide +kernel
theorem dX10_layPairs_1 : decode cX10_layPairs 1 = .ok (.invokestatic 384, 3) := by decide +kernel
theorem dX10_layPairs_4 : decode cX10_layPairs 4 = .ok (.ifCond .eq 10, 3) := by decide +kernel
theorem dX10_layPairs_7 : decode cX10_layPairs 7 = .ok (.aload_n 0, 1) := by decide +kernel
theorem dX10_layPairs_8 : decode cX10_layPairs 8 = .ok (.invokevirtual 96, 3) := by decide +kernel
theorem dX10_layPairs_11 : decode cX10_layPairs 11 = .ok (.ifCond .ne 6, 3) := by decide +kernel
theorem dX10_layPairs_14 : decode cX10_layPairs 14 = .ok (.bipush (-2), 2) := by decide +kernel
theorem dX10_layPairs_16 : decode cX10_layPairs 16 = .ok (.ireturn, 1) := by decide +kernel
theorem dX10_layPairs_17 : decode cX10_layPairs 17 = .ok (.aload_n 0, 1) := by decide +kernel
theorem dX10_layPairs_18 : decode cX10_layPairs 18 = .ok (.getfield 74, 3) := by decide +kernel
theorem dX10_layPairs_21 : decode cX10_layPairs 21 = .ok (.iload_n 1, 1) := by decide +kernel
theorem dX10_layPairs_22 : decode cX10_layPairs 22 = .ok (.iaload, 1) := by decide +kernel
theorem dX10_layPairs_23 : decode cX10_layPairs 23 = .ok (.iconst (-1), 1) := by decide +kernel
theorem dX10_layPairs_24 : decode cX10_layPairs 24 = .ok (.if_icmp .ne 6, 3) := by decide +kernel
theorem dX10_layPairs_27 : decode cX10_layPairs 27 = .ok (.bipush (-6), 2) := by decide +kernel
theorem dX10_layPairs_29 : decode cX10_layPairs 29 = .ok (.ireturn, 1) := by decide +kernel
theorem dX10_layPairs_30 : decode cX10_layPairs 30 = .ok (.aload_n 0, 1) := by decide +kernel
theorem dX10_layPairs_31 : decode cX10_layPairs 31 = .ok (.getfield 74, 3) := by decide +kernel
theorem dX10_layPairs_34 : decode cX10_layPairs 34 = .ok (.iload_n 1, 1) := by decide +kernel
theorem dX10_layPairs_35 : decode cX10_layPairs 35 = .ok (.iaload, 1) := by decide +kernel
theorem dX10_layPairs_36 : decode cX10_layPairs 36 = .ok (.iconst 2, 1) := by decide +kernel
theorem dX10_layPairs_37 : decode cX10_layPairs 37 = .ok (.irem, 1) := by decide +kernel
theorem dX10_layPairs_38 : decode cX10_layPairs 38 = .ok (.ifCond .eq 6, 3) := by decide +kernel
theorem dX10_layPairs_41 : decode cX10_layPairs 41 = .ok (.bipush (-2), 2) := by decide +kernel
theorem dX10_layPairs_43 : decode cX10_layPairs 43 = .ok (.ireturn, 1) := by decide +kernel
theorem dX10_layPairs_44 : decode cX10_layPairs 44 = .ok (.iconst 0, 1) := by decide +kernel
theorem dX10_layPairs_45 : decode cX10_layPairs 45 = .ok (.istore_n 2, 1) := by decide +kernel
theorem dX10_layPairs_46 : decode cX10_layPairs 46 = .ok (.iload_n 2, 1) := by decide +kernel
theorem dX10_layPairs_47 : decode cX10_layPairs 47 = .ok (.aload_n 0, 1) := by decide +kernel
theorem dX10_layPairs_48 : decode cX10_layPairs 48 = .ok (.getfield 74, 3) := by decide +kernel
theorem dX10_layPairs_51 : decode cX10_layPairs 51 = .ok (.iload_n 1, 1) := by decide +kernel
theorem dX10_layPairs_52 : decode cX10_layPairs 52 = .ok (.iaload, 1) := by decide +kernel
theorem dX10_layPairs_53 : decode cX10_layPairs 53 = .ok (.if_icmp .ge 41, 3) := by decide +kernel
theorem dX10_layPairs_56 : decode cX10_layPairs 56 = .ok (.aload_n 0, 1) := by decide +kernel
theorem dX10_layPairs_57 : decode cX10_layPairs 57 = .ok (.aload_n 0, 1) := by decide +kernel
theorem dX10_layPairs_58 : decode cX10_layPairs 58 = .ok (.iload_n 1, 1) := by decide +kernel
theorem dX10_layPairs_59 : decode cX10_layPairs 59 = .ok (.iload_n 2, 1) := by decide +kernel
theorem dX10_layPairs_60 : decode cX10_layPairs 60 = .ok (.invokevirtual 387, 3) := by decide +kernel
theorem dX10_layPairs_63 : decode cX10_layPairs 63 = .ok (.invokevirtual 248, 3) := by decide +kernel
theorem dX10_layPairs_66 : decode cX10_layPairs 66 = .ok (.ifCond .eq 19, 3) := by decide +kernel
theorem dX10_layPairs_69 : decode cX10_layPairs 69 = .ok (.aload_n 0, 1) := by decide +kernel
theorem dX10_layPairs_70 : decode cX10_layPairs 70 = .ok (.iload_n 1, 1) := by decide +kernel
theorem dX10_layPairs_71 : decode cX10_layPairs 71 = .ok (.iload_n 2, 1) := by decide +kernel
theorem dX10_layPairs_72 : decode cX10_layPairs 72 = .ok (.iconst 1, 1) := by decide +kernel
theorem dX10_layPairs_73 : decode cX10_layPairs 73 = .ok (.iadd, 1) := by decide +kernel
theorem dX10_layPairs_74 : decode cX10_layPairs 74 = .ok (.invokevirtual 387, 3) := by decide +kernel
theorem dX10_layPairs_77 : decode cX10_layPairs 77 = .ok (.lconst 0, 1) := by decide +kernel
theorem dX10_layPairs_78 : decode cX10_layPairs 78 = .ok (.lconst 1, 1) := by decide +kernel
theorem dX10_layPairs_79 : decode cX10_layPairs 79 = .ok (.invokestatic 92, 3) := by decide +kernel
theorem dX10_layPairs_82 : decode cX10_layPairs 82 = .ok (.ifCond .ne 6, 3) := by decide +kernel
theorem dX10_layPairs_85 : decode cX10_layPairs 85 = .ok (.bipush (-2), 2) := by decide +kernel
theorem dX10_layPairs_87 : decode cX10_layPairs 87 = .ok (.ireturn, 1) := by decide +kernel
theorem dX10_layPairs_88 : decode cX10_layPairs 88 = .ok (.iinc 2 2, 3) := by decide +kernel
theorem dX10_layPairs_91 : decode cX10_layPairs 91 = .ok (.goto (-45), 3) := by decide +kernel
theorem dX10_layPairs_94 : decode cX10_layPairs 94 = .ok (.aload_n 0, 1) := by decide +kernel
theorem dX10_layPairs_95 : decode cX10_layPairs 95 = .ok (.iconst 0, 1) := by decide +kernel
theorem dX10_layPairs_96 : decode cX10_layPairs 96 = .ok (.putfield 391, 3) := by decide +kernel
theorem dX10_layPairs_99 : decode cX10_layPairs 99 = .ok (.iconst 0, 1) := by decide +kernel
theorem dX10_layPairs_100 : decode cX10_layPairs 100 = .ok (.istore_n 2, 1) := by decide +kernel
theorem dX10_layPairs_101 : decode cX10_layPairs 101 = .ok (.iload_n 2, 1) := by decide +kernel
theorem dX10_layPairs_102 : decode cX10_layPairs 102 = .ok (.bipush 10, 2) := by decide +kernel
theorem dX10_layPairs_104 : decode cX10_layPairs 104 = .ok (.if_icmp .ge 135, 3) := by decide +kernel
theorem dX10_layPairs_107 : decode cX10_layPairs 107 = .ok (.iconst 0, 1) := by decide +kernel
theorem dX10_layPairs_108 : decode cX10_layPairs 108 = .ok (.istore_n 3, 1) := by decide +kernel
theorem dX10_layPairs_109 : decode cX10_layPairs 109 = .ok (.iload_n 3, 1) := by decide +kernel
theorem dX10_layPairs_110 : decode cX10_layPairs 110 = .ok (.aload_n 0, 1) := by decide +kernel
theorem dX10_layPairs_111 : decode cX10_layPairs 111 = .ok (.getfield 9, 3) := by decide +kernel
theorem dX10_layPairs_114 : decode cX10_layPairs 114 = .ok (.iconst 0, 1) := by decide +kernel
theorem dX10_layPairs_115 : decode cX10_layPairs 115 = .ok (.iaload, 1) := by decide +kernel
theorem dX10_layPairs_116 : decode cX10_layPairs 116 = .ok (.if_icmp .gt 117, 3) := by decide +kernel
theorem dX10_layPairs_119 : decode cX10_layPairs 119 = .ok (.bipush 100, 2) := by decide +kernel
theorem dX10_layPairs_121 : decode cX10_layPairs 121 = .ok (.iload_n 2, 1) := by decide +kernel
theorem dX10_layPairs_122 : decode cX10_layPairs 122 = .ok (.imul, 1) := by decide +kernel
theorem dX10_layPairs_123 : decode cX10_layPairs 123 = .ok (.iload_n 3, 1) := by decide +kernel
theorem dX10_layPairs_124 : decode cX10_layPairs 124 = .ok (.iadd, 1) := by decide +kernel
theorem dX10_layPairs_125 : decode cX10_layPairs 125 = .ok (.istore 4, 2) := by decide +kernel
theorem dX10_layPairs_127 : decode cX10_layPairs 127 = .ok (.iconst 1, 1) := by decide +kernel
theorem dX10_layPairs_128 : decode cX10_layPairs 128 = .ok (.istore 5, 2) := by decide +kernel
theorem dX10_layPairs_130 : decode cX10_layPairs 130 = .ok (.iconst 0, 1) := by decide +kernel
theorem dX10_layPairs_131 : decode cX10_layPairs 131 = .ok (.istore 6, 2) := by decide +kernel
theorem dX10_layPairs_133 : decode cX10_layPairs 133 = .ok (.iload 6, 2) := by decide +kernel
theorem dX10_layPairs_135 : decode cX10_layPairs 135 = .ok (.aload_n 0, 1) := by decide +kernel
theorem dX10_layPairs_136 : decode cX10_layPairs 136 = .ok (.getfield 74, 3) := by decide +kernel
theorem dX10_layPairs_139 : decode cX10_layPairs 139 = .ok (.iload_n 1, 1) := by decide +kernel
theorem dX10_layPairs_140 : decode cX10_layPairs 140 = .ok (.iaload, 1) := by decide +kernel
theorem dX10_layPairs_141 : decode cX10_layPairs 141 = .ok (.if_icmp .ge 57, 3) := by decide +kernel
theorem dX10_layPairs_144 : decode cX10_layPairs 144 = .ok (.iload 5, 2) := by decide +kernel
theorem dX10_layPairs_146 : decode cX10_layPairs 146 = .ok (.ifCond .eq 43, 3) := by decide +kernel
theorem dX10_layPairs_149 : decode cX10_layPairs 149 = .ok (.aload_n 0, 1) := by decide +kernel
theorem dX10_layPairs_150 : decode cX10_layPairs 150 = .ok (.iload 4, 2) := by decide +kernel
theorem dX10_layPairs_152 : decode cX10_layPairs 152 = .ok (.aload_n 0, 1) := by decide +kernel
theorem dX10_layPairs_153 : decode cX10_layPairs 153 = .ok (.iload_n 1, 1) := by decide +kernel
theorem dX10_layPairs_154 : decode cX10_layPairs 154 = .ok (.iload 6, 2) := by decide +kernel
theorem dX10_layPairs_156 : decode cX10_layPairs 156 = .ok (.invokevirtual 387, 3) := by decide +kernel
theorem dX10_layPairs_159 : decode cX10_layPairs 159 = .ok (.l2i, 1) := by decide +kernel
theorem dX10_layPairs_160 : decode cX10_layPairs 160 = .ok (.invokevirtual 394, 3) := by decide +kernel
theorem dX10_layPairs_163 : decode cX10_layPairs 163 = .ok (.aload_n 0, 1) := by decide +kernel
theorem dX10_layPairs_164 : decode cX10_layPairs 164 = .ok (.iload_n 1, 1) := by decide +kernel
theorem dX10_layPairs_165 : decode cX10_layPairs 165 = .ok (.iload 6, 2) := by decide +kernel
theorem dX10_layPairs_167 : decode cX10_layPairs 167 = .ok (.iconst 1, 1) := by decide +kernel
theorem dX10_layPairs_168 : decode cX10_layPairs 168 = .ok (.iadd, 1) := by decide +kernel
theorem dX10_layPairs_169 : decode cX10_layPairs 169 = .ok (.invokevirtual 387, 3) := by decide +kernel
theorem dX10_layPairs_172 : decode cX10_layPairs 172 = .ok (.lconst 1, 1) := by decide +kernel
theorem dX10_layPairs_173 : decode cX10_layPairs 173 = .ok (.lcmp, 1) := by decide +kernel
theorem dX10_layPairs_174 : decode cX10_layPairs 174 = .ok (.ifCond .ne 7, 3) := by decide +kernel
theorem dX10_layPairs_177 : decode cX10_layPairs 177 = .ok (.iconst 1, 1) := by decide +kernel
theorem dX10_layPairs_178 : decode cX10_layPairs 178 = .ok (.goto 4, 3) := by decide +kernel
theorem dX10_layPairs_181 : decode cX10_layPairs 181 = .ok (.iconst 0, 1) := by decide +kernel
theorem dX10_layPairs_182 : decode cX10_layPairs 182 = .ok (.if_icmp .ne 7, 3) := by decide +kernel
theorem dX10_layPairs_185 : decode cX10_layPairs 185 = .ok (.iconst 1, 1) := by decide +kernel
theorem dX10_layPairs_186 : decode cX10_layPairs 186 = .ok (.goto 4, 3) := by decide +kernel
theorem dX10_layPairs_189 : decode cX10_layPairs 189 = .ok (.iconst 0, 1) := by decide +kernel
theorem dX10_layPairs_190 : decode cX10_layPairs 190 = .ok (.istore 5, 2) := by decide +kernel
theorem dX10_layPairs_192 : decode cX10_layPairs 192 = .ok (.iinc 6 2, 3) := by decide +kernel
theorem dX10_layPairs_195 : decode cX10_layPairs 195 = .ok (.goto (-62), 3) := by decide +kernel
theorem dX10_layPairs_198 : decode cX10_layPairs 198 = .ok (.iload 5, 2) := by decide +kernel
theorem dX10_layPairs_200 : decode cX10_layPairs 200 = .ok (.ifCond .ne 6, 3) := by decide +kernel
theorem dX10_layPairs_203 : decode cX10_layPairs 203 = .ok (.goto 24, 3) := by decide +kernel
theorem dX10_layPairs_206 : decode cX10_layPairs 206 = .ok (.aload_n 0, 1) := by decide +kernel
theorem dX10_layPairs_207 : decode cX10_layPairs 207 = .ok (.getfield 68, 3) := by decide +kernel
theorem dX10_layPairs_210 : decode cX10_layPairs 210 = .ok (.aload_n 0, 1) := by decide +kernel
theorem dX10_layPairs_211 : decode cX10_layPairs 211 = .ok (.getfield 391, 3) := by decide +kernel
theorem dX10_layPairs_214 : decode cX10_layPairs 214 = .ok (.iload 4, 2) := by decide +kernel
theorem dX10_layPairs_216 : decode cX10_layPairs 216 = .ok (.iastore, 1) := by decide +kernel
theorem dX10_layPairs_217 : decode cX10_layPairs 217 = .ok (.aload_n 0, 1) := by decide +kernel
theorem dX10_layPairs_218 : decode cX10_layPairs 218 = .ok (.dup, 1) := by decide +kernel
theorem dX10_layPairs_219 : decode cX10_layPairs 219 = .ok (.getfield 391, 3) := by decide +kernel
theorem dX10_layPairs_222 : decode cX10_layPairs 222 = .ok (.iconst 1, 1) := by decide +kernel
theorem dX10_layPairs_223 : decode cX10_layPairs 223 = .ok (.iadd, 1) := by decide +kernel
theorem dX10_layPairs_224 : decode cX10_layPairs 224 = .ok (.putfield 391, 3) := by decide +kernel
theorem dX10_layPairs_227 : decode cX10_layPairs 227 = .ok (.iinc 3 1, 3) := by decide +kernel
theorem dX10_layPairs_230 : decode cX10_layPairs 230 = .ok (.goto (-121), 3) := by decide +kernel
theorem dX10_layPairs_233 : decode cX10_layPairs 233 = .ok (.iinc 2 1, 3) := by decide +kernel
theorem dX10_layPairs_236 : decode cX10_layPairs 236 = .ok (.goto (-135), 3) := by decide +kernel
theorem dX10_layPairs_239 : decode cX10_layPairs 239 = .ok (.iconst 0, 1) := by decide +kernel
theorem dX10_layPairs_240 : decode cX10_layPairs 240 = .ok (.ireturn, 1) := by decide +kernel
theorem dX10_fits_0 : decode cX10_fits 0 = .ok (.aload_n 0, 1) := by decide +kernel
theorem dX10_fits_1 : decode cX10_fits 1 = .ok (.iload_n 1, 1) := by decide +kernel
theorem dX10_fits_2 : decode cX10_fits 2 = .ok (.invokevirtual 397, 3) := by decide +kernel
theorem dX10_fits_5 : decode cX10_fits 5 = .ok (.istore_n 2, 1) := by decide +kernel
theorem dX10_fits_6 : decode cX10_fits 6 = .ok (.iload_n 2, 1) := by decide +kernel
theorem dX10_fits_7 : decode cX10_fits 7 = .ok (.ifCond .ge 7, 3) := by decide +kernel
theorem dX10_fits_10 : decode cX10_fits 10 = .ok (.iload_n 2, 1) := by decide +kernel
theorem dX10_fits_11 : decode cX10_fits 11 = .ok (.goto 7, 3) := by decide +kernel
theorem dX10_fits_14 : decode cX10_fits 14 = .ok (.aload_n 0, 1) := by decide +kernel
theorem dX10_fits_15 : decode cX10_fits 15 = .ok (.getfield 391, 3) := by decide +kernel
theorem dX10_fits_18 : decode cX10_fits 18 = .ok (.ireturn, 1) := by decide +kernel
theorem dX10_fedSet_0 : decode cX10_fedSet 0 = .ok (.iconst 0, 1) := by decide +kernel
theorem dX10_fedSet_1 : decode cX10_fedSet 1 = .ok (.istore_n 1, 1) := by decide +kernel
theorem dX10_fedSet_2 : decode cX10_fedSet 2 = .ok (.iconst 0, 1) := by decide +kernel
theorem dX10_fedSet_3 : decode cX10_fedSet 3 = .ok (.istore_n 2, 1) := by decide +kernel
theorem dX10_fedSet_4 : decode cX10_fedSet 4 = .ok (.iload_n 2, 1) := by decide +kernel
theorem dX10_fedSet_5 : decode cX10_fedSet 5 = .ok (.aload_n 0, 1) := by decide +kernel
theorem dX10_fedSet_6 : decode cX10_fedSet 6 = .ok (.getfield 391, 3) := by decide +kernel
theorem dX10_fedSet_9 : decode cX10_fedSet 9 = .ok (.if_icmp .ge 23, 3) := by decide +kernel
theorem dX10_fedSet_12 : decode cX10_fedSet 12 = .ok (.iload_n 1, 1) := by decide +kernel
theorem dX10_fedSet_13 : decode cX10_fedSet 13 = .ok (.iconst 1, 1) := by decide +kernel
theorem dX10_fedSet_14 : decode cX10_fedSet 14 = .ok (.aload_n 0, 1) := by decide +kernel
theorem dX10_fedSet_15 : decode cX10_fedSet 15 = .ok (.getfield 68, 3) := by decide +kernel
theorem dX10_fedSet_18 : decode cX10_fedSet 18 = .ok (.iload_n 2, 1) := by decide +kernel
theorem dX10_fedSet_19 : decode cX10_fedSet 19 = .ok (.iaload, 1) := by decide +kernel
theorem dX10_fedSet_20 : decode cX10_fedSet 20 = .ok (.bipush 100, 2) := by decide +kernel
theorem dX10_fedSet_22 : decode cX10_fedSet 22 = .ok (.irem, 1) := by decide +kernel
theorem dX10_fedSet_23 : decode cX10_fedSet 23 = .ok (.ishl, 1) := by decide +kernel
theorem dX10_fedSet_24 : decode cX10_fedSet 24 = .ok (.ior, 1) := by decide +kernel
theorem dX10_fedSet_25 : decode cX10_fedSet 25 = .ok (.istore_n 1, 1) := by decide +kernel
theorem dX10_fedSet_26 : decode cX10_fedSet 26 = .ok (.iinc 2 1, 3) := by decide +kernel
theorem dX10_fedSet_29 : decode cX10_fedSet 29 = .ok (.goto (-25), 3) := by decide +kernel
theorem dX10_fedSet_32 : decode cX10_fedSet 32 = .ok (.iload_n 1, 1) := by decide +kernel
theorem dX10_fedSet_33 : decode cX10_fedSet 33 = .ok (.ireturn, 1) := by decide +kernel
theorem dX10_fed_0 : decode cX10_fed 0 = .ok (.aload_n 0, 1) := by decide +kernel
theorem dX10_fed_1 : decode cX10_fed 1 = .ok (.iload_n 1, 1) := by decide +kernel
theorem dX10_fed_2 : decode cX10_fed 2 = .ok (.invokevirtual 397, 3) := by decide +kernel
theorem dX10_fed_5 : decode cX10_fed 5 = .ok (.istore_n 2, 1) := by decide +kernel
theorem dX10_fed_6 : decode cX10_fed 6 = .ok (.iload_n 2, 1) := by decide +kernel
theorem dX10_fed_7 : decode cX10_fed 7 = .ok (.ifCond .ge 7, 3) := by decide +kernel
theorem dX10_fed_10 : decode cX10_fed 10 = .ok (.iload_n 2, 1) := by decide +kernel
theorem dX10_fed_11 : decode cX10_fed 11 = .ok (.goto 18, 3) := by decide +kernel
theorem dX10_fed_14 : decode cX10_fed 14 = .ok (.aload_n 0, 1) := by decide +kernel
theorem dX10_fed_15 : decode cX10_fed 15 = .ok (.invokevirtual 400, 3) := by decide +kernel
theorem dX10_fed_18 : decode cX10_fed 18 = .ok (.iconst 1, 1) := by decide +kernel
theorem dX10_fed_19 : decode cX10_fed 19 = .ok (.aload_n 0, 1) := by decide +kernel
theorem dX10_fed_20 : decode cX10_fed 20 = .ok (.getfield 9, 3) := by decide +kernel
theorem dX10_fed_23 : decode cX10_fed 23 = .ok (.iconst 0, 1) := by decide +kernel
theorem dX10_fed_24 : decode cX10_fed 24 = .ok (.iaload, 1) := by decide +kernel
theorem dX10_fed_25 : decode cX10_fed 25 = .ok (.ishl, 1) := by decide +kernel
theorem dX10_fed_26 : decode cX10_fed 26 = .ok (.iconst 1, 1) := by decide +kernel
theorem dX10_fed_27 : decode cX10_fed 27 = .ok (.isub, 1) := by decide +kernel
theorem dX10_fed_28 : decode cX10_fed 28 = .ok (.iand, 1) := by decide +kernel
theorem dX10_fed_29 : decode cX10_fed 29 = .ok (.ireturn, 1) := by decide +kernel
theorem dX10_starved_0 : decode cX10_starved 0 = .ok (.aload_n 0, 1) := by decide +kernel
theorem dX10_starved_1 : decode cX10_starved 1 = .ok (.iload_n 1, 1) := by decide +kernel
theorem dX10_starved_2 : decode cX10_starved 2 = .ok (.invokevirtual 397, 3) := by decide +kernel
theorem dX10_starved_5 : decode cX10_starved 5 = .ok (.istore_n 2, 1) := by decide +kernel
theorem dX10_starved_6 : decode cX10_starved 6 = .ok (.iload_n 2, 1) := by decide +kernel
theorem dX10_starved_7 : decode cX10_starved 7 = .ok (.ifCond .ge 7, 3) := by decide +kernel
theorem dX10_starved_10 : decode cX10_starved 10 = .ok (.iload_n 2, 1) := by decide +kernel
theorem dX10_starved_11 : decode cX10_starved 11 = .ok (.goto 16, 3) := by decide +kernel
theorem dX10_starved_14 : decode cX10_starved 14 = .ok (.aload_n 0, 1) := by decide +kernel
theorem dX10_starved_15 : decode cX10_starved 15 = .ok (.invokevirtual 400, 3) := by decide +kernel
theorem dX10_starved_18 : decode cX10_starved 18 = .ok (.aload_n 0, 1) := by decide +kernel
theorem dX10_starved_19 : decode cX10_starved 19 = .ok (.getfield 9, 3) := by decide +kernel
theorem dX10_starved_22 : decode cX10_starved 22 = .ok (.iconst 0, 1) := by decide +kernel
theorem dX10_starved_23 : decode cX10_starved 23 = .ok (.iaload, 1) := by decide +kernel
theorem dX10_starved_24 : decode cX10_starved 24 = .ok (.invokestatic 230, 3) := by decide +kernel
theorem dX10_starved_27 : decode cX10_starved 27 = .ok (.ireturn, 1) := by decide +kernel
theorem dX10_least_0 : decode cX10_least 0 = .ok (.aload_n 0, 1) := by decide +kernel
theorem dX10_least_1 : decode cX10_least 1 = .ok (.iload_n 1, 1) := by decide +kernel
theorem dX10_least_2 : decode cX10_least 2 = .ok (.invokevirtual 397, 3) := by decide +kernel
theorem dX10_least_5 : decode cX10_least 5 = .ok (.istore_n 2, 1) := by decide +kernel
theorem dX10_least_6 : decode cX10_least 6 = .ok (.iload_n 2, 1) := by decide +kernel
theorem dX10_least_7 : decode cX10_least 7 = .ok (.ifCond .ge 5, 3) := by decide +kernel
theorem dX10_least_10 : decode cX10_least 10 = .ok (.iload_n 2, 1) := by decide +kernel
theorem dX10_least_11 : decode cX10_least 11 = .ok (.ireturn, 1) := by decide +kernel
theorem dX10_least_12 : decode cX10_least 12 = .ok (.aload_n 0, 1) := by decide +kernel
theorem dX10_least_13 : decode cX10_least 13 = .ok (.getfield 391, 3) := by decide +kernel
theorem dX10_least_16 : decode cX10_least 16 = .ok (.ifCond .ne 7, 3) := by decide +kernel
theorem dX10_least_19 : decode cX10_least 19 = .ok (.iconst (-1), 1) := by decide +kernel
theorem dX10_least_20 : decode cX10_least 20 = .ok (.goto 12, 3) := by decide +kernel
theorem dX10_least_23 : decode cX10_least 23 = .ok (.aload_n 0, 1) := by decide +kernel
theorem dX10_least_24 : decode cX10_least 24 = .ok (.getfield 68, 3) := by decide +kernel
theorem dX10_least_27 : decode cX10_least 27 = .ok (.iconst 0, 1) := by decide +kernel
theorem dX10_least_28 : decode cX10_least 28 = .ok (.iaload, 1) := by decide +kernel
theorem dX10_least_29 : decode cX10_least 29 = .ok (.bipush 100, 2) := by decide +kernel
theorem dX10_least_31 : decode cX10_least 31 = .ok (.idiv, 1) := by decide +kernel
theorem dX10_least_32 : decode cX10_least 32 = .ok (.ireturn, 1) := by decide +kernel
theorem dX10_askOf_0 : decode cX10_askOf 0 = .ok (.aload_n 0, 1) := by decide +kernel
theorem dX10_askOf_1 : decode cX10_askOf 1 = .ok (.aload_n 0, 1) := by decide +kernel
theorem dX10_askOf_2 : decode cX10_askOf 2 = .ok (.getfield 391, 3) := by decide +kernel
theorem dX10_askOf_5 : decode cX10_askOf 5 = .ok (.putfield 403, 3) := by decide +kernel
theorem dX10_askOf_8 : decode cX10_askOf 8 = .ok (.iconst (-1), 1) := by decide +kernel
theorem dX10_askOf_9 : decode cX10_askOf 9 = .ok (.istore_n 1, 1) := by decide +kernel
theorem dX10_askOf_10 : decode cX10_askOf 10 = .ok (.iconst 0, 1) := by decide +kernel
theorem dX10_askOf_11 : decode cX10_askOf 11 = .ok (.istore_n 2, 1) := by decide +kernel
theorem dX10_askOf_12 : decode cX10_askOf 12 = .ok (.iload_n 2, 1) := by decide +kernel
theorem dX10_askOf_13 : decode cX10_askOf 13 = .ok (.aload_n 0, 1) := by decide +kernel
theorem dX10_askOf_14 : decode cX10_askOf 14 = .ok (.getfield 9, 3) := by decide +kernel
theorem dX10_askOf_17 : decode cX10_askOf 17 = .ok (.iconst 0, 1) := by decide +kernel
theorem dX10_askOf_18 : decode cX10_askOf 18 = .ok (.iaload, 1) := by decide +kernel
theorem dX10_askOf_19 : decode cX10_askOf 19 = .ok (.if_icmp .ge 84, 3) := by decide +kernel
theorem dX10_askOf_22 : decode cX10_askOf 22 = .ok (.iconst 0, 1) := by decide +kernel
theorem dX10_askOf_23 : decode cX10_askOf 23 = .ok (.istore_n 3, 1) := by decide +kernel
theorem dX10_askOf_24 : decode cX10_askOf 24 = .ok (.iconst 0, 1) := by decide +kernel
theorem dX10_askOf_25 : decode cX10_askOf 25 = .ok (.istore 4, 2) := by decide +kernel
theorem dX10_askOf_27 : decode cX10_askOf 27 = .ok (.iload 4, 2) := by decide +kernel
theorem dX10_askOf_29 : decode cX10_askOf 29 = .ok (.aload_n 0, 1) := by decide +kernel
theorem dX10_askOf_30 : decode cX10_askOf 30 = .ok (.getfield 391, 3) := by decide +kernel
theorem dX10_askOf_33 : decode cX10_askOf 33 = .ok (.if_icmp .ge 32, 3) := by decide +kernel
theorem dX10_askOf_36 : decode cX10_askOf 36 = .ok (.iload_n 3, 1) := by decide +kernel
theorem dX10_askOf_37 : decode cX10_askOf 37 = .ok (.aload_n 0, 1) := by decide +kernel
theorem dX10_askOf_38 : decode cX10_askOf 38 = .ok (.aload_n 0, 1) := by decide +kernel
theorem dX10_askOf_39 : decode cX10_askOf 39 = .ok (.getfield 68, 3) := by decide +kernel
theorem dX10_askOf_42 : decode cX10_askOf 42 = .ok (.iload 4, 2) := by decide +kernel
theorem dX10_askOf_44 : decode cX10_askOf 44 = .ok (.iaload, 1) := by decide +kernel
theorem dX10_askOf_45 : decode cX10_askOf 45 = .ok (.iload_n 2, 1) := by decide +kernel
theorem dX10_askOf_46 : decode cX10_askOf 46 = .ok (.invokevirtual 394, 3) := by decide +kernel
theorem dX10_askOf_49 : decode cX10_askOf 49 = .ok (.ifCond .eq 7, 3) := by decide +kernel
theorem dX10_askOf_52 : decode cX10_askOf 52 = .ok (.iconst 1, 1) := by decide +kernel
theorem dX10_askOf_53 : decode cX10_askOf 53 = .ok (.goto 4, 3) := by decide +kernel
theorem dX10_askOf_56 : decode cX10_askOf 56 = .ok (.iconst 0, 1) := by decide +kernel
theorem dX10_askOf_57 : decode cX10_askOf 57 = .ok (.iadd, 1) := by decide +kernel
theorem dX10_askOf_58 : decode cX10_askOf 58 = .ok (.istore_n 3, 1) := by decide +kernel
theorem dX10_askOf_59 : decode cX10_askOf 59 = .ok (.iinc 4 1, 3) := by decide +kernel
theorem dX10_askOf_62 : decode cX10_askOf 62 = .ok (.goto (-35), 3) := by decide +kernel
theorem dX10_askOf_65 : decode cX10_askOf 65 = .ok (.iload_n 3, 1) := by decide +kernel
theorem dX10_askOf_66 : decode cX10_askOf 66 = .ok (.aload_n 0, 1) := by decide +kernel
theorem dX10_askOf_67 : decode cX10_askOf 67 = .ok (.getfield 391, 3) := by decide +kernel
theorem dX10_askOf_70 : decode cX10_askOf 70 = .ok (.iload_n 3, 1) := by decide +kernel
theorem dX10_askOf_71 : decode cX10_askOf 71 = .ok (.isub, 1) := by decide +kernel
theorem dX10_askOf_72 : decode cX10_askOf 72 = .ok (.invokestatic 298, 3) := by decide +kernel
theorem dX10_askOf_75 : decode cX10_askOf 75 = .ok (.istore 4, 2) := by decide +kernel
theorem dX10_askOf_77 : decode cX10_askOf 77 = .ok (.iload 4, 2) := by decide +kernel
theorem dX10_askOf_79 : decode cX10_askOf 79 = .ok (.aload_n 0, 1) := by decide +kernel
theorem dX10_askOf_80 : decode cX10_askOf 80 = .ok (.getfield 403, 3) := by decide +kernel
theorem dX10_askOf_83 : decode cX10_askOf 83 = .ok (.if_icmp .lt 6, 3) := by decide +kernel
theorem dX10_askOf_86 : decode cX10_askOf 86 = .ok (.goto 11, 3) := by decide +kernel
theorem dX10_askOf_89 : decode cX10_askOf 89 = .ok (.aload_n 0, 1) := by decide +kernel
theorem dX10_askOf_90 : decode cX10_askOf 90 = .ok (.iload 4, 2) := by decide +kernel
theorem dX10_askOf_92 : decode cX10_askOf 92 = .ok (.putfield 403, 3) := by decide +kernel
theorem dX10_askOf_95 : decode cX10_askOf 95 = .ok (.iload_n 2, 1) := by decide +kernel
theorem dX10_askOf_96 : decode cX10_askOf 96 = .ok (.istore_n 1, 1) := by decide +kernel
theorem dX10_askOf_97 : decode cX10_askOf 97 = .ok (.iinc 2 1, 3) := by decide +kernel
theorem dX10_askOf_100 : decode cX10_askOf 100 = .ok (.goto (-88), 3) := by decide +kernel
theorem dX10_askOf_103 : decode cX10_askOf 103 = .ok (.iload_n 1, 1) := by decide +kernel
theorem dX10_askOf_104 : decode cX10_askOf 104 = .ok (.ireturn, 1) := by decide +kernel
theorem dX10_ask_0 : decode cX10_ask 0 = .ok (.aload_n 0, 1) := by decide +kernel
theorem dX10_ask_1 : decode cX10_ask 1 = .ok (.iload_n 1, 1) := by decide +kernel
theorem dX10_ask_2 : decode cX10_ask 2 = .ok (.invokevirtual 397, 3) := by decide +kernel
theorem dX10_ask_5 : decode cX10_ask 5 = .ok (.istore_n 2, 1) := by decide +kernel
theorem dX10_ask_6 : decode cX10_ask 6 = .ok (.iload_n 2, 1) := by decide +kernel
theorem dX10_ask_7 : decode cX10_ask 7 = .ok (.ifCond .ge 7, 3) := by decide +kernel
theorem dX10_ask_10 : decode cX10_ask 10 = .ok (.iload_n 2, 1) := by decide +kernel
theorem dX10_ask_11 : decode cX10_ask 11 = .ok (.goto 7, 3) := by decide +kernel
theorem dX10_ask_14 : decode cX10_ask 14 = .ok (.aload_n 0, 1) := by decide +kernel
theorem dX10_ask_15 : decode cX10_ask 15 = .ok (.invokevirtual 406, 3) := by decide +kernel
theorem dX10_ask_18 : decode cX10_ask 18 = .ok (.ireturn, 1) := by decide +kernel
theorem dX10_leaves_0 : decode cX10_leaves 0 = .ok (.aload_n 0, 1) := by decide +kernel
theorem dX10_leaves_1 : decode cX10_leaves 1 = .ok (.iload_n 1, 1) := by decide +kernel
theorem dX10_leaves_2 : decode cX10_leaves 2 = .ok (.invokevirtual 397, 3) := by decide +kernel
theorem dX10_leaves_5 : decode cX10_leaves 5 = .ok (.istore_n 2, 1) := by decide +kernel
theorem dX10_leaves_6 : decode cX10_leaves 6 = .ok (.iload_n 2, 1) := by decide +kernel
theorem dX10_leaves_7 : decode cX10_leaves 7 = .ok (.ifCond .ge 5, 3) := by decide +kernel
theorem dX10_leaves_10 : decode cX10_leaves 10 = .ok (.iload_n 2, 1) := by decide +kernel
theorem dX10_leaves_11 : decode cX10_leaves 11 = .ok (.ireturn, 1) := by decide +kernel
theorem dX10_leaves_12 : decode cX10_leaves 12 = .ok (.aload_n 0, 1) := by decide +kernel
theorem dX10_leaves_13 : decode cX10_leaves 13 = .ok (.invokevirtual 406, 3) := by decide +kernel
theorem dX10_leaves_16 : decode cX10_leaves 16 = .ok (.pop, 1) := by decide +kernel
theorem dX10_leaves_17 : decode cX10_leaves 17 = .ok (.aload_n 0, 1) := by decide +kernel
theorem dX10_leaves_18 : decode cX10_leaves 18 = .ok (.getfield 403, 3) := by decide +kernel
theorem dX10_leaves_21 : decode cX10_leaves 21 = .ok (.ireturn, 1) := by decide +kernel
theorem dX10_layList_0 : decode cX10_layList 0 = .ok (.iload_n 1, 1) := by decide +kernel
theorem dX10_layList_1 : decode cX10_layList 1 = .ok (.invokestatic 384, 3) := by decide +kernel
theorem dX10_layList_4 : decode cX10_layList 4 = .ok (.ifCond .eq 14, 3) := by decide +kernel
theorem dX10_layList_7 : decode cX10_layList 7 = .ok (.aload_n 0, 1) := by decide +kernel
theorem dX10_layList_8 : decode cX10_layList 8 = .ok (.invokevirtual 96, 3) := by decide +kernel
theorem dX10_layList_11 : decode cX10_layList 11 = .ok (.ifCond .eq 7, 3) := by decide +kernel
theorem dX10_layList_14 : decode cX10_layList 14 = .ok (.iload_n 2, 1) := by decide +kernel
theorem dX10_layList_15 : decode cX10_layList 15 = .ok (.ifCond .ne 6, 3) := by decide +kernel
theorem dX10_layList_18 : decode cX10_layList 18 = .ok (.bipush (-2), 2) := by decide +kernel
theorem dX10_layList_20 : decode cX10_layList 20 = .ok (.ireturn, 1) := by decide +kernel
theorem dX10_layList_21 : decode cX10_layList 21 = .ok (.aload_n 0, 1) := by decide +kernel
theorem dX10_layList_22 : decode cX10_layList 22 = .ok (.getfield 74, 3) := by decide +kernel
theorem dX10_layList_25 : decode cX10_layList 25 = .ok (.iload_n 1, 1) := by decide +kernel
theorem dX10_layList_26 : decode cX10_layList 26 = .ok (.iaload, 1) := by decide +kernel
theorem dX10_layList_27 : decode cX10_layList 27 = .ok (.iconst (-1), 1) := by decide +kernel
theorem dX10_layList_28 : decode cX10_layList 28 = .ok (.if_icmp .ne 6, 3) := by decide +kernel
theorem dX10_layList_31 : decode cX10_layList 31 = .ok (.bipush (-6), 2) := by decide +kernel
theorem dX10_layList_33 : decode cX10_layList 33 = .ok (.ireturn, 1) := by decide +kernel
theorem dX10_layList_34 : decode cX10_layList 34 = .ok (.aload_n 0, 1) := by decide +kernel
theorem dX10_layList_35 : decode cX10_layList 35 = .ok (.getfield 74, 3) := by decide +kernel
theorem dX10_layList_38 : decode cX10_layList 38 = .ok (.iload_n 1, 1) := by decide +kernel
theorem dX10_layList_39 : decode cX10_layList 39 = .ok (.iaload, 1) := by decide +kernel
theorem dX10_layList_40 : decode cX10_layList 40 = .ok (.iconst 2, 1) := by decide +kernel
theorem dX10_layList_41 : decode cX10_layList 41 = .ok (.irem, 1) := by decide +kernel
theorem dX10_layList_42 : decode cX10_layList 42 = .ok (.ifCond .eq 6, 3) := by decide +kernel
theorem dX10_layList_45 : decode cX10_layList 45 = .ok (.bipush (-2), 2) := by decide +kernel
theorem dX10_layList_47 : decode cX10_layList 47 = .ok (.ireturn, 1) := by decide +kernel
theorem dX10_layList_48 : decode cX10_layList 48 = .ok (.iconst 0, 1) := by decide +kernel
theorem dX10_layList_49 : decode cX10_layList 49 = .ok (.istore_n 3, 1) := by decide +kernel
theorem dX10_layList_50 : decode cX10_layList 50 = .ok (.iload_n 3, 1) := by decide +kernel
theorem dX10_layList_51 : decode cX10_layList 51 = .ok (.iconst 4, 1) := by decide +kernel
theorem dX10_layList_52 : decode cX10_layList 52 = .ok (.if_icmp .ge 16, 3) := by decide +kernel
theorem dX10_layList_55 : decode cX10_layList 55 = .ok (.aload_n 0, 1) := by decide +kernel
theorem dX10_layList_56 : decode cX10_layList 56 = .ok (.getfield 71, 3) := by decide +kernel
theorem dX10_layList_59 : decode cX10_layList 59 = .ok (.iload_n 3, 1) := by decide +kernel
theorem dX10_layList_60 : decode cX10_layList 60 = .ok (.iconst 0, 1) := by decide +kernel
theorem dX10_layList_61 : decode cX10_layList 61 = .ok (.iastore, 1) := by decide +kernel
theorem dX10_layList_62 : decode cX10_layList 62 = .ok (.iinc 3 1, 3) := by decide +kernel
theorem dX10_layList_65 : decode cX10_layList 65 = .ok (.goto (-15), 3) := by decide +kernel
theorem dX10_layList_68 : decode cX10_layList 68 = .ok (.iconst 0, 1) := by decide +kernel
theorem dX10_layList_69 : decode cX10_layList 69 = .ok (.istore_n 3, 1) := by decide +kernel
theorem dX10_layList_70 : decode cX10_layList 70 = .ok (.iload_n 3, 1) := by decide +kernel
theorem dX10_layList_71 : decode cX10_layList 71 = .ok (.aload_n 0, 1) := by decide +kernel
theorem dX10_layList_72 : decode cX10_layList 72 = .ok (.getfield 74, 3) := by decide +kernel
theorem dX10_layList_75 : decode cX10_layList 75 = .ok (.iload_n 1, 1) := by decide +kernel
theorem dX10_layList_76 : decode cX10_layList 76 = .ok (.iaload, 1) := by decide +kernel
theorem dX10_layList_77 : decode cX10_layList 77 = .ok (.if_icmp .ge 70, 3) := by decide +kernel
theorem dX10_layList_80 : decode cX10_layList 80 = .ok (.aload_n 0, 1) := by decide +kernel
theorem dX10_layList_81 : decode cX10_layList 81 = .ok (.iload_n 1, 1) := by decide +kernel
theorem dX10_layList_82 : decode cX10_layList 82 = .ok (.iload_n 3, 1) := by decide +kernel
theorem dX10_layList_83 : decode cX10_layList 83 = .ok (.invokevirtual 387, 3) := by decide +kernel
theorem dX10_layList_86 : decode cX10_layList 86 = .ok (.lconst 0, 1) := by decide +kernel
theorem dX10_layList_87 : decode cX10_layList 87 = .ok (.lconst 1, 1) := by decide +kernel
theorem dX10_layList_88 : decode cX10_layList 88 = .ok (.invokestatic 92, 3) := by decide +kernel
theorem dX10_layList_91 : decode cX10_layList 91 = .ok (.ifCond .eq 19, 3) := by decide +kernel
theorem dX10_layList_94 : decode cX10_layList 94 = .ok (.aload_n 0, 1) := by decide +kernel
theorem dX10_layList_95 : decode cX10_layList 95 = .ok (.iload_n 1, 1) := by decide +kernel
theorem dX10_layList_96 : decode cX10_layList 96 = .ok (.iload_n 3, 1) := by decide +kernel
theorem dX10_layList_97 : decode cX10_layList 97 = .ok (.iconst 1, 1) := by decide +kernel
theorem dX10_layList_98 : decode cX10_layList 98 = .ok (.iadd, 1) := by decide +kernel
theorem dX10_layList_99 : decode cX10_layList 99 = .ok (.invokevirtual 387, 3) := by decide +kernel
theorem dX10_layList_102 : decode cX10_layList 102 = .ok (.lconst 0, 1) := by decide +kernel
theorem dX10_layList_103 : decode cX10_layList 103 = .ok (.lconst 1, 1) := by decide +kernel
theorem dX10_layList_104 : decode cX10_layList 104 = .ok (.invokestatic 92, 3) := by decide +kernel
theorem dX10_layList_107 : decode cX10_layList 107 = .ok (.ifCond .ne 6, 3) := by decide +kernel
theorem dX10_layList_110 : decode cX10_layList 110 = .ok (.bipush (-2), 2) := by decide +kernel
theorem dX10_layList_112 : decode cX10_layList 112 = .ok (.ireturn, 1) := by decide +kernel
theorem dX10_layList_113 : decode cX10_layList 113 = .ok (.aload_n 0, 1) := by decide +kernel
theorem dX10_layList_114 : decode cX10_layList 114 = .ok (.getfield 71, 3) := by decide +kernel
theorem dX10_layList_117 : decode cX10_layList 117 = .ok (.iconst 2, 1) := by decide +kernel
theorem dX10_layList_118 : decode cX10_layList 118 = .ok (.aload_n 0, 1) := by decide +kernel
theorem dX10_layList_119 : decode cX10_layList 119 = .ok (.iload_n 1, 1) := by decide +kernel
theorem dX10_layList_120 : decode cX10_layList 120 = .ok (.iload_n 3, 1) := by decide +kernel
theorem dX10_layList_121 : decode cX10_layList 121 = .ok (.invokevirtual 387, 3) := by decide +kernel
theorem dX10_layList_124 : decode cX10_layList 124 = .ok (.l2i, 1) := by decide +kernel
theorem dX10_layList_125 : decode cX10_layList 125 = .ok (.imul, 1) := by decide +kernel
theorem dX10_layList_126 : decode cX10_layList 126 = .ok (.aload_n 0, 1) := by decide +kernel
theorem dX10_layList_127 : decode cX10_layList 127 = .ok (.iload_n 1, 1) := by decide +kernel
theorem dX10_layList_128 : decode cX10_layList 128 = .ok (.iload_n 3, 1) := by decide +kernel
theorem dX10_layList_129 : decode cX10_layList 129 = .ok (.iconst 1, 1) := by decide +kernel
theorem dX10_layList_130 : decode cX10_layList 130 = .ok (.iadd, 1) := by decide +kernel
theorem dX10_layList_131 : decode cX10_layList 131 = .ok (.invokevirtual 387, 3) := by decide +kernel
theorem dX10_layList_134 : decode cX10_layList 134 = .ok (.l2i, 1) := by decide +kernel
theorem dX10_layList_135 : decode cX10_layList 135 = .ok (.iadd, 1) := by decide +kernel
theorem dX10_layList_136 : decode cX10_layList 136 = .ok (.dup2, 1) := by decide +kernel
theorem dX10_layList_137 : decode cX10_layList 137 = .ok (.iaload, 1) := by decide +kernel
theorem dX10_layList_138 : decode cX10_layList 138 = .ok (.iconst 1, 1) := by decide +kernel
theorem dX10_layList_139 : decode cX10_layList 139 = .ok (.iadd, 1) := by decide +kernel
theorem dX10_layList_140 : decode cX10_layList 140 = .ok (.iastore, 1) := by decide +kernel
theorem dX10_layList_141 : decode cX10_layList 141 = .ok (.iinc 3 2, 3) := by decide +kernel
theorem dX10_layList_144 : decode cX10_layList 144 = .ok (.goto (-74), 3) := by decide +kernel
theorem dX10_layList_147 : decode cX10_layList 147 = .ok (.iconst 0, 1) := by decide +kernel
theorem dX10_layList_148 : decode cX10_layList 148 = .ok (.ireturn, 1) := by decide +kernel
theorem dX10_tally_0 : decode cX10_tally 0 = .ok (.aload_n 0, 1) := by decide +kernel
theorem dX10_tally_1 : decode cX10_tally 1 = .ok (.iload_n 1, 1) := by decide +kernel
theorem dX10_tally_2 : decode cX10_tally 2 = .ok (.iload_n 2, 1) := by decide +kernel
theorem dX10_tally_3 : decode cX10_tally 3 = .ok (.i2l, 1) := by decide +kernel
theorem dX10_tally_4 : decode cX10_tally 4 = .ok (.lconst 0, 1) := by decide +kernel
theorem dX10_tally_5 : decode cX10_tally 5 = .ok (.lconst 1, 1) := by decide +kernel
theorem dX10_tally_6 : decode cX10_tally 6 = .ok (.invokestatic 92, 3) := by decide +kernel
theorem dX10_tally_9 : decode cX10_tally 9 = .ok (.ifCond .eq 17, 3) := by decide +kernel
theorem dX10_tally_12 : decode cX10_tally 12 = .ok (.iload_n 3, 1) := by decide +kernel
theorem dX10_tally_13 : decode cX10_tally 13 = .ok (.i2l, 1) := by decide +kernel
theorem dX10_tally_14 : decode cX10_tally 14 = .ok (.lconst 0, 1) := by decide +kernel
theorem dX10_tally_15 : decode cX10_tally 15 = .ok (.lconst 1, 1) := by decide +kernel
theorem dX10_tally_16 : decode cX10_tally 16 = .ok (.invokestatic 92, 3) := by decide +kernel
theorem dX10_tally_19 : decode cX10_tally 19 = .ok (.ifCond .eq 7, 3) := by decide +kernel
theorem dX10_tally_22 : decode cX10_tally 22 = .ok (.iconst 1, 1) := by decide +kernel
theorem dX10_tally_23 : decode cX10_tally 23 = .ok (.goto 4, 3) := by decide +kernel
theorem dX10_tally_26 : decode cX10_tally 26 = .ok (.iconst 0, 1) := by decide +kernel
theorem dX10_tally_27 : decode cX10_tally 27 = .ok (.invokevirtual 409, 3) := by decide +kernel
theorem dX10_tally_30 : decode cX10_tally 30 = .ok (.istore 4, 2) := by decide +kernel
theorem dX10_tally_32 : decode cX10_tally 32 = .ok (.iload 4, 2) := by decide +kernel
theorem dX10_tally_34 : decode cX10_tally 34 = .ok (.ifCond .ge 8, 3) := by decide +kernel
theorem dX10_tally_37 : decode cX10_tally 37 = .ok (.iload 4, 2) := by decide +kernel
theorem dX10_tally_39 : decode cX10_tally 39 = .ok (.goto 13, 3) := by decide +kernel
theorem dX10_tally_42 : decode cX10_tally 42 = .ok (.aload_n 0, 1) := by decide +kernel
theorem dX10_tally_43 : decode cX10_tally 43 = .ok (.getfield 71, 3) := by decide +kernel
theorem dX10_tally_46 : decode cX10_tally 46 = .ok (.iconst 2, 1) := by decide +kernel
theorem dX10_tally_47 : decode cX10_tally 47 = .ok (.iload_n 2, 1) := by decide +kernel
theorem dX10_tally_48 : decode cX10_tally 48 = .ok (.imul, 1) := by decide +kernel
theorem dX10_tally_49 : decode cX10_tally 49 = .ok (.iload_n 3, 1) := by decide +kernel
theorem dX10_tally_50 : decode cX10_tally 50 = .ok (.iadd, 1) := by decide +kernel
theorem dX10_tally_51 : decode cX10_tally 51 = .ok (.iaload, 1) := by decide +kernel
theorem dX10_tally_52 : decode cX10_tally 52 = .ok (.ireturn, 1) := by decide +kernel
theorem dX10_choose_0 : decode cX10_choose 0 = .ok (.iload_n 1, 1) := by decide +kernel
theorem dX10_choose_1 : decode cX10_choose 1 = .ok (.i2l, 1) := by decide +kernel
theorem dX10_choose_2 : decode cX10_choose 2 = .ok (.lconst 0, 1) := by decide +kernel
theorem dX10_choose_3 : decode cX10_choose 3 = .ok (.iload_n 0, 1) := by decide +kernel
theorem dX10_choose_4 : decode cX10_choose 4 = .ok (.i2l, 1) := by decide +kernel
theorem dX10_choose_5 : decode cX10_choose 5 = .ok (.invokestatic 92, 3) := by decide +kernel
theorem dX10_choose_8 : decode cX10_choose 8 = .ok (.ifCond .ne 5, 3) := by decide +kernel
theorem dX10_choose_11 : decode cX10_choose 11 = .ok (.lconst 0, 1) := by decide +kernel
theorem dX10_choose_12 : decode cX10_choose 12 = .ok (.lreturn, 1) := by decide +kernel
theorem dX10_choose_13 : decode cX10_choose 13 = .ok (.lconst 1, 1) := by decide +kernel
theorem dX10_choose_14 : decode cX10_choose 14 = .ok (.lstore_n 2, 1) := by decide +kernel
theorem dX10_choose_15 : decode cX10_choose 15 = .ok (.iconst 1, 1) := by decide +kernel
theorem dX10_choose_16 : decode cX10_choose 16 = .ok (.istore 4, 2) := by decide +kernel
theorem dX10_choose_18 : decode cX10_choose 18 = .ok (.iload 4, 2) := by decide +kernel
theorem dX10_choose_20 : decode cX10_choose 20 = .ok (.iload_n 1, 1) := by decide +kernel
theorem dX10_choose_21 : decode cX10_choose 21 = .ok (.if_icmp .gt 23, 3) := by decide +kernel
theorem dX10_choose_24 : decode cX10_choose 24 = .ok (.lload_n 2, 1) := by decide +kernel
theorem dX10_choose_25 : decode cX10_choose 25 = .ok (.iload_n 0, 1) := by decide +kernel
theorem dX10_choose_26 : decode cX10_choose 26 = .ok (.iload_n 1, 1) := by decide +kernel
theorem dX10_choose_27 : decode cX10_choose 27 = .ok (.isub, 1) := by decide +kernel
theorem dX10_choose_28 : decode cX10_choose 28 = .ok (.iload 4, 2) := by decide +kernel
theorem dX10_choose_30 : decode cX10_choose 30 = .ok (.iadd, 1) := by decide +kernel
theorem dX10_choose_31 : decode cX10_choose 31 = .ok (.i2l, 1) := by decide +kernel
theorem dX10_choose_32 : decode cX10_choose 32 = .ok (.lmul, 1) := by decide +kernel
theorem dX10_choose_33 : decode cX10_choose 33 = .ok (.iload 4, 2) := by decide +kernel
theorem dX10_choose_35 : decode cX10_choose 35 = .ok (.i2l, 1) := by decide +kernel
theorem dX10_choose_36 : decode cX10_choose 36 = .ok (.ldiv, 1) := by decide +kernel
theorem dX10_choose_37 : decode cX10_choose 37 = .ok (.lstore_n 2, 1) := by decide +kernel
theorem dX10_choose_38 : decode cX10_choose 38 = .ok (.iinc 4 1, 3) := by decide +kernel
theorem dX10_choose_41 : decode cX10_choose 41 = .ok (.goto (-23), 3) := by decide +kernel
theorem dX10_choose_44 : decode cX10_choose 44 = .ok (.lload_n 2, 1) := by decide +kernel
theorem dX10_choose_45 : decode cX10_choose 45 = .ok (.lreturn, 1) := by decide +kernel
theorem dX10_divisor_0 : decode cX10_divisor 0 = .ok (.lload_n 0, 1) := by decide +kernel
theorem dX10_divisor_1 : decode cX10_divisor 1 = .ok (.lstore 4, 2) := by decide +kernel
theorem dX10_divisor_3 : decode cX10_divisor 3 = .ok (.lload_n 2, 1) := by decide +kernel
theorem dX10_divisor_4 : decode cX10_divisor 4 = .ok (.lstore 6, 2) := by decide +kernel
theorem dX10_divisor_6 : decode cX10_divisor 6 = .ok (.lload 6, 2) := by decide +kernel
theorem dX10_divisor_8 : decode cX10_divisor 8 = .ok (.lconst 0, 1) := by decide +kernel
theorem dX10_divisor_9 : decode cX10_divisor 9 = .ok (.lcmp, 1) := by decide +kernel
theorem dX10_divisor_10 : decode cX10_divisor 10 = .ok (.ifCond .eq 21, 3) := by decide +kernel
theorem dX10_divisor_13 : decode cX10_divisor 13 = .ok (.lload 4, 2) := by decide +kernel
theorem dX10_divisor_15 : decode cX10_divisor 15 = .ok (.lload 6, 2) := by decide +kernel
theorem dX10_divisor_17 : decode cX10_divisor 17 = .ok (.lrem, 1) := by decide +kernel
theorem dX10_divisor_18 : decode cX10_divisor 18 = .ok (.lstore 8, 2) := by decide +kernel
theorem dX10_divisor_20 : decode cX10_divisor 20 = .ok (.lload 6, 2) := by decide +kernel
theorem dX10_divisor_22 : decode cX10_divisor 22 = .ok (.lstore 4, 2) := by decide +kernel
theorem dX10_divisor_24 : decode cX10_divisor 24 = .ok (.lload 8, 2) := by decide +kernel
theorem dX10_divisor_26 : decode cX10_divisor 26 = .ok (.lstore 6, 2) := by decide +kernel
theorem dX10_divisor_28 : decode cX10_divisor 28 = .ok (.goto (-22), 3) := by decide +kernel
theorem dX10_divisor_31 : decode cX10_divisor 31 = .ok (.lload 4, 2) := by decide +kernel
theorem dX10_divisor_33 : decode cX10_divisor 33 = .ok (.lreturn, 1) := by decide +kernel
theorem dX10_part_0 : decode cX10_part 0 = .ok (.iload 4, 2) := by decide +kernel
theorem dX10_part_2 : decode cX10_part 2 = .ok (.ifCond .ne 7, 3) := by decide +kernel
theorem dX10_part_5 : decode cX10_part 5 = .ok (.lload_n 0, 1) := by decide +kernel
theorem dX10_part_6 : decode cX10_part 6 = .ok (.goto 4, 3) := by decide +kernel
theorem dX10_part_9 : decode cX10_part 9 = .ok (.lload_n 2, 1) := by decide +kernel
theorem dX10_part_10 : decode cX10_part 10 = .ok (.lload_n 0, 1) := by decide +kernel
theorem dX10_part_11 : decode cX10_part 11 = .ok (.lload_n 2, 1) := by decide +kernel
theorem dX10_part_12 : decode cX10_part 12 = .ok (.invokestatic 413, 3) := by decide +kernel
theorem dX10_part_15 : decode cX10_part 15 = .ok (.ldiv, 1) := by decide +kernel
theorem dX10_part_16 : decode cX10_part 16 = .ok (.lreturn, 1) := by decide +kernel
theorem dX10_doubt_0 : decode cX10_doubt 0 = .ok (.aload_n 0, 1) := by decide +kernel
theorem dX10_doubt_1 : decode cX10_doubt 1 = .ok (.iload_n 1, 1) := by decide +kernel
theorem dX10_doubt_2 : decode cX10_doubt 2 = .ok (.iload_n 2, 1) := by decide +kernel
theorem dX10_doubt_3 : decode cX10_doubt 3 = .ok (.i2l, 1) := by decide +kernel
theorem dX10_doubt_4 : decode cX10_doubt 4 = .ok (.lconst 0, 1) := by decide +kernel
theorem dX10_doubt_5 : decode cX10_doubt 5 = .ok (.lconst 1, 1) := by decide +kernel
theorem dX10_doubt_6 : decode cX10_doubt 6 = .ok (.invokestatic 92, 3) := by decide +kernel
theorem dX10_doubt_9 : decode cX10_doubt 9 = .ok (.invokevirtual 409, 3) := by decide +kernel
theorem dX10_doubt_12 : decode cX10_doubt 12 = .ok (.istore_n 3, 1) := by decide +kernel
theorem dX10_doubt_13 : decode cX10_doubt 13 = .ok (.iload_n 3, 1) := by decide +kernel
theorem dX10_doubt_14 : decode cX10_doubt 14 = .ok (.ifCond .ge 6, 3) := by decide +kernel
theorem dX10_doubt_17 : decode cX10_doubt 17 = .ok (.iload_n 3, 1) := by decide +kernel
theorem dX10_doubt_18 : decode cX10_doubt 18 = .ok (.i2l, 1) := by decide +kernel
theorem dX10_doubt_19 : decode cX10_doubt 19 = .ok (.lreturn, 1) := by decide +kernel
theorem dX10_doubt_20 : decode cX10_doubt 20 = .ok (.aload_n 0, 1) := by decide +kernel
theorem dX10_doubt_21 : decode cX10_doubt 21 = .ok (.getfield 71, 3) := by decide +kernel
theorem dX10_doubt_24 : decode cX10_doubt 24 = .ok (.iconst 2, 1) := by decide +kernel
theorem dX10_doubt_25 : decode cX10_doubt 25 = .ok (.iaload, 1) := by decide +kernel
theorem dX10_doubt_26 : decode cX10_doubt 26 = .ok (.aload_n 0, 1) := by decide +kernel
theorem dX10_doubt_27 : decode cX10_doubt 27 = .ok (.getfield 71, 3) := by decide +kernel
theorem dX10_doubt_30 : decode cX10_doubt 30 = .ok (.iconst 3, 1) := by decide +kernel
theorem dX10_doubt_31 : decode cX10_doubt 31 = .ok (.iaload, 1) := by decide +kernel
theorem dX10_doubt_32 : decode cX10_doubt 32 = .ok (.iadd, 1) := by decide +kernel
theorem dX10_doubt_33 : decode cX10_doubt 33 = .ok (.istore 4, 2) := by decide +kernel
theorem dX10_doubt_35 : decode cX10_doubt 35 = .ok (.aload_n 0, 1) := by decide +kernel
theorem dX10_doubt_36 : decode cX10_doubt 36 = .ok (.getfield 71, 3) := by decide +kernel
theorem dX10_doubt_39 : decode cX10_doubt 39 = .ok (.iconst 0, 1) := by decide +kernel
theorem dX10_doubt_40 : decode cX10_doubt 40 = .ok (.iaload, 1) := by decide +kernel
theorem dX10_doubt_41 : decode cX10_doubt 41 = .ok (.aload_n 0, 1) := by decide +kernel
theorem dX10_doubt_42 : decode cX10_doubt 42 = .ok (.getfield 71, 3) := by decide +kernel
theorem dX10_doubt_45 : decode cX10_doubt 45 = .ok (.iconst 1, 1) := by decide +kernel
theorem dX10_doubt_46 : decode cX10_doubt 46 = .ok (.iaload, 1) := by decide +kernel
theorem dX10_doubt_47 : decode cX10_doubt 47 = .ok (.iadd, 1) := by decide +kernel
theorem dX10_doubt_48 : decode cX10_doubt 48 = .ok (.istore 5, 2) := by decide +kernel
theorem dX10_doubt_50 : decode cX10_doubt 50 = .ok (.aload_n 0, 1) := by decide +kernel
theorem dX10_doubt_51 : decode cX10_doubt 51 = .ok (.getfield 71, 3) := by decide +kernel
theorem dX10_doubt_54 : decode cX10_doubt 54 = .ok (.iconst 1, 1) := by decide +kernel
theorem dX10_doubt_55 : decode cX10_doubt 55 = .ok (.iaload, 1) := by decide +kernel
theorem dX10_doubt_56 : decode cX10_doubt 56 = .ok (.aload_n 0, 1) := by decide +kernel
theorem dX10_doubt_57 : decode cX10_doubt 57 = .ok (.getfield 71, 3) := by decide +kernel
theorem dX10_doubt_60 : decode cX10_doubt 60 = .ok (.iconst 3, 1) := by decide +kernel
theorem dX10_doubt_61 : decode cX10_doubt 61 = .ok (.iaload, 1) := by decide +kernel
theorem dX10_doubt_62 : decode cX10_doubt 62 = .ok (.iadd, 1) := by decide +kernel
theorem dX10_doubt_63 : decode cX10_doubt 63 = .ok (.istore 6, 2) := by decide +kernel
theorem dX10_doubt_65 : decode cX10_doubt 65 = .ok (.lconst 0, 1) := by decide +kernel
theorem dX10_doubt_66 : decode cX10_doubt 66 = .ok (.lstore 7, 2) := by decide +kernel
theorem dX10_doubt_68 : decode cX10_doubt 68 = .ok (.aload_n 0, 1) := by decide +kernel
theorem dX10_doubt_69 : decode cX10_doubt 69 = .ok (.getfield 71, 3) := by decide +kernel
theorem dX10_doubt_72 : decode cX10_doubt 72 = .ok (.iconst 3, 1) := by decide +kernel
theorem dX10_doubt_73 : decode cX10_doubt 73 = .ok (.iaload, 1) := by decide +kernel
theorem dX10_doubt_74 : decode cX10_doubt 74 = .ok (.istore 9, 2) := by decide +kernel
theorem dX10_doubt_76 : decode cX10_doubt 76 = .ok (.iload 9, 2) := by decide +kernel
theorem dX10_doubt_78 : decode cX10_doubt 78 = .ok (.iload 4, 2) := by decide +kernel
theorem dX10_doubt_80 : decode cX10_doubt 80 = .ok (.if_icmp .gt 32, 3) := by decide +kernel
theorem dX10_doubt_83 : decode cX10_doubt 83 = .ok (.lload 7, 2) := by decide +kernel
theorem dX10_doubt_85 : decode cX10_doubt 85 = .ok (.iload 4, 2) := by decide +kernel
theorem dX10_doubt_87 : decode cX10_doubt 87 = .ok (.iload 9, 2) := by decide +kernel
theorem dX10_doubt_89 : decode cX10_doubt 89 = .ok (.invokestatic 417, 3) := by decide +kernel
theorem dX10_doubt_92 : decode cX10_doubt 92 = .ok (.iload 5, 2) := by decide +kernel
theorem dX10_doubt_94 : decode cX10_doubt 94 = .ok (.iload 6, 2) := by decide +kernel
theorem dX10_doubt_96 : decode cX10_doubt 96 = .ok (.iload 9, 2) := by decide +kernel
theorem dX10_doubt_98 : decode cX10_doubt 98 = .ok (.isub, 1) := by decide +kernel
theorem dX10_doubt_99 : decode cX10_doubt 99 = .ok (.invokestatic 417, 3) := by decide +kernel
theorem dX10_doubt_102 : decode cX10_doubt 102 = .ok (.lmul, 1) := by decide +kernel
theorem dX10_doubt_103 : decode cX10_doubt 103 = .ok (.ladd, 1) := by decide +kernel
theorem dX10_doubt_104 : decode cX10_doubt 104 = .ok (.lstore 7, 2) := by decide +kernel
theorem dX10_doubt_106 : decode cX10_doubt 106 = .ok (.iinc 9 1, 3) := by decide +kernel
theorem dX10_doubt_109 : decode cX10_doubt 109 = .ok (.goto (-33), 3) := by decide +kernel
theorem dX10_doubt_112 : decode cX10_doubt 112 = .ok (.lload 7, 2) := by decide +kernel
theorem dX10_doubt_114 : decode cX10_doubt 114 = .ok (.iload 4, 2) := by decide +kernel
theorem dX10_doubt_116 : decode cX10_doubt 116 = .ok (.iload 5, 2) := by decide +kernel
theorem dX10_doubt_118 : decode cX10_doubt 118 = .ok (.iadd, 1) := by decide +kernel
theorem dX10_doubt_119 : decode cX10_doubt 119 = .ok (.iload 6, 2) := by decide +kernel
theorem dX10_doubt_121 : decode cX10_doubt 121 = .ok (.invokestatic 417, 3) := by decide +kernel
theorem dX10_doubt_124 : decode cX10_doubt 124 = .ok (.iload_n 2, 1) := by decide +kernel
theorem dX10_doubt_125 : decode cX10_doubt 125 = .ok (.invokestatic 420, 3) := by decide +kernel
theorem dX10_doubt_128 : decode cX10_doubt 128 = .ok (.lreturn, 1) := by decide +kernel
theorem dX10_share_0 : decode cX10_share 0 = .ok (.aload_n 0, 1) := by decide +kernel
theorem dX10_share_1 : decode cX10_share 1 = .ok (.iload_n 1, 1) := by decide +kernel
theorem dX10_share_2 : decode cX10_share 2 = .ok (.iload_n 2, 1) := by decide +kernel
theorem dX10_share_3 : decode cX10_share 3 = .ok (.i2l, 1) := by decide +kernel
theorem dX10_share_4 : decode cX10_share 4 = .ok (.lconst 0, 1) := by decide +kernel
theorem dX10_share_5 : decode cX10_share 5 = .ok (.lconst 1, 1) := by decide +kernel
theorem dX10_share_6 : decode cX10_share 6 = .ok (.invokestatic 92, 3) := by decide +kernel
theorem dX10_share_9 : decode cX10_share 9 = .ok (.ifCond .eq 17, 3) := by decide +kernel
theorem dX10_share_12 : decode cX10_share 12 = .ok (.iload_n 3, 1) := by decide +kernel
theorem dX10_share_13 : decode cX10_share 13 = .ok (.i2l, 1) := by decide +kernel
theorem dX10_share_14 : decode cX10_share 14 = .ok (.lconst 0, 1) := by decide +kernel
theorem dX10_share_15 : decode cX10_share 15 = .ok (.lconst 1, 1) := by decide +kernel
theorem dX10_share_16 : decode cX10_share 16 = .ok (.invokestatic 92, 3) := by decide +kernel
theorem dX10_share_19 : decode cX10_share 19 = .ok (.ifCond .eq 7, 3) := by decide +kernel
theorem dX10_share_22 : decode cX10_share 22 = .ok (.iconst 1, 1) := by decide +kernel
theorem dX10_share_23 : decode cX10_share 23 = .ok (.goto 4, 3) := by decide +kernel
theorem dX10_share_26 : decode cX10_share 26 = .ok (.iconst 0, 1) := by decide +kernel
theorem dX10_share_27 : decode cX10_share 27 = .ok (.invokevirtual 409, 3) := by decide +kernel
theorem dX10_share_30 : decode cX10_share 30 = .ok (.istore 4, 2) := by decide +kernel
theorem dX10_share_32 : decode cX10_share 32 = .ok (.iload 4, 2) := by decide +kernel
theorem dX10_share_34 : decode cX10_share 34 = .ok (.ifCond .ge 6, 3) := by decide +kernel
theorem dX10_share_37 : decode cX10_share 37 = .ok (.iload 4, 2) := by decide +kernel
theorem dX10_share_39 : decode cX10_share 39 = .ok (.ireturn, 1) := by decide +kernel
theorem dX10_share_40 : decode cX10_share 40 = .ok (.aload_n 0, 1) := by decide +kernel
theorem dX10_share_41 : decode cX10_share 41 = .ok (.getfield 71, 3) := by decide +kernel
theorem dX10_share_44 : decode cX10_share 44 = .ok (.iconst 2, 1) := by decide +kernel
theorem dX10_share_45 : decode cX10_share 45 = .ok (.iload_n 2, 1) := by decide +kernel
theorem dX10_share_46 : decode cX10_share 46 = .ok (.imul, 1) := by decide +kernel
theorem dX10_share_47 : decode cX10_share 47 = .ok (.iaload, 1) := by decide +kernel
theorem dX10_share_48 : decode cX10_share 48 = .ok (.aload_n 0, 1) := by decide +kernel
theorem dX10_share_49 : decode cX10_share 49 = .ok (.getfield 71, 3) := by decide +kernel
theorem dX10_share_52 : decode cX10_share 52 = .ok (.iconst 2, 1) := by decide +kernel
theorem dX10_share_53 : decode cX10_share 53 = .ok (.iload_n 2, 1) := by decide +kernel
theorem dX10_share_54 : decode cX10_share 54 = .ok (.imul, 1) := by decide +kernel
theorem dX10_share_55 : decode cX10_share 55 = .ok (.iconst 1, 1) := by decide +kernel
theorem dX10_share_56 : decode cX10_share 56 = .ok (.iadd, 1) := by decide +kernel
theorem dX10_share_57 : decode cX10_share 57 = .ok (.iaload, 1) := by decide +kernel
theorem dX10_share_58 : decode cX10_share 58 = .ok (.iadd, 1) := by decide +kernel
theorem dX10_share_59 : decode cX10_share 59 = .ok (.istore 5, 2) := by decide +kernel
theorem dX10_share_61 : decode cX10_share 61 = .ok (.iload 5, 2) := by decide +kernel
theorem dX10_share_63 : decode cX10_share 63 = .ok (.ifCond .ne 7, 3) := by decide +kernel
theorem dX10_share_66 : decode cX10_share 66 = .ok (.iconst (-1), 1) := by decide +kernel
theorem dX10_share_67 : decode cX10_share 67 = .ok (.goto 22, 3) := by decide +kernel
theorem dX10_share_70 : decode cX10_share 70 = .ok (.aload_n 0, 1) := by decide +kernel
theorem dX10_share_71 : decode cX10_share 71 = .ok (.getfield 71, 3) := by decide +kernel
theorem dX10_share_74 : decode cX10_share 74 = .ok (.iconst 2, 1) := by decide +kernel
theorem dX10_share_75 : decode cX10_share 75 = .ok (.iload_n 2, 1) := by decide +kernel
theorem dX10_share_76 : decode cX10_share 76 = .ok (.imul, 1) := by decide +kernel
theorem dX10_share_77 : decode cX10_share 77 = .ok (.iconst 1, 1) := by decide +kernel
theorem dX10_share_78 : decode cX10_share 78 = .ok (.iadd, 1) := by decide +kernel
theorem dX10_share_79 : decode cX10_share 79 = .ok (.iaload, 1) := by decide +kernel
theorem dX10_share_80 : decode cX10_share 80 = .ok (.i2l, 1) := by decide +kernel
theorem dX10_share_81 : decode cX10_share 81 = .ok (.iload 5, 2) := by decide +kernel
theorem dX10_share_83 : decode cX10_share 83 = .ok (.i2l, 1) := by decide +kernel
theorem dX10_share_84 : decode cX10_share 84 = .ok (.iload_n 3, 1) := by decide +kernel
theorem dX10_share_85 : decode cX10_share 85 = .ok (.invokestatic 420, 3) := by decide +kernel
theorem dX10_share_88 : decode cX10_share 88 = .ok (.l2i, 1) := by decide +kernel
theorem dX10_share_89 : decode cX10_share 89 = .ok (.ireturn, 1) := by decide +kernel
theorem dX10_leans_0 : decode cX10_leans 0 = .ok (.aload_n 0, 1) := by decide +kernel
theorem dX10_leans_1 : decode cX10_leans 1 = .ok (.iload_n 1, 1) := by decide +kernel
theorem dX10_leans_2 : decode cX10_leans 2 = .ok (.iconst 1, 1) := by decide +kernel
theorem dX10_leans_3 : decode cX10_leans 3 = .ok (.invokevirtual 409, 3) := by decide +kernel
theorem dX10_leans_6 : decode cX10_leans 6 = .ok (.istore_n 2, 1) := by decide +kernel
theorem dX10_leans_7 : decode cX10_leans 7 = .ok (.iload_n 2, 1) := by decide +kernel
theorem dX10_leans_8 : decode cX10_leans 8 = .ok (.ifCond .ge 5, 3) := by decide +kernel
theorem dX10_leans_11 : decode cX10_leans 11 = .ok (.iload_n 2, 1) := by decide +kernel
theorem dX10_leans_12 : decode cX10_leans 12 = .ok (.ireturn, 1) := by decide +kernel
theorem dX10_leans_13 : decode cX10_leans 13 = .ok (.aload_n 0, 1) := by decide +kernel
theorem dX10_leans_14 : decode cX10_leans 14 = .ok (.getfield 71, 3) := by decide +kernel
theorem dX10_leans_17 : decode cX10_leans 17 = .ok (.iconst 2, 1) := by decide +kernel
theorem dX10_leans_18 : decode cX10_leans 18 = .ok (.iaload, 1) := by decide +kernel
theorem dX10_leans_19 : decode cX10_leans 19 = .ok (.aload_n 0, 1) := by decide +kernel
theorem dX10_leans_20 : decode cX10_leans 20 = .ok (.getfield 71, 3) := by decide +kernel
theorem dX10_leans_23 : decode cX10_leans 23 = .ok (.iconst 3, 1) := by decide +kernel
theorem dX10_leans_24 : decode cX10_leans 24 = .ok (.iaload, 1) := by decide +kernel
theorem dX10_leans_25 : decode cX10_leans 25 = .ok (.iadd, 1) := by decide +kernel
theorem dX10_leans_26 : decode cX10_leans 26 = .ok (.istore_n 3, 1) := by decide +kernel
theorem dX10_leans_27 : decode cX10_leans 27 = .ok (.aload_n 0, 1) := by decide +kernel
theorem dX10_leans_28 : decode cX10_leans 28 = .ok (.getfield 71, 3) := by decide +kernel
theorem dX10_leans_31 : decode cX10_leans 31 = .ok (.iconst 0, 1) := by decide +kernel
theorem dX10_leans_32 : decode cX10_leans 32 = .ok (.iaload, 1) := by decide +kernel
theorem dX10_leans_33 : decode cX10_leans 33 = .ok (.aload_n 0, 1) := by decide +kernel
theorem dX10_leans_34 : decode cX10_leans 34 = .ok (.getfield 71, 3) := by decide +kernel
theorem dX10_leans_37 : decode cX10_leans 37 = .ok (.iconst 1, 1) := by decide +kernel
theorem dX10_leans_38 : decode cX10_leans 38 = .ok (.iaload, 1) := by decide +kernel
theorem dX10_leans_39 : decode cX10_leans 39 = .ok (.iadd, 1) := by decide +kernel
theorem dX10_leans_40 : decode cX10_leans 40 = .ok (.istore 4, 2) := by decide +kernel
theorem dX10_leans_42 : decode cX10_leans 42 = .ok (.iload_n 3, 1) := by decide +kernel
theorem dX10_leans_43 : decode cX10_leans 43 = .ok (.ifCond .eq 8, 3) := by decide +kernel
theorem dX10_leans_46 : decode cX10_leans 46 = .ok (.iload 4, 2) := by decide +kernel
theorem dX10_leans_48 : decode cX10_leans 48 = .ok (.ifCond .ne 5, 3) := by decide +kernel
theorem dX10_leans_51 : decode cX10_leans 51 = .ok (.iconst 0, 1) := by decide +kernel
theorem dX10_leans_52 : decode cX10_leans 52 = .ok (.ireturn, 1) := by decide +kernel
theorem dX10_leans_53 : decode cX10_leans 53 = .ok (.aload_n 0, 1) := by decide +kernel
theorem dX10_leans_54 : decode cX10_leans 54 = .ok (.getfield 71, 3) := by decide +kernel
theorem dX10_leans_57 : decode cX10_leans 57 = .ok (.iconst 3, 1) := by decide +kernel
theorem dX10_leans_58 : decode cX10_leans 58 = .ok (.iaload, 1) := by decide +kernel
theorem dX10_leans_59 : decode cX10_leans 59 = .ok (.iload 4, 2) := by decide +kernel
theorem dX10_leans_61 : decode cX10_leans 61 = .ok (.imul, 1) := by decide +kernel
theorem dX10_leans_62 : decode cX10_leans 62 = .ok (.aload_n 0, 1) := by decide +kernel
theorem dX10_leans_63 : decode cX10_leans 63 = .ok (.getfield 71, 3) := by decide +kernel
theorem dX10_leans_66 : decode cX10_leans 66 = .ok (.iconst 1, 1) := by decide +kernel
theorem dX10_leans_67 : decode cX10_leans 67 = .ok (.iaload, 1) := by decide +kernel
theorem dX10_leans_68 : decode cX10_leans 68 = .ok (.iload_n 3, 1) := by decide +kernel
theorem dX10_leans_69 : decode cX10_leans 69 = .ok (.imul, 1) := by decide +kernel
theorem dX10_leans_70 : decode cX10_leans 70 = .ok (.invokestatic 424, 3) := by decide +kernel
theorem dX10_leans_73 : decode cX10_leans 73 = .ok (.ireturn, 1) := by decide +kernel
theorem dX10_general_0 : decode cX10_general 0 = .ok (.iload_n 0, 1) := by decide +kernel
theorem dX10_general_1 : decode cX10_general 1 = .ok (.ifCond .ne 7, 3) := by decide +kernel
theorem dX10_general_4 : decode cX10_general 4 = .ok (.iload_n 2, 1) := by decide +kernel
theorem dX10_general_5 : decode cX10_general 5 = .ok (.iload_n 3, 1) := by decide +kernel
theorem dX10_general_6 : decode cX10_general 6 = .ok (.isub, 1) := by decide +kernel
theorem dX10_general_7 : decode cX10_general 7 = .ok (.ireturn, 1) := by decide +kernel
theorem dX10_general_8 : decode cX10_general 8 = .ok (.iload_n 1, 1) := by decide +kernel
theorem dX10_general_9 : decode cX10_general 9 = .ok (.ifCond .eq 7, 3) := by decide +kernel
theorem dX10_general_12 : decode cX10_general 12 = .ok (.iconst 0, 1) := by decide +kernel
theorem dX10_general_13 : decode cX10_general 13 = .ok (.goto 4, 3) := by decide +kernel
theorem dX10_general_16 : decode cX10_general 16 = .ok (.iload_n 2, 1) := by decide +kernel
theorem dX10_general_17 : decode cX10_general 17 = .ok (.ireturn, 1) := by decide +kernel
theorem dX10_augur__0 : decode cX10_augur_ 0 = .ok (.iload_n 0, 1) := by decide +kernel
theorem dX10_augur__1 : decode cX10_augur_ 1 = .ok (.ifCond .eq 15, 3) := by decide +kernel
theorem dX10_augur__4 : decode cX10_augur_ 4 = .ok (.iload_n 1, 1) := by decide +kernel
theorem dX10_augur__5 : decode cX10_augur_ 5 = .ok (.ifCond .eq 7, 3) := by decide +kernel
theorem dX10_augur__8 : decode cX10_augur_ 8 = .ok (.iload_n 2, 1) := by decide +kernel
theorem dX10_augur__9 : decode cX10_augur_ 9 = .ok (.goto 8, 3) := by decide +kernel
theorem dX10_augur__12 : decode cX10_augur_ 12 = .ok (.iconst 0, 1) := by decide +kernel
theorem dX10_augur__13 : decode cX10_augur_ 13 = .ok (.goto 4, 3) := by decide +kernel
theorem dX10_augur__16 : decode cX10_augur_ 16 = .ok (.iload_n 3, 1) := by decide +kernel
theorem dX10_augur__17 : decode cX10_augur_ 17 = .ok (.istore 4, 2) := by decide +kernel
theorem dX10_augur__19 : decode cX10_augur_ 19 = .ok (.iload_n 1, 1) := by decide +kernel
theorem dX10_augur__20 : decode cX10_augur_ 20 = .ok (.ifCond .eq 10, 3) := by decide +kernel
theorem dX10_augur__23 : decode cX10_augur_ 23 = .ok (.iload 4, 2) := by decide +kernel
theorem dX10_augur__25 : decode cX10_augur_ 25 = .ok (.iconst 1, 1) := by decide +kernel
theorem dX10_augur__26 : decode cX10_augur_ 26 = .ok (.isub, 1) := by decide +kernel
theorem dX10_augur__27 : decode cX10_augur_ 27 = .ok (.goto 5, 3) := by decide +kernel
theorem dX10_augur__30 : decode cX10_augur_ 30 = .ok (.iload 4, 2) := by decide +kernel
theorem dX10_augur__32 : decode cX10_augur_ 32 = .ok (.ireturn, 1) := by decide +kernel
theorem dX10_isRest_0 : decode cX10_isRest 0 = .ok (.iload_n 0, 1) := by decide +kernel
theorem dX10_isRest_1 : decode cX10_isRest 1 = .ok (.iload_n 1, 1) := by decide +kernel
theorem dX10_isRest_2 : decode cX10_isRest 2 = .ok (.iload_n 2, 1) := by decide +kernel
theorem dX10_isRest_3 : decode cX10_isRest 3 = .ok (.iload_n 3, 1) := by decide +kernel
theorem dX10_isRest_4 : decode cX10_isRest 4 = .ok (.invokestatic 429, 3) := by decide +kernel
theorem dX10_isRest_7 : decode cX10_isRest 7 = .ok (.iload_n 0, 1) := by decide +kernel
theorem dX10_isRest_8 : decode cX10_isRest 8 = .ok (.ifCond .ne 7, 3) := by decide +kernel
theorem dX10_isRest_11 : decode cX10_isRest 11 = .ok (.iconst 1, 1) := by decide +kernel
theorem dX10_isRest_12 : decode cX10_isRest 12 = .ok (.goto 4, 3) := by decide +kernel
theorem dX10_isRest_15 : decode cX10_isRest 15 = .ok (.iconst 0, 1) := by decide +kernel
theorem dX10_isRest_16 : decode cX10_isRest 16 = .ok (.iload_n 1, 1) := by decide +kernel
theorem dX10_isRest_17 : decode cX10_isRest 17 = .ok (.iload_n 2, 1) := by decide +kernel
theorem dX10_isRest_18 : decode cX10_isRest 18 = .ok (.iload_n 3, 1) := by decide +kernel
theorem dX10_isRest_19 : decode cX10_isRest 19 = .ok (.invokestatic 429, 3) := by decide +kernel
theorem dX10_isRest_22 : decode cX10_isRest 22 = .ok (.if_icmp .lt 32, 3) := by decide +kernel
theorem dX10_isRest_25 : decode cX10_isRest 25 = .ok (.iload_n 0, 1) := by decide +kernel
theorem dX10_isRest_26 : decode cX10_isRest 26 = .ok (.iload_n 1, 1) := by decide +kernel
theorem dX10_isRest_27 : decode cX10_isRest 27 = .ok (.iload_n 2, 1) := by decide +kernel
theorem dX10_isRest_28 : decode cX10_isRest 28 = .ok (.iload_n 3, 1) := by decide +kernel
theorem dX10_isRest_29 : decode cX10_isRest 29 = .ok (.invokestatic 433, 3) := by decide +kernel
theorem dX10_isRest_32 : decode cX10_isRest 32 = .ok (.iload_n 0, 1) := by decide +kernel
theorem dX10_isRest_33 : decode cX10_isRest 33 = .ok (.iload_n 1, 1) := by decide +kernel
theorem dX10_isRest_34 : decode cX10_isRest 34 = .ok (.ifCond .ne 7, 3) := by decide +kernel
theorem dX10_isRest_37 : decode cX10_isRest 37 = .ok (.iconst 1, 1) := by decide +kernel
theorem dX10_isRest_38 : decode cX10_isRest 38 = .ok (.goto 4, 3) := by decide +kernel
theorem dX10_isRest_41 : decode cX10_isRest 41 = .ok (.iconst 0, 1) := by decide +kernel
theorem dX10_isRest_42 : decode cX10_isRest 42 = .ok (.iload_n 2, 1) := by decide +kernel
theorem dX10_isRest_43 : decode cX10_isRest 43 = .ok (.iload_n 3, 1) := by decide +kernel
theorem dX10_isRest_44 : decode cX10_isRest 44 = .ok (.invokestatic 433, 3) := by decide +kernel
theorem dX10_isRest_47 : decode cX10_isRest 47 = .ok (.if_icmp .lt 7, 3) := by decide +kernel
theorem dX10_isRest_50 : decode cX10_isRest 50 = .ok (.iconst 1, 1) := by decide +kernel
theorem dX10_isRest_51 : decode cX10_isRest 51 = .ok (.goto 4, 3) := by decide +kernel
theorem dX10_isRest_54 : decode cX10_isRest 54 = .ok (.iconst 0, 1) := by decide +kernel
theorem dX10_isRest_55 : decode cX10_isRest 55 = .ok (.ireturn, 1) := by decide +kernel
theorem dX10_rests_0 : decode cX10_rests 0 = .ok (.iload_n 1, 1) := by decide +kernel
theorem dX10_rests_1 : decode cX10_rests 1 = .ok (.i2l, 1) := by decide +kernel
theorem dX10_rests_2 : decode cX10_rests 2 = .ok (.lconst 0, 1) := by decide +kernel
theorem dX10_rests_3 : decode cX10_rests 3 = .ok (.ldc2_w 435, 3) := by decide +kernel
theorem dX10_rests_6 : decode cX10_rests 6 = .ok (.invokestatic 92, 3) := by decide +kernel
theorem dX10_rests_9 : decode cX10_rests 9 = .ok (.ifCond .eq 15, 3) := by decide +kernel
theorem dX10_rests_12 : decode cX10_rests 12 = .ok (.iload_n 2, 1) := by decide +kernel
theorem dX10_rests_13 : decode cX10_rests 13 = .ok (.i2l, 1) := by decide +kernel
theorem dX10_rests_14 : decode cX10_rests 14 = .ok (.lconst 0, 1) := by decide +kernel
theorem dX10_rests_15 : decode cX10_rests 15 = .ok (.ldc2_w 435, 3) := by decide +kernel
theorem dX10_rests_18 : decode cX10_rests 18 = .ok (.invokestatic 92, 3) := by decide +kernel
theorem dX10_rests_21 : decode cX10_rests 21 = .ok (.ifCond .ne 6, 3) := by decide +kernel
theorem dX10_rests_24 : decode cX10_rests 24 = .ok (.bipush (-2), 2) := by decide +kernel
theorem dX10_rests_26 : decode cX10_rests 26 = .ok (.ireturn, 1) := by decide +kernel
theorem dX10_rests_27 : decode cX10_rests 27 = .ok (.iconst 0, 1) := by decide +kernel
theorem dX10_rests_28 : decode cX10_rests 28 = .ok (.istore_n 3, 1) := by decide +kernel
theorem dX10_rests_29 : decode cX10_rests 29 = .ok (.iconst 0, 1) := by decide +kernel
theorem dX10_rests_30 : decode cX10_rests 30 = .ok (.istore 4, 2) := by decide +kernel
theorem dX10_rests_32 : decode cX10_rests 32 = .ok (.iload 4, 2) := by decide +kernel
theorem dX10_rests_34 : decode cX10_rests 34 = .ok (.iconst 4, 1) := by decide +kernel
theorem dX10_rests_35 : decode cX10_rests 35 = .ok (.if_icmp .ge 51, 3) := by decide +kernel
theorem dX10_rests_38 : decode cX10_rests 38 = .ok (.iload_n 3, 1) := by decide +kernel
theorem dX10_rests_39 : decode cX10_rests 39 = .ok (.iload 4, 2) := by decide +kernel
theorem dX10_rests_41 : decode cX10_rests 41 = .ok (.iconst 2, 1) := by decide +kernel
theorem dX10_rests_42 : decode cX10_rests 42 = .ok (.if_icmp .ge 7, 3) := by decide +kernel
theorem dX10_rests_45 : decode cX10_rests 45 = .ok (.iconst 1, 1) := by decide +kernel
theorem dX10_rests_46 : decode cX10_rests 46 = .ok (.goto 4, 3) := by decide +kernel
theorem dX10_rests_49 : decode cX10_rests 49 = .ok (.iconst 0, 1) := by decide +kernel
theorem dX10_rests_50 : decode cX10_rests 50 = .ok (.iload 4, 2) := by decide +kernel
theorem dX10_rests_52 : decode cX10_rests 52 = .ok (.iconst 2, 1) := by decide +kernel
theorem dX10_rests_53 : decode cX10_rests 53 = .ok (.irem, 1) := by decide +kernel
theorem dX10_rests_54 : decode cX10_rests 54 = .ok (.ifCond .ne 7, 3) := by decide +kernel
theorem dX10_rests_57 : decode cX10_rests 57 = .ok (.iconst 1, 1) := by decide +kernel
theorem dX10_rests_58 : decode cX10_rests 58 = .ok (.goto 4, 3) := by decide +kernel
theorem dX10_rests_61 : decode cX10_rests 61 = .ok (.iconst 0, 1) := by decide +kernel
theorem dX10_rests_62 : decode cX10_rests 62 = .ok (.iload_n 1, 1) := by decide +kernel
theorem dX10_rests_63 : decode cX10_rests 63 = .ok (.iload_n 2, 1) := by decide +kernel
theorem dX10_rests_64 : decode cX10_rests 64 = .ok (.invokestatic 437, 3) := by decide +kernel
theorem dX10_rests_67 : decode cX10_rests 67 = .ok (.ifCond .eq 10, 3) := by decide +kernel
theorem dX10_rests_70 : decode cX10_rests 70 = .ok (.iconst 1, 1) := by decide +kernel
theorem dX10_rests_71 : decode cX10_rests 71 = .ok (.iload 4, 2) := by decide +kernel
theorem dX10_rests_73 : decode cX10_rests 73 = .ok (.ishl, 1) := by decide +kernel
theorem dX10_rests_74 : decode cX10_rests 74 = .ok (.goto 4, 3) := by decide +kernel
theorem dX10_rests_77 : decode cX10_rests 77 = .ok (.iconst 0, 1) := by decide +kernel
theorem dX10_rests_78 : decode cX10_rests 78 = .ok (.ior, 1) := by decide +kernel
theorem dX10_rests_79 : decode cX10_rests 79 = .ok (.istore_n 3, 1) := by decide +kernel
theorem dX10_rests_80 : decode cX10_rests 80 = .ok (.iinc 4 1, 3) := by decide +kernel
theorem dX10_rests_83 : decode cX10_rests 83 = .ok (.goto (-51), 3) := by decide +kernel
theorem dX10_rests_86 : decode cX10_rests 86 = .ok (.iload_n 3, 1) := by decide +kernel
theorem dX10_rests_87 : decode cX10_rests 87 = .ok (.ireturn, 1) := by decide +kernel
theorem dX10_believes_0 : decode cX10_believes 0 = .ok (.iload_n 1, 1) := by decide +kernel
theorem dX10_believes_1 : decode cX10_believes 1 = .ok (.i2l, 1) := by decide +kernel
theorem dX10_believes_2 : decode cX10_believes 2 = .ok (.lconst 0, 1) := by decide +kernel
theorem dX10_believes_3 : decode cX10_believes 3 = .ok (.ldc2_w 435, 3) := by decide +kernel
theorem dX10_believes_6 : decode cX10_believes 6 = .ok (.invokestatic 92, 3) := by decide +kernel
theorem dX10_believes_9 : decode cX10_believes 9 = .ok (.ifCond .ne 6, 3) := by decide +kernel
theorem dX10_believes_12 : decode cX10_believes 12 = .ok (.bipush (-2), 2) := by decide +kernel
theorem dX10_believes_14 : decode cX10_believes 14 = .ok (.ireturn, 1) := by decide +kernel
theorem dX10_believes_15 : decode cX10_believes 15 = .ok (.iconst 0, 1) := by decide +kernel
theorem dX10_believes_16 : decode cX10_believes 16 = .ok (.istore_n 2, 1) := by decide +kernel
theorem dX10_believes_17 : decode cX10_believes 17 = .ok (.iload_n 2, 1) := by decide +kernel
theorem dX10_believes_18 : decode cX10_believes 18 = .ok (.bipush 99, 2) := by decide +kernel
theorem dX10_believes_20 : decode cX10_believes 20 = .ok (.if_icmp .gt 21, 3) := by decide +kernel
theorem dX10_believes_23 : decode cX10_believes 23 = .ok (.iconst 1, 1) := by decide +kernel
theorem dX10_believes_24 : decode cX10_believes 24 = .ok (.iconst 1, 1) := by decide +kernel
theorem dX10_believes_25 : decode cX10_believes 25 = .ok (.iload_n 1, 1) := by decide +kernel
theorem dX10_believes_26 : decode cX10_believes 26 = .ok (.iload_n 2, 1) := by decide +kernel
theorem dX10_believes_27 : decode cX10_believes 27 = .ok (.invokestatic 437, 3) := by decide +kernel
theorem dX10_believes_30 : decode cX10_believes 30 = .ok (.ifCond .eq 5, 3) := by decide +kernel
theorem dX10_believes_33 : decode cX10_believes 33 = .ok (.iload_n 2, 1) := by decide +kernel
theorem dX10_believes_34 : decode cX10_believes 34 = .ok (.ireturn, 1) := by decide +kernel
theorem dX10_believes_35 : decode cX10_believes 35 = .ok (.iinc 2 1, 3) := by decide +kernel
theorem dX10_believes_38 : decode cX10_believes 38 = .ok (.goto (-21), 3) := by decide +kernel
theorem dX10_believes_41 : decode cX10_believes 41 = .ok (.iconst (-1), 1) := by decide +kernel
theorem dX10_believes_42 : decode cX10_believes 42 = .ok (.ireturn, 1) := by decide +kernel
theorem dX10_chance_0 : decode cX10_chance 0 = .ok (.aload_n 0, 1) := by decide +kernel
theorem dX10_chance_1 : decode cX10_chance 1 = .ok (.invokevirtual 289, 3) := by decide +kernel
theorem dX10_chance_4 : decode cX10_chance 4 = .ok (.ifCond .eq 13, 3) := by decide +kernel
theorem dX10_chance_7 : decode cX10_chance 7 = .ok (.iload_n 1, 1) := by decide +kernel
theorem dX10_chance_8 : decode cX10_chance 8 = .ok (.i2l, 1) := by decide +kernel
theorem dX10_chance_9 : decode cX10_chance 9 = .ok (.lconst 0, 1) := by decide +kernel
theorem dX10_chance_10 : decode cX10_chance 10 = .ok (.lconst 1, 1) := by decide +kernel
theorem dX10_chance_11 : decode cX10_chance 11 = .ok (.invokestatic 92, 3) := by decide +kernel
theorem dX10_chance_14 : decode cX10_chance 14 = .ok (.ifCond .ne 7, 3) := by decide +kernel
theorem dX10_chance_17 : decode cX10_chance 17 = .ok (.ldc2_w 441, 3) := by decide +kernel
theorem dX10_chance_20 : decode cX10_chance 20 = .ok (.lreturn, 1) := by decide +kernel
theorem dX10_chance_21 : decode cX10_chance 21 = .ok (.lconst 1, 1) := by decide +kernel
theorem dX10_chance_22 : decode cX10_chance 22 = .ok (.lstore_n 2, 1) := by decide +kernel
theorem dX10_chance_23 : decode cX10_chance 23 = .ok (.lconst 1, 1) := by decide +kernel
theorem dX10_chance_24 : decode cX10_chance 24 = .ok (.lstore 4, 2) := by decide +kernel
theorem dX10_chance_26 : decode cX10_chance 26 = .ok (.iconst 0, 1) := by decide +kernel
theorem dX10_chance_27 : decode cX10_chance 27 = .ok (.istore 6, 2) := by decide +kernel
theorem dX10_chance_29 : decode cX10_chance 29 = .ok (.iload 6, 2) := by decide +kernel
theorem dX10_chance_31 : decode cX10_chance 31 = .ok (.aload_n 0, 1) := by decide +kernel
theorem dX10_chance_32 : decode cX10_chance 32 = .ok (.getfield 9, 3) := by decide +kernel
theorem dX10_chance_35 : decode cX10_chance 35 = .ok (.iconst 5, 1) := by decide +kernel
theorem dX10_chance_36 : decode cX10_chance 36 = .ok (.iaload, 1) := by decide +kernel
theorem dX10_chance_37 : decode cX10_chance 37 = .ok (.if_icmp .ge 41, 3) := by decide +kernel
theorem dX10_chance_40 : decode cX10_chance 40 = .ok (.aload_n 0, 1) := by decide +kernel
theorem dX10_chance_41 : decode cX10_chance 41 = .ok (.getfield 43, 3) := by decide +kernel
theorem dX10_chance_44 : decode cX10_chance 44 = .ok (.iload 6, 2) := by decide +kernel
theorem dX10_chance_46 : decode cX10_chance 46 = .ok (.iaload, 1) := by decide +kernel
theorem dX10_chance_47 : decode cX10_chance 47 = .ok (.iconst (-1), 1) := by decide +kernel
theorem dX10_chance_48 : decode cX10_chance 48 = .ok (.if_icmp .ne 6, 3) := by decide +kernel
theorem dX10_chance_51 : decode cX10_chance 51 = .ok (.goto 21, 3) := by decide +kernel
theorem dX10_chance_54 : decode cX10_chance 54 = .ok (.lload_n 2, 1) := by decide +kernel
theorem dX10_chance_55 : decode cX10_chance 55 = .ok (.aload_n 0, 1) := by decide +kernel
theorem dX10_chance_56 : decode cX10_chance 56 = .ok (.getfield 9, 3) := by decide +kernel
theorem dX10_chance_59 : decode cX10_chance 59 = .ok (.iconst 3, 1) := by decide +kernel
theorem dX10_chance_60 : decode cX10_chance 60 = .ok (.iaload, 1) := by decide +kernel
theorem dX10_chance_61 : decode cX10_chance 61 = .ok (.i2l, 1) := by decide +kernel
theorem dX10_chance_62 : decode cX10_chance 62 = .ok (.lmul, 1) := by decide +kernel
theorem dX10_chance_63 : decode cX10_chance 63 = .ok (.lstore_n 2, 1) := by decide +kernel
theorem dX10_chance_64 : decode cX10_chance 64 = .ok (.lload 4, 2) := by decide +kernel
theorem dX10_chance_66 : decode cX10_chance 66 = .ok (.ldc2_w 271, 3) := by decide +kernel
theorem dX10_chance_69 : decode cX10_chance 69 = .ok (.lmul, 1) := by decide +kernel
theorem dX10_chance_70 : decode cX10_chance 70 = .ok (.lstore 4, 2) := by decide +kernel
theorem dX10_chance_72 : decode cX10_chance 72 = .ok (.iinc 6 1, 3) := by decide +kernel
theorem dX10_chance_75 : decode cX10_chance 75 = .ok (.goto (-46), 3) := by decide +kernel
theorem dX10_chance_78 : decode cX10_chance 78 = .ok (.lload_n 2, 1) := by decide +kernel
theorem dX10_chance_79 : decode cX10_chance 79 = .ok (.lload 4, 2) := by decide +kernel
theorem dX10_chance_81 : decode cX10_chance 81 = .ok (.iload_n 1, 1) := by decide +kernel
theorem dX10_chance_82 : decode cX10_chance 82 = .ok (.invokestatic 420, 3) := by decide +kernel
theorem dX10_chance_85 : decode cX10_chance 85 = .ok (.lreturn, 1) := by decide +kernel
theorem dX10_keepAct_0 : decode cX10_keepAct 0 = .ok (.aload_n 0, 1) := by decide +kernel
theorem dX10_keepAct_1 : decode cX10_keepAct 1 = .ok (.getfield 9, 3) := by decide +kernel
theorem dX10_keepAct_4 : decode cX10_keepAct 4 = .ok (.bipush 6, 2) := by decide +kernel
theorem dX10_keepAct_6 : decode cX10_keepAct 6 = .ok (.iaload, 1) := by decide +kernel
theorem dX10_keepAct_7 : decode cX10_keepAct 7 = .ok (.bipush 20, 2) := by decide +kernel
theorem dX10_keepAct_9 : decode cX10_keepAct 9 = .ok (.if_icmp .ne 5, 3) := by decide +kernel
theorem dX10_keepAct_12 : decode cX10_keepAct 12 = .ok (.iconst 0, 1) := by decide +kernel
theorem dX10_keepAct_13 : decode cX10_keepAct 13 = .ok (.ireturn, 1) := by decide +kernel
theorem dX10_keepAct_14 : decode cX10_keepAct 14 = .ok (.aload_n 0, 1) := by decide +kernel
theorem dX10_keepAct_15 : decode cX10_keepAct 15 = .ok (.getfield 9, 3) := by decide +kernel
theorem dX10_keepAct_18 : decode cX10_keepAct 18 = .ok (.bipush 57, 2) := by decide +kernel
theorem dX10_keepAct_20 : decode cX10_keepAct 20 = .ok (.aload_n 0, 1) := by decide +kernel
theorem dX10_keepAct_21 : decode cX10_keepAct 21 = .ok (.getfield 9, 3) := by decide +kernel
theorem dX10_keepAct_24 : decode cX10_keepAct 24 = .ok (.bipush 6, 2) := by decide +kernel
theorem dX10_keepAct_26 : decode cX10_keepAct 26 = .ok (.iaload, 1) := by decide +kernel
theorem dX10_keepAct_27 : decode cX10_keepAct 27 = .ok (.iadd, 1) := by decide +kernel
theorem dX10_keepAct_28 : decode cX10_keepAct 28 = .ok (.iload_n 1, 1) := by decide +kernel
theorem dX10_keepAct_29 : decode cX10_keepAct 29 = .ok (.iastore, 1) := by decide +kernel
theorem dX10_keepAct_30 : decode cX10_keepAct 30 = .ok (.aload_n 0, 1) := by decide +kernel
theorem dX10_keepAct_31 : decode cX10_keepAct 31 = .ok (.getfield 9, 3) := by decide +kernel
theorem dX10_keepAct_34 : decode cX10_keepAct 34 = .ok (.bipush 6, 2) := by decide +kernel
theorem dX10_keepAct_36 : decode cX10_keepAct 36 = .ok (.dup2, 1) := by decide +kernel
theorem dX10_keepAct_37 : decode cX10_keepAct 37 = .ok (.iaload, 1) := by decide +kernel
theorem dX10_keepAct_38 : decode cX10_keepAct 38 = .ok (.iconst 1, 1) := by decide +kernel
theorem dX10_keepAct_39 : decode cX10_keepAct 39 = .ok (.iadd, 1) := by decide +kernel
theorem dX10_keepAct_40 : decode cX10_keepAct 40 = .ok (.iastore, 1) := by decide +kernel
theorem dX10_keepAct_41 : decode cX10_keepAct 41 = .ok (.aload_n 0, 1) := by decide +kernel
theorem dX10_keepAct_42 : decode cX10_keepAct 42 = .ok (.invokevirtual 283, 3) := by decide +kernel
theorem dX10_keepAct_45 : decode cX10_keepAct 45 = .ok (.aload_n 0, 1) := by decide +kernel
theorem dX10_keepAct_46 : decode cX10_keepAct 46 = .ok (.invokevirtual 286, 3) := by decide +kernel
theorem dX10_keepAct_49 : decode cX10_keepAct 49 = .ok (.iconst 1, 1) := by decide +kernel
theorem dX10_keepAct_50 : decode cX10_keepAct 50 = .ok (.ireturn, 1) := by decide +kernel
theorem dX10_asks_0 : decode cX10_asks 0 = .ok (.aload_n 0, 1) := by decide +kernel
theorem dX10_asks_1 : decode cX10_asks 1 = .ok (.iload_n 1, 1) := by decide +kernel
theorem dX10_asks_2 : decode cX10_asks 2 = .ok (.invokevirtual 307, 3) := by decide +kernel
theorem dX10_asks_5 : decode cX10_asks 5 = .ok (.ifCond .eq 12, 3) := by decide +kernel
theorem dX10_asks_8 : decode cX10_asks 8 = .ok (.aload_n 0, 1) := by decide +kernel
theorem dX10_asks_9 : decode cX10_asks 9 = .ok (.iload_n 2, 1) := by decide +kernel
theorem dX10_asks_10 : decode cX10_asks 10 = .ok (.i2l, 1) := by decide +kernel
theorem dX10_asks_11 : decode cX10_asks 11 = .ok (.invokevirtual 248, 3) := by decide +kernel
theorem dX10_asks_14 : decode cX10_asks 14 = .ok (.ifCond .ne 6, 3) := by decide +kernel
theorem dX10_asks_17 : decode cX10_asks 17 = .ok (.bipush (-2), 2) := by decide +kernel
theorem dX10_asks_19 : decode cX10_asks 19 = .ok (.ireturn, 1) := by decide +kernel
theorem dX10_asks_20 : decode cX10_asks 20 = .ok (.aload_n 0, 1) := by decide +kernel
theorem dX10_asks_21 : decode cX10_asks 21 = .ok (.getfield 34, 3) := by decide +kernel
theorem dX10_asks_24 : decode cX10_asks 24 = .ok (.iload_n 2, 1) := by decide +kernel
theorem dX10_asks_25 : decode cX10_asks 25 = .ok (.iaload, 1) := by decide +kernel
theorem dX10_asks_26 : decode cX10_asks 26 = .ok (.iconst (-1), 1) := by decide +kernel
theorem dX10_asks_27 : decode cX10_asks 27 = .ok (.if_icmp .ne 26, 3) := by decide +kernel
theorem dX10_asks_30 : decode cX10_asks 30 = .ok (.aload_n 0, 1) := by decide +kernel
theorem dX10_asks_31 : decode cX10_asks 31 = .ok (.getfield 46, 3) := by decide +kernel
theorem dX10_asks_34 : decode cX10_asks 34 = .ok (.iload_n 1, 1) := by decide +kernel
theorem dX10_asks_35 : decode cX10_asks 35 = .ok (.iaload, 1) := by decide +kernel
theorem dX10_asks_36 : decode cX10_asks 36 = .ok (.iconst (-1), 1) := by decide +kernel
theorem dX10_asks_37 : decode cX10_asks 37 = .ok (.if_icmp .ne 16, 3) := by decide +kernel
theorem dX10_asks_40 : decode cX10_asks 40 = .ok (.aload_n 0, 1) := by decide +kernel
theorem dX10_asks_41 : decode cX10_asks 41 = .ok (.bipush 100, 2) := by decide +kernel
theorem dX10_asks_43 : decode cX10_asks 43 = .ok (.iload_n 1, 1) := by decide +kernel
theorem dX10_asks_44 : decode cX10_asks 44 = .ok (.imul, 1) := by decide +kernel
theorem dX10_asks_45 : decode cX10_asks 45 = .ok (.iload_n 2, 1) := by decide +kernel
theorem dX10_asks_46 : decode cX10_asks 46 = .ok (.iadd, 1) := by decide +kernel
theorem dX10_asks_47 : decode cX10_asks 47 = .ok (.invokevirtual 443, 3) := by decide +kernel
theorem dX10_asks_50 : decode cX10_asks 50 = .ok (.ifCond .ne 6, 3) := by decide +kernel
theorem dX10_asks_53 : decode cX10_asks 53 = .ok (.bipush (-5), 2) := by decide +kernel
theorem dX10_asks_55 : decode cX10_asks 55 = .ok (.ireturn, 1) := by decide +kernel
theorem dX10_asks_56 : decode cX10_asks 56 = .ok (.aload_n 0, 1) := by decide +kernel
theorem dX10_asks_57 : decode cX10_asks 57 = .ok (.getfield 43, 3) := by decide +kernel
theorem dX10_asks_60 : decode cX10_asks 60 = .ok (.iload_n 1, 1) := by decide +kernel
theorem dX10_asks_61 : decode cX10_asks 61 = .ok (.iaload, 1) := by decide +kernel
theorem dX10_asks_62 : decode cX10_asks 62 = .ok (.iconst (-1), 1) := by decide +kernel
theorem dX10_asks_63 : decode cX10_asks 63 = .ok (.if_icmp .ne 7, 3) := by decide +kernel
theorem dX10_asks_66 : decode cX10_asks 66 = .ok (.iconst 0, 1) := by decide +kernel
theorem dX10_asks_67 : decode cX10_asks 67 = .ok (.goto 4, 3) := by decide +kernel
theorem dX10_asks_70 : decode cX10_asks 70 = .ok (.iconst 1, 1) := by decide +kernel
theorem dX10_asks_71 : decode cX10_asks 71 = .ok (.ireturn, 1) := by decide +kernel
theorem dX10_feeds_0 : decode cX10_feeds 0 = .ok (.aload_n 0, 1) := by decide +kernel
theorem dX10_feeds_1 : decode cX10_feeds 1 = .ok (.iload_n 1, 1) := by decide +kernel
theorem dX10_feeds_2 : decode cX10_feeds 2 = .ok (.invokevirtual 292, 3) := by decide +kernel
theorem dX10_feeds_5 : decode cX10_feeds 5 = .ok (.ifCond .ne 6, 3) := by decide +kernel
theorem dX10_feeds_8 : decode cX10_feeds 8 = .ok (.bipush (-2), 2) := by decide +kernel
theorem dX10_feeds_10 : decode cX10_feeds 10 = .ok (.ireturn, 1) := by decide +kernel
theorem dX10_feeds_11 : decode cX10_feeds 11 = .ok (.aload_n 0, 1) := by decide +kernel
theorem dX10_feeds_12 : decode cX10_feeds 12 = .ok (.getfield 34, 3) := by decide +kernel
theorem dX10_feeds_15 : decode cX10_feeds 15 = .ok (.iload_n 1, 1) := by decide +kernel
theorem dX10_feeds_16 : decode cX10_feeds 16 = .ok (.iaload, 1) := by decide +kernel
theorem dX10_feeds_17 : decode cX10_feeds 17 = .ok (.iconst (-1), 1) := by decide +kernel
theorem dX10_feeds_18 : decode cX10_feeds 18 = .ok (.if_icmp .ne 24, 3) := by decide +kernel
theorem dX10_feeds_21 : decode cX10_feeds 21 = .ok (.aload_n 0, 1) := by decide +kernel
theorem dX10_feeds_22 : decode cX10_feeds 22 = .ok (.sipush 1000, 3) := by decide +kernel
theorem dX10_feeds_25 : decode cX10_feeds 25 = .ok (.iload_n 1, 1) := by decide +kernel
theorem dX10_feeds_26 : decode cX10_feeds 26 = .ok (.iadd, 1) := by decide +kernel
theorem dX10_feeds_27 : decode cX10_feeds 27 = .ok (.invokevirtual 443, 3) := by decide +kernel
theorem dX10_feeds_30 : decode cX10_feeds 30 = .ok (.ifCond .eq 12, 3) := by decide +kernel
theorem dX10_feeds_33 : decode cX10_feeds 33 = .ok (.aload_n 0, 1) := by decide +kernel
theorem dX10_feeds_34 : decode cX10_feeds 34 = .ok (.getfield 37, 3) := by decide +kernel
theorem dX10_feeds_37 : decode cX10_feeds 37 = .ok (.iload_n 1, 1) := by decide +kernel
theorem dX10_feeds_38 : decode cX10_feeds 38 = .ok (.iaload, 1) := by decide +kernel
theorem dX10_feeds_39 : decode cX10_feeds 39 = .ok (.goto 5, 3) := by decide +kernel
theorem dX10_feeds_42 : decode cX10_feeds 42 = .ok (.bipush (-5), 2) := by decide +kernel
theorem dX10_feeds_44 : decode cX10_feeds 44 = .ok (.ireturn, 1) := by decide +kernel
theorem dX10_undo_0 : decode cX10_undo 0 = .ok (.aload_n 0, 1) := by decide +kernel
theorem dX10_undo_1 : decode cX10_undo 1 = .ok (.invokevirtual 96, 3) := by decide +kernel
theorem dX10_undo_4 : decode cX10_undo 4 = .ok (.ifCond .ne 6, 3) := by decide +kernel
theorem dX10_undo_7 : decode cX10_undo 7 = .ok (.bipush (-2), 2) := by decide +kernel
theorem dX10_undo_9 : decode cX10_undo 9 = .ok (.ireturn, 1) := by decide +kernel
theorem dX10_undo_10 : decode cX10_undo 10 = .ok (.aload_n 0, 1) := by decide +kernel
theorem dX10_undo_11 : decode cX10_undo 11 = .ok (.getfield 9, 3) := by decide +kernel
theorem dX10_undo_14 : decode cX10_undo 14 = .ok (.bipush 6, 2) := by decide +kernel
theorem dX10_undo_16 : decode cX10_undo 16 = .ok (.iaload, 1) := by decide +kernel
theorem dX10_undo_17 : decode cX10_undo 17 = .ok (.ifCond .ne 6, 3) := by decide +kernel
theorem dX10_undo_20 : decode cX10_undo 20 = .ok (.bipush (-5), 2) := by decide +kernel
theorem dX10_undo_22 : decode cX10_undo 22 = .ok (.ireturn, 1) := by decide +kernel
theorem dX10_undo_23 : decode cX10_undo 23 = .ok (.aload_n 0, 1) := by decide +kernel
theorem dX10_undo_24 : decode cX10_undo 24 = .ok (.getfield 9, 3) := by decide +kernel
theorem dX10_undo_27 : decode cX10_undo 27 = .ok (.bipush 6, 2) := by decide +kernel
theorem dX10_undo_29 : decode cX10_undo 29 = .ok (.dup2, 1) := by decide +kernel
theorem dX10_undo_30 : decode cX10_undo 30 = .ok (.iaload, 1) := by decide +kernel
theorem dX10_undo_31 : decode cX10_undo 31 = .ok (.iconst 1, 1) := by decide +kernel
theorem dX10_undo_32 : decode cX10_undo 32 = .ok (.isub, 1) := by decide +kernel
theorem dX10_undo_33 : decode cX10_undo 33 = .ok (.iastore, 1) := by decide +kernel
theorem dX10_undo_34 : decode cX10_undo 34 = .ok (.aload_n 0, 1) := by decide +kernel
theorem dX10_undo_35 : decode cX10_undo 35 = .ok (.getfield 9, 3) := by decide +kernel
theorem dX10_undo_38 : decode cX10_undo 38 = .ok (.bipush 6, 2) := by decide +kernel
theorem dX10_undo_40 : decode cX10_undo 40 = .ok (.iaload, 1) := by decide +kernel
theorem dX10_undo_41 : decode cX10_undo 41 = .ok (.ireturn, 1) := by decide +kernel
theorem dX10_anew_0 : decode cX10_anew 0 = .ok (.aload_n 0, 1) := by decide +kernel
theorem dX10_anew_1 : decode cX10_anew 1 = .ok (.invokevirtual 96, 3) := by decide +kernel
theorem dX10_anew_4 : decode cX10_anew 4 = .ok (.ifCond .ne 6, 3) := by decide +kernel
theorem dX10_anew_7 : decode cX10_anew 7 = .ok (.bipush (-2), 2) := by decide +kernel
theorem dX10_anew_9 : decode cX10_anew 9 = .ok (.ireturn, 1) := by decide +kernel
theorem dX10_anew_10 : decode cX10_anew 10 = .ok (.aload_n 0, 1) := by decide +kernel
theorem dX10_anew_11 : decode cX10_anew 11 = .ok (.getfield 9, 3) := by decide +kernel
theorem dX10_anew_14 : decode cX10_anew 14 = .ok (.bipush 6, 2) := by decide +kernel
theorem dX10_anew_16 : decode cX10_anew 16 = .ok (.iaload, 1) := by decide +kernel
theorem dX10_anew_17 : decode cX10_anew 17 = .ok (.istore_n 1, 1) := by decide +kernel
theorem dX10_anew_18 : decode cX10_anew 18 = .ok (.aload_n 0, 1) := by decide +kernel
theorem dX10_anew_19 : decode cX10_anew 19 = .ok (.getfield 9, 3) := by decide +kernel
theorem dX10_anew_22 : decode cX10_anew 22 = .ok (.bipush 6, 2) := by decide +kernel
theorem dX10_anew_24 : decode cX10_anew 24 = .ok (.iconst 0, 1) := by decide +kernel
theorem dX10_anew_25 : decode cX10_anew 25 = .ok (.iastore, 1) := by decide +kernel
theorem dX10_anew_26 : decode cX10_anew 26 = .ok (.iload_n 1, 1) := by decide +kernel
theorem dX10_anew_27 : decode cX10_anew 27 = .ok (.ireturn, 1) := by decide +kernel
theorem dX10_goDrawn_0 : decode cX10_goDrawn 0 = .ok (.aload_n 0, 1) := by decide +kernel
theorem dX10_goDrawn_1 : decode cX10_goDrawn 1 = .ok (.invokevirtual 283, 3) := by decide +kernel
theorem dX10_goDrawn_4 : decode cX10_goDrawn 4 = .ok (.aload_n 0, 1) := by decide +kernel
theorem dX10_goDrawn_5 : decode cX10_goDrawn 5 = .ok (.lload_n 1, 1) := by decide +kernel
theorem dX10_goDrawn_6 : decode cX10_goDrawn 6 = .ok (.putfield 258, 3) := by decide +kernel
theorem dX10_goDrawn_9 : decode cX10_goDrawn 9 = .ok (.aload_n 0, 1) := by decide +kernel
theorem dX10_goDrawn_10 : decode cX10_goDrawn 10 = .ok (.iconst 0, 1) := by decide +kernel
theorem dX10_goDrawn_11 : decode cX10_goDrawn 11 = .ok (.putfield 266, 3) := by decide +kernel
theorem dX10_goDrawn_14 : decode cX10_goDrawn 14 = .ok (.aload_n 0, 1) := by decide +kernel
theorem dX10_goDrawn_15 : decode cX10_goDrawn 15 = .ok (.iconst 1, 1) := by decide +kernel
theorem dX10_goDrawn_16 : decode cX10_goDrawn 16 = .ok (.putfield 252, 3) := by decide +kernel
theorem dX10_goDrawn_19 : decode cX10_goDrawn 19 = .ok (.aload_n 0, 1) := by decide +kernel
theorem dX10_goDrawn_20 : decode cX10_goDrawn 20 = .ok (.invokevirtual 286, 3) := by decide +kernel
theorem dX10_goDrawn_23 : decode cX10_goDrawn 23 = .ok (.aload_n 0, 1) := by decide +kernel
theorem dX10_goDrawn_24 : decode cX10_goDrawn 24 = .ok (.iconst 0, 1) := by decide +kernel
theorem dX10_goDrawn_25 : decode cX10_goDrawn 25 = .ok (.putfield 252, 3) := by decide +kernel
theorem dX10_goDrawn_28 : decode cX10_goDrawn 28 = .ok (.iconst 0, 1) := by decide +kernel
theorem dX10_goDrawn_29 : decode cX10_goDrawn 29 = .ok (.istore_n 3, 1) := by decide +kernel
theorem dX10_goDrawn_30 : decode cX10_goDrawn 30 = .ok (.iconst 0, 1) := by decide +kernel
theorem dX10_goDrawn_31 : decode cX10_goDrawn 31 = .ok (.istore 4, 2) := by decide +kernel
theorem dX10_goDrawn_33 : decode cX10_goDrawn 33 = .ok (.iload 4, 2) := by decide +kernel
theorem dX10_goDrawn_35 : decode cX10_goDrawn 35 = .ok (.aload_n 0, 1) := by decide +kernel
theorem dX10_goDrawn_36 : decode cX10_goDrawn 36 = .ok (.getfield 9, 3) := by decide +kernel
theorem dX10_goDrawn_39 : decode cX10_goDrawn 39 = .ok (.iconst 5, 1) := by decide +kernel
theorem dX10_goDrawn_40 : decode cX10_goDrawn 40 = .ok (.iaload, 1) := by decide +kernel
theorem dX10_goDrawn_41 : decode cX10_goDrawn 41 = .ok (.if_icmp .ge 31, 3) := by decide +kernel
theorem dX10_goDrawn_44 : decode cX10_goDrawn 44 = .ok (.iload_n 3, 1) := by decide +kernel
theorem dX10_goDrawn_45 : decode cX10_goDrawn 45 = .ok (.aload_n 0, 1) := by decide +kernel
theorem dX10_goDrawn_46 : decode cX10_goDrawn 46 = .ok (.getfield 43, 3) := by decide +kernel
theorem dX10_goDrawn_49 : decode cX10_goDrawn 49 = .ok (.iload 4, 2) := by decide +kernel
theorem dX10_goDrawn_51 : decode cX10_goDrawn 51 = .ok (.iaload, 1) := by decide +kernel
theorem dX10_goDrawn_52 : decode cX10_goDrawn 52 = .ok (.iconst (-1), 1) := by decide +kernel
theorem dX10_goDrawn_53 : decode cX10_goDrawn 53 = .ok (.if_icmp .ne 7, 3) := by decide +kernel
theorem dX10_goDrawn_56 : decode cX10_goDrawn 56 = .ok (.iconst 0, 1) := by decide +kernel
theorem dX10_goDrawn_57 : decode cX10_goDrawn 57 = .ok (.goto 7, 3) := by decide +kernel
theorem dX10_goDrawn_60 : decode cX10_goDrawn 60 = .ok (.iconst 1, 1) := by decide +kernel
theorem dX10_goDrawn_61 : decode cX10_goDrawn 61 = .ok (.iload 4, 2) := by decide +kernel
theorem dX10_goDrawn_63 : decode cX10_goDrawn 63 = .ok (.ishl, 1) := by decide +kernel
theorem dX10_goDrawn_64 : decode cX10_goDrawn 64 = .ok (.ior, 1) := by decide +kernel
theorem dX10_goDrawn_65 : decode cX10_goDrawn 65 = .ok (.istore_n 3, 1) := by decide +kernel
theorem dX10_goDrawn_66 : decode cX10_goDrawn 66 = .ok (.iinc 4 1, 3) := by decide +kernel
theorem dX10_goDrawn_69 : decode cX10_goDrawn 69 = .ok (.goto (-36), 3) := by decide +kernel
theorem dX10_goDrawn_72 : decode cX10_goDrawn 72 = .ok (.iload_n 3, 1) := by decide +kernel
theorem dX10_goDrawn_73 : decode cX10_goDrawn 73 = .ok (.ireturn, 1) := by decide +kernel
theorem dX10_isSeed_0 : decode cX10_isSeed 0 = .ok (.iload_n 0, 1) := by decide +kernel
theorem dX10_isSeed_1 : decode cX10_isSeed 1 = .ok (.i2l, 1) := by decide +kernel
theorem dX10_isSeed_2 : decode cX10_isSeed 2 = .ok (.lconst 0, 1) := by decide +kernel
theorem dX10_isSeed_3 : decode cX10_isSeed 3 = .ok (.ldc2_w 446, 3) := by decide +kernel
theorem dX10_isSeed_6 : decode cX10_isSeed 6 = .ok (.invokestatic 92, 3) := by decide +kernel
theorem dX10_isSeed_9 : decode cX10_isSeed 9 = .ok (.ireturn, 1) := by decide +kernel
theorem dX10_drawn_0 : decode cX10_drawn 0 = .ok (.aload_n 0, 1) := by decide +kernel
theorem dX10_drawn_1 : decode cX10_drawn 1 = .ok (.invokevirtual 96, 3) := by decide +kernel
theorem dX10_drawn_4 : decode cX10_drawn 4 = .ok (.ifCond .eq 20, 3) := by decide +kernel
theorem dX10_drawn_7 : decode cX10_drawn 7 = .ok (.iload_n 1, 1) := by decide +kernel
theorem dX10_drawn_8 : decode cX10_drawn 8 = .ok (.invokestatic 448, 3) := by decide +kernel
theorem dX10_drawn_11 : decode cX10_drawn 11 = .ok (.ifCond .eq 13, 3) := by decide +kernel
theorem dX10_drawn_14 : decode cX10_drawn 14 = .ok (.iload_n 2, 1) := by decide +kernel
theorem dX10_drawn_15 : decode cX10_drawn 15 = .ok (.i2l, 1) := by decide +kernel
theorem dX10_drawn_16 : decode cX10_drawn 16 = .ok (.lconst 0, 1) := by decide +kernel
theorem dX10_drawn_17 : decode cX10_drawn 17 = .ok (.lconst 1, 1) := by decide +kernel
theorem dX10_drawn_18 : decode cX10_drawn 18 = .ok (.invokestatic 92, 3) := by decide +kernel
theorem dX10_drawn_21 : decode cX10_drawn 21 = .ok (.ifCond .ne 6, 3) := by decide +kernel
theorem dX10_drawn_24 : decode cX10_drawn 24 = .ok (.bipush (-2), 2) := by decide +kernel
theorem dX10_drawn_26 : decode cX10_drawn 26 = .ok (.ireturn, 1) := by decide +kernel
theorem dX10_drawn_27 : decode cX10_drawn 27 = .ok (.aload_n 0, 1) := by decide +kernel
theorem dX10_drawn_28 : decode cX10_drawn 28 = .ok (.iload_n 1, 1) := by decide +kernel
theorem dX10_drawn_29 : decode cX10_drawn 29 = .ok (.i2l, 1) := by decide +kernel
theorem dX10_drawn_30 : decode cX10_drawn 30 = .ok (.invokevirtual 451, 3) := by decide +kernel
theorem dX10_drawn_33 : decode cX10_drawn 33 = .ok (.istore_n 3, 1) := by decide +kernel
theorem dX10_drawn_34 : decode cX10_drawn 34 = .ok (.iload_n 2, 1) := by decide +kernel
theorem dX10_drawn_35 : decode cX10_drawn 35 = .ok (.ifCond .ne 7, 3) := by decide +kernel
theorem dX10_drawn_38 : decode cX10_drawn 38 = .ok (.iload_n 3, 1) := by decide +kernel
theorem dX10_drawn_39 : decode cX10_drawn 39 = .ok (.goto 7, 3) := by decide +kernel
theorem dX10_drawn_42 : decode cX10_drawn 42 = .ok (.aload_n 0, 1) := by decide +kernel
theorem dX10_drawn_43 : decode cX10_drawn 43 = .ok (.getfield 266, 3) := by decide +kernel
theorem dX10_drawn_46 : decode cX10_drawn 46 = .ok (.ireturn, 1) := by decide +kernel
theorem dX10_luck_0 : decode cX10_luck 0 = .ok (.iload_n 1, 1) := by decide +kernel
theorem dX10_luck_1 : decode cX10_luck 1 = .ok (.invokestatic 448, 3) := by decide +kernel
theorem dX10_luck_4 : decode cX10_luck 4 = .ok (.ifCond .eq 23, 3) := by decide +kernel
theorem dX10_luck_7 : decode cX10_luck 7 = .ok (.iload_n 2, 1) := by decide +kernel
theorem dX10_luck_8 : decode cX10_luck 8 = .ok (.i2l, 1) := by decide +kernel
theorem dX10_luck_9 : decode cX10_luck 9 = .ok (.lconst 1, 1) := by decide +kernel
theorem dX10_luck_10 : decode cX10_luck 10 = .ok (.ldc2_w 455, 3) := by decide +kernel
theorem dX10_luck_13 : decode cX10_luck 13 = .ok (.invokestatic 92, 3) := by decide +kernel
theorem dX10_luck_16 : decode cX10_luck 16 = .ok (.ifCond .eq 11, 3) := by decide +kernel
theorem dX10_luck_19 : decode cX10_luck 19 = .ok (.aload_n 0, 1) := by decide +kernel
theorem dX10_luck_20 : decode cX10_luck 20 = .ok (.iload_n 3, 1) := by decide +kernel
theorem dX10_luck_21 : decode cX10_luck 21 = .ok (.invokevirtual 225, 3) := by decide +kernel
theorem dX10_luck_24 : decode cX10_luck 24 = .ok (.ifCond .ne 6, 3) := by decide +kernel
theorem dX10_luck_27 : decode cX10_luck 27 = .ok (.bipush (-2), 2) := by decide +kernel
theorem dX10_luck_29 : decode cX10_luck 29 = .ok (.ireturn, 1) := by decide +kernel
theorem dX10_luck_30 : decode cX10_luck 30 = .ok (.iconst 0, 1) := by decide +kernel
theorem dX10_luck_31 : decode cX10_luck 31 = .ok (.istore 4, 2) := by decide +kernel
theorem dX10_luck_33 : decode cX10_luck 33 = .ok (.iconst 0, 1) := by decide +kernel
theorem dX10_luck_34 : decode cX10_luck 34 = .ok (.istore 5, 2) := by decide +kernel
theorem dX10_luck_36 : decode cX10_luck 36 = .ok (.iload 5, 2) := by decide +kernel
theorem dX10_luck_38 : decode cX10_luck 38 = .ok (.iload_n 2, 1) := by decide +kernel
theorem dX10_luck_39 : decode cX10_luck 39 = .ok (.if_icmp .ge 28, 3) := by decide +kernel
theorem dX10_luck_42 : decode cX10_luck 42 = .ok (.iload 4, 2) := by decide +kernel
theorem dX10_luck_44 : decode cX10_luck 44 = .ok (.aload_n 0, 1) := by decide +kernel
theorem dX10_luck_45 : decode cX10_luck 45 = .ok (.iload_n 1, 1) := by decide +kernel
theorem dX10_luck_46 : decode cX10_luck 46 = .ok (.i2l, 1) := by decide +kernel
theorem dX10_luck_47 : decode cX10_luck 47 = .ok (.iload 5, 2) := by decide +kernel
theorem dX10_luck_49 : decode cX10_luck 49 = .ok (.i2l, 1) := by decide +kernel
theorem dX10_luck_50 : decode cX10_luck 50 = .ok (.ladd, 1) := by decide +kernel
theorem dX10_luck_51 : decode cX10_luck 51 = .ok (.invokevirtual 451, 3) := by decide +kernel
theorem dX10_luck_54 : decode cX10_luck 54 = .ok (.iload_n 3, 1) := by decide +kernel
theorem dX10_luck_55 : decode cX10_luck 55 = .ok (.invokestatic 230, 3) := by decide +kernel
theorem dX10_luck_58 : decode cX10_luck 58 = .ok (.iadd, 1) := by decide +kernel
theorem dX10_luck_59 : decode cX10_luck 59 = .ok (.istore 4, 2) := by decide +kernel
theorem dX10_luck_61 : decode cX10_luck 61 = .ok (.iinc 5 1, 3) := by decide +kernel
theorem dX10_luck_64 : decode cX10_luck 64 = .ok (.goto (-28), 3) := by decide +kernel
theorem dX10_luck_67 : decode cX10_luck 67 = .ok (.iload 4, 2) := by decide +kernel
theorem dX10_luck_69 : decode cX10_luck 69 = .ok (.ireturn, 1) := by decide +kernel
theorem dX10_rate_0 : decode cX10_rate 0 = .ok (.aload_n 0, 1) := by decide +kernel
theorem dX10_rate_1 : decode cX10_rate 1 = .ok (.iload_n 1, 1) := by decide +kernel
theorem dX10_rate_2 : decode cX10_rate 2 = .ok (.invokevirtual 225, 3) := by decide +kernel
theorem dX10_rate_5 : decode cX10_rate 5 = .ok (.ifCond .eq 15, 3) := by decide +kernel
theorem dX10_rate_8 : decode cX10_rate 8 = .ok (.iload_n 2, 1) := by decide +kernel
theorem dX10_rate_9 : decode cX10_rate 9 = .ok (.i2l, 1) := by decide +kernel
theorem dX10_rate_10 : decode cX10_rate 10 = .ok (.lconst 0, 1) := by decide +kernel
theorem dX10_rate_11 : decode cX10_rate 11 = .ok (.ldc2_w 435, 3) := by decide +kernel
theorem dX10_rate_14 : decode cX10_rate 14 = .ok (.invokestatic 92, 3) := by decide +kernel
theorem dX10_rate_17 : decode cX10_rate 17 = .ok (.ifCond .ne 6, 3) := by decide +kernel
theorem dX10_rate_20 : decode cX10_rate 20 = .ok (.bipush (-2), 2) := by decide +kernel
theorem dX10_rate_22 : decode cX10_rate 22 = .ok (.ireturn, 1) := by decide +kernel
theorem dX10_rate_23 : decode cX10_rate 23 = .ok (.aload_n 0, 1) := by decide +kernel
theorem dX10_rate_24 : decode cX10_rate 24 = .ok (.getfield 9, 3) := by decide +kernel
theorem dX10_rate_27 : decode cX10_rate 27 = .ok (.bipush 6, 2) := by decide +kernel
theorem dX10_rate_29 : decode cX10_rate 29 = .ok (.iaload, 1) := by decide +kernel
theorem dX10_rate_30 : decode cX10_rate 30 = .ok (.ifCond .le 6, 3) := by decide +kernel
theorem dX10_rate_33 : decode cX10_rate 33 = .ok (.bipush (-5), 2) := by decide +kernel
theorem dX10_rate_35 : decode cX10_rate 35 = .ok (.ireturn, 1) := by decide +kernel
theorem dX10_rate_36 : decode cX10_rate 36 = .ok (.aload_n 0, 1) := by decide +kernel
theorem dX10_rate_37 : decode cX10_rate 37 = .ok (.iload_n 1, 1) := by decide +kernel
theorem dX10_rate_38 : decode cX10_rate 38 = .ok (.iconst 1, 1) := by decide +kernel
theorem dX10_rate_39 : decode cX10_rate 39 = .ok (.invokevirtual 228, 3) := by decide +kernel
theorem dX10_rate_42 : decode cX10_rate 42 = .ok (.istore_n 3, 1) := by decide +kernel
theorem dX10_rate_43 : decode cX10_rate 43 = .ok (.aload_n 0, 1) := by decide +kernel
theorem dX10_rate_44 : decode cX10_rate 44 = .ok (.getfield 9, 3) := by decide +kernel
theorem dX10_rate_47 : decode cX10_rate 47 = .ok (.bipush 33, 2) := by decide +kernel
theorem dX10_rate_49 : decode cX10_rate 49 = .ok (.iconst 3, 1) := by decide +kernel
theorem dX10_rate_50 : decode cX10_rate 50 = .ok (.iload_n 1, 1) := by decide +kernel
theorem dX10_rate_51 : decode cX10_rate 51 = .ok (.imul, 1) := by decide +kernel
theorem dX10_rate_52 : decode cX10_rate 52 = .ok (.iadd, 1) := by decide +kernel
theorem dX10_rate_53 : decode cX10_rate 53 = .ok (.iconst 1, 1) := by decide +kernel
theorem dX10_rate_54 : decode cX10_rate 54 = .ok (.iadd, 1) := by decide +kernel
theorem dX10_rate_55 : decode cX10_rate 55 = .ok (.iload_n 2, 1) := by decide +kernel
theorem dX10_rate_56 : decode cX10_rate 56 = .ok (.iastore, 1) := by decide +kernel
theorem dX10_rate_57 : decode cX10_rate 57 = .ok (.iload_n 3, 1) := by decide +kernel
theorem dX10_rate_58 : decode cX10_rate 58 = .ok (.ireturn, 1) := by decide +kernel
theorem dX10_count_0 : decode cX10_count 0 = .ok (.iload_n 1, 1) := by decide +kernel
theorem dX10_count_1 : decode cX10_count 1 = .ok (.i2l, 1) := by decide +kernel
theorem dX10_count_2 : decode cX10_count 2 = .ok (.lconst 0, 1) := by decide +kernel
theorem dX10_count_3 : decode cX10_count 3 = .ok (.ldc2_w 457, 3) := by decide +kernel
theorem dX10_count_6 : decode cX10_count 6 = .ok (.invokestatic 92, 3) := by decide +kernel
theorem dX10_count_9 : decode cX10_count 9 = .ok (.ifCond .eq 10, 3) := by decide +kernel
theorem dX10_count_12 : decode cX10_count 12 = .ok (.aload_n 0, 1) := by decide +kernel
theorem dX10_count_13 : decode cX10_count 13 = .ok (.getfield 9, 3) := by decide +kernel
theorem dX10_count_16 : decode cX10_count 16 = .ok (.iload_n 1, 1) := by decide +kernel
theorem dX10_count_17 : decode cX10_count 17 = .ok (.iaload, 1) := by decide +kernel
theorem dX10_count_18 : decode cX10_count 18 = .ok (.ireturn, 1) := by decide +kernel
theorem dX10_count_19 : decode cX10_count 19 = .ok (.iload_n 1, 1) := by decide +kernel
theorem dX10_count_20 : decode cX10_count 20 = .ok (.bipush 8, 2) := by decide +kernel
theorem dX10_count_22 : decode cX10_count 22 = .ok (.if_icmp .ne 8, 3) := by decide +kernel
theorem dX10_count_25 : decode cX10_count 25 = .ok (.aload_n 0, 1) := by decide +kernel
theorem dX10_count_26 : decode cX10_count 26 = .ok (.getfield 100, 3) := by decide +kernel
theorem dX10_count_29 : decode cX10_count 29 = .ok (.ireturn, 1) := by decide +kernel
theorem dX10_count_30 : decode cX10_count 30 = .ok (.iload_n 1, 1) := by decide +kernel
theorem dX10_count_31 : decode cX10_count 31 = .ok (.bipush 9, 2) := by decide +kernel
theorem dX10_count_33 : decode cX10_count 33 = .ok (.if_icmp .eq 5, 3) := by decide +kernel
theorem dX10_count_36 : decode cX10_count 36 = .ok (.iconst (-1), 1) := by decide +kernel
theorem dX10_count_37 : decode cX10_count 37 = .ok (.ireturn, 1) := by decide +kernel
theorem dX10_count_38 : decode cX10_count 38 = .ok (.iconst 0, 1) := by decide +kernel
theorem dX10_count_39 : decode cX10_count 39 = .ok (.istore_n 2, 1) := by decide +kernel
theorem dX10_count_40 : decode cX10_count 40 = .ok (.iconst 0, 1) := by decide +kernel
theorem dX10_count_41 : decode cX10_count 41 = .ok (.istore_n 3, 1) := by decide +kernel
theorem dX10_count_42 : decode cX10_count 42 = .ok (.iload_n 3, 1) := by decide +kernel
theorem dX10_count_43 : decode cX10_count 43 = .ok (.iconst 4, 1) := by decide +kernel
theorem dX10_count_44 : decode cX10_count 44 = .ok (.if_icmp .ge 27, 3) := by decide +kernel
theorem dX10_count_47 : decode cX10_count 47 = .ok (.iload_n 2, 1) := by decide +kernel
theorem dX10_count_48 : decode cX10_count 48 = .ok (.aload_n 0, 1) := by decide +kernel
theorem dX10_count_49 : decode cX10_count 49 = .ok (.getfield 74, 3) := by decide +kernel
theorem dX10_count_52 : decode cX10_count 52 = .ok (.iload_n 3, 1) := by decide +kernel
theorem dX10_count_53 : decode cX10_count 53 = .ok (.iaload, 1) := by decide +kernel
theorem dX10_count_54 : decode cX10_count 54 = .ok (.iconst (-1), 1) := by decide +kernel
theorem dX10_count_55 : decode cX10_count 55 = .ok (.if_icmp .ne 7, 3) := by decide +kernel
theorem dX10_count_58 : decode cX10_count 58 = .ok (.iconst 0, 1) := by decide +kernel
theorem dX10_count_59 : decode cX10_count 59 = .ok (.goto 4, 3) := by decide +kernel
theorem dX10_count_62 : decode cX10_count 62 = .ok (.iconst 1, 1) := by decide +kernel
theorem dX10_count_63 : decode cX10_count 63 = .ok (.iadd, 1) := by decide +kernel
theorem dX10_count_64 : decode cX10_count 64 = .ok (.istore_n 2, 1) := by decide +kernel
theorem dX10_count_65 : decode cX10_count 65 = .ok (.iinc 3 1, 3) := by decide +kernel
theorem dX10_count_68 : decode cX10_count 68 = .ok (.goto (-26), 3) := by decide +kernel
theorem dX10_count_71 : decode cX10_count 71 = .ok (.iload_n 2, 1) := by decide +kernel
theorem dX10_count_72 : decode cX10_count 72 = .ok (.ireturn, 1) := by decide +kernel
theorem dX10_isSlot_0 : decode cX10_isSlot 0 = .ok (.iload_n 0, 1) := by decide +kernel
theorem dX10_isSlot_1 : decode cX10_isSlot 1 = .ok (.i2l, 1) := by decide +kernel
theorem dX10_isSlot_2 : decode cX10_isSlot 2 = .ok (.lconst 0, 1) := by decide +kernel
theorem dX10_isSlot_3 : decode cX10_isSlot 3 = .ok (.ldc2_w 459, 3) := by decide +kernel
theorem dX10_isSlot_6 : decode cX10_isSlot 6 = .ok (.invokestatic 92, 3) := by decide +kernel
theorem dX10_isSlot_9 : decode cX10_isSlot 9 = .ok (.ireturn, 1) := by decide +kernel
theorem dX10_cut_0 : decode cX10_cut 0 = .ok (.bipush 64, 2) := by decide +kernel
theorem dX10_cut_2 : decode cX10_cut 2 = .ok (.bipush 8, 2) := by decide +kernel
theorem dX10_cut_4 : decode cX10_cut 4 = .ok (.iload_n 2, 1) := by decide +kernel
theorem dX10_cut_5 : decode cX10_cut 5 = .ok (.ishl, 1) := by decide +kernel
theorem dX10_cut_6 : decode cX10_cut 6 = .ok (.isub, 1) := by decide +kernel
theorem dX10_cut_7 : decode cX10_cut 7 = .ok (.istore_n 3, 1) := by decide +kernel
theorem dX10_cut_8 : decode cX10_cut 8 = .ok (.lload_n 0, 1) := by decide +kernel
theorem dX10_cut_9 : decode cX10_cut 9 = .ok (.iload_n 3, 1) := by decide +kernel
theorem dX10_cut_10 : decode cX10_cut 10 = .ok (.lshl, 1) := by decide +kernel
theorem dX10_cut_11 : decode cX10_cut 11 = .ok (.iload_n 3, 1) := by decide +kernel
theorem dX10_cut_12 : decode cX10_cut 12 = .ok (.lshr, 1) := by decide +kernel
theorem dX10_cut_13 : decode cX10_cut 13 = .ok (.lreturn, 1) := by decide +kernel
theorem dX10_row_0 : decode cX10_row 0 = .ok (.iload_n 1, 1) := by decide +kernel
theorem dX10_row_1 : decode cX10_row 1 = .ok (.invokestatic 384, 3) := by decide +kernel
theorem dX10_row_4 : decode cX10_row 4 = .ok (.ifCond .eq 21, 3) := by decide +kernel
theorem dX10_row_7 : decode cX10_row 7 = .ok (.iload_n 2, 1) := by decide +kernel
theorem dX10_row_8 : decode cX10_row 8 = .ok (.i2l, 1) := by decide +kernel
theorem dX10_row_9 : decode cX10_row 9 = .ok (.lconst 0, 1) := by decide +kernel
theorem dX10_row_10 : decode cX10_row 10 = .ok (.ldc2_w 459, 3) := by decide +kernel
theorem dX10_row_13 : decode cX10_row 13 = .ok (.invokestatic 92, 3) := by decide +kernel
theorem dX10_row_16 : decode cX10_row 16 = .ok (.ifCond .eq 9, 3) := by decide +kernel
theorem dX10_row_19 : decode cX10_row 19 = .ok (.iload_n 3, 1) := by decide +kernel
theorem dX10_row_20 : decode cX10_row 20 = .ok (.bipush 60, 2) := by decide +kernel
theorem dX10_row_22 : decode cX10_row 22 = .ok (.if_icmp .le 6, 3) := by decide +kernel
theorem dX10_row_25 : decode cX10_row 25 = .ok (.bipush (-2), 2) := by decide +kernel
theorem dX10_row_27 : decode cX10_row 27 = .ok (.ireturn, 1) := by decide +kernel
theorem dX10_row_28 : decode cX10_row 28 = .ok (.iload_n 3, 1) := by decide +kernel
theorem dX10_row_29 : decode cX10_row 29 = .ok (.ifCond .ge 6, 3) := by decide +kernel
theorem dX10_row_32 : decode cX10_row 32 = .ok (.bipush (-3), 2) := by decide +kernel
theorem dX10_row_34 : decode cX10_row 34 = .ok (.ireturn, 1) := by decide +kernel
theorem dX10_row_35 : decode cX10_row 35 = .ok (.aload_n 0, 1) := by decide +kernel
theorem dX10_row_36 : decode cX10_row 36 = .ok (.getfield 74, 3) := by decide +kernel
theorem dX10_row_39 : decode cX10_row 39 = .ok (.iload_n 1, 1) := by decide +kernel
theorem dX10_row_40 : decode cX10_row 40 = .ok (.iload_n 3, 1) := by decide +kernel
theorem dX10_row_41 : decode cX10_row 41 = .ok (.iastore, 1) := by decide +kernel
theorem dX10_row_42 : decode cX10_row 42 = .ok (.aload_n 0, 1) := by decide +kernel
theorem dX10_row_43 : decode cX10_row 43 = .ok (.getfield 77, 3) := by decide +kernel
theorem dX10_row_46 : decode cX10_row 46 = .ok (.iload_n 1, 1) := by decide +kernel
theorem dX10_row_47 : decode cX10_row 47 = .ok (.iload_n 2, 1) := by decide +kernel
theorem dX10_row_48 : decode cX10_row 48 = .ok (.iastore, 1) := by decide +kernel
theorem dX10_row_49 : decode cX10_row 49 = .ok (.iconst 0, 1) := by decide +kernel
theorem dX10_row_50 : decode cX10_row 50 = .ok (.istore 4, 2) := by decide +kernel
theorem dX10_row_52 : decode cX10_row 52 = .ok (.iload 4, 2) := by decide +kernel
theorem dX10_row_54 : decode cX10_row 54 = .ok (.bipush 60, 2) := by decide +kernel
theorem dX10_row_56 : decode cX10_row 56 = .ok (.if_icmp .ge 22, 3) := by decide +kernel
theorem dX10_row_59 : decode cX10_row 59 = .ok (.aload_n 0, 1) := by decide +kernel
theorem dX10_row_60 : decode cX10_row 60 = .ok (.getfield 80, 3) := by decide +kernel
theorem dX10_row_63 : decode cX10_row 63 = .ok (.bipush 60, 2) := by decide +kernel
theorem dX10_row_65 : decode cX10_row 65 = .ok (.iload_n 1, 1) := by decide +kernel
theorem dX10_row_66 : decode cX10_row 66 = .ok (.imul, 1) := by decide +kernel
theorem dX10_row_67 : decode cX10_row 67 = .ok (.iload 4, 2) := by decide +kernel
theorem dX10_row_69 : decode cX10_row 69 = .ok (.iadd, 1) := by decide +kernel
theorem dX10_row_70 : decode cX10_row 70 = .ok (.lconst 0, 1) := by decide +kernel
theorem dX10_row_71 : decode cX10_row 71 = .ok (.lastore, 1) := by decide +kernel
theorem dX10_row_72 : decode cX10_row 72 = .ok (.iinc 4 1, 3) := by decide +kernel
theorem dX10_row_75 : decode cX10_row 75 = .ok (.goto (-23), 3) := by decide +kernel
theorem dX10_row_78 : decode cX10_row 78 = .ok (.iconst 0, 1) := by decide +kernel
theorem dX10_row_79 : decode cX10_row 79 = .ok (.ireturn, 1) := by decide +kernel
theorem dX10_write_0 : decode cX10_write 0 = .ok (.iload_n 1, 1) := by decide +kernel
theorem dX10_write_1 : decode cX10_write 1 = .ok (.invokestatic 384, 3) := by decide +kernel
theorem dX10_write_4 : decode cX10_write 4 = .ok (.ifCond .ne 6, 3) := by decide +kernel
theorem dX10_write_7 : decode cX10_write 7 = .ok (.bipush (-2), 2) := by decide +kernel
theorem dX10_write_9 : decode cX10_write 9 = .ok (.ireturn, 1) := by decide +kernel
theorem dX10_write_10 : decode cX10_write 10 = .ok (.aload_n 0, 1) := by decide +kernel
theorem dX10_write_11 : decode cX10_write 11 = .ok (.getfield 74, 3) := by decide +kernel
theorem dX10_write_14 : decode cX10_write 14 = .ok (.iload_n 1, 1) := by decide +kernel
theorem dX10_write_15 : decode cX10_write 15 = .ok (.iaload, 1) := by decide +kernel
theorem dX10_write_16 : decode cX10_write 16 = .ok (.iconst (-1), 1) := by decide +kernel
theorem dX10_write_17 : decode cX10_write 17 = .ok (.if_icmp .ne 6, 3) := by decide +kernel
theorem dX10_write_20 : decode cX10_write 20 = .ok (.bipush (-6), 2) := by decide +kernel
theorem dX10_write_22 : decode cX10_write 22 = .ok (.ireturn, 1) := by decide +kernel
theorem dX10_write_23 : decode cX10_write 23 = .ok (.iload_n 2, 1) := by decide +kernel
theorem dX10_write_24 : decode cX10_write 24 = .ok (.i2l, 1) := by decide +kernel
theorem dX10_write_25 : decode cX10_write 25 = .ok (.lconst 0, 1) := by decide +kernel
theorem dX10_write_26 : decode cX10_write 26 = .ok (.aload_n 0, 1) := by decide +kernel
theorem dX10_write_27 : decode cX10_write 27 = .ok (.getfield 74, 3) := by decide +kernel
theorem dX10_write_30 : decode cX10_write 30 = .ok (.iload_n 1, 1) := by decide +kernel
theorem dX10_write_31 : decode cX10_write 31 = .ok (.iaload, 1) := by decide +kernel
theorem dX10_write_32 : decode cX10_write 32 = .ok (.iconst 1, 1) := by decide +kernel
theorem dX10_write_33 : decode cX10_write 33 = .ok (.isub, 1) := by decide +kernel
theorem dX10_write_34 : decode cX10_write 34 = .ok (.i2l, 1) := by decide +kernel
theorem dX10_write_35 : decode cX10_write 35 = .ok (.invokestatic 92, 3) := by decide +kernel
theorem dX10_write_38 : decode cX10_write 38 = .ok (.ifCond .ne 6, 3) := by decide +kernel
theorem dX10_write_41 : decode cX10_write 41 = .ok (.bipush (-7), 2) := by decide +kernel
theorem dX10_write_43 : decode cX10_write 43 = .ok (.ireturn, 1) := by decide +kernel
theorem dX10_write_44 : decode cX10_write 44 = .ok (.aload_n 0, 1) := by decide +kernel
theorem dX10_write_45 : decode cX10_write 45 = .ok (.getfield 80, 3) := by decide +kernel
theorem dX10_write_48 : decode cX10_write 48 = .ok (.bipush 60, 2) := by decide +kernel
theorem dX10_write_50 : decode cX10_write 50 = .ok (.iload_n 1, 1) := by decide +kernel
theorem dX10_write_51 : decode cX10_write 51 = .ok (.imul, 1) := by decide +kernel
theorem dX10_write_52 : decode cX10_write 52 = .ok (.iload_n 2, 1) := by decide +kernel
theorem dX10_write_53 : decode cX10_write 53 = .ok (.iadd, 1) := by decide +kernel
theorem dX10_write_54 : decode cX10_write 54 = .ok (.lload_n 3, 1) := by decide +kernel
theorem dX10_write_55 : decode cX10_write 55 = .ok (.aload_n 0, 1) := by decide +kernel
theorem dX10_write_56 : decode cX10_write 56 = .ok (.getfield 77, 3) := by decide +kernel
theorem dX10_write_59 : decode cX10_write 59 = .ok (.iload_n 1, 1) := by decide +kernel
theorem dX10_write_60 : decode cX10_write 60 = .ok (.iaload, 1) := by decide +kernel
theorem dX10_write_61 : decode cX10_write 61 = .ok (.invokestatic 461, 3) := by decide +kernel
theorem dX10_write_64 : decode cX10_write 64 = .ok (.lastore, 1) := by decide +kernel
theorem dX10_write_65 : decode cX10_write 65 = .ok (.iconst 0, 1) := by decide +kernel
theorem dX10_write_66 : decode cX10_write 66 = .ok (.ireturn, 1) := by decide +kernel
theorem dX10_paste_0 : decode cX10_paste 0 = .ok (.iload_n 1, 1) := by decide +kernel
theorem dX10_paste_1 : decode cX10_paste 1 = .ok (.invokestatic 384, 3) := by decide +kernel
theorem dX10_paste_4 : decode cX10_paste 4 = .ok (.ifCond .eq 10, 3) := by decide +kernel
theorem dX10_paste_7 : decode cX10_paste 7 = .ok (.iload_n 3, 1) := by decide +kernel
theorem dX10_paste_8 : decode cX10_paste 8 = .ok (.invokestatic 384, 3) := by decide +kernel
theorem dX10_paste_11 : decode cX10_paste 11 = .ok (.ifCond .ne 6, 3) := by decide +kernel
theorem dX10_paste_14 : decode cX10_paste 14 = .ok (.bipush (-2), 2) := by decide +kernel
theorem dX10_paste_16 : decode cX10_paste 16 = .ok (.ireturn, 1) := by decide +kernel
theorem dX10_paste_17 : decode cX10_paste 17 = .ok (.aload_n 0, 1) := by decide +kernel
theorem dX10_paste_18 : decode cX10_paste 18 = .ok (.getfield 74, 3) := by decide +kernel
theorem dX10_paste_21 : decode cX10_paste 21 = .ok (.iload_n 1, 1) := by decide +kernel
theorem dX10_paste_22 : decode cX10_paste 22 = .ok (.iaload, 1) := by decide +kernel
theorem dX10_paste_23 : decode cX10_paste 23 = .ok (.iconst (-1), 1) := by decide +kernel
theorem dX10_paste_24 : decode cX10_paste 24 = .ok (.if_icmp .eq 13, 3) := by decide +kernel
theorem dX10_paste_27 : decode cX10_paste 27 = .ok (.aload_n 0, 1) := by decide +kernel
theorem dX10_paste_28 : decode cX10_paste 28 = .ok (.getfield 74, 3) := by decide +kernel
theorem dX10_paste_31 : decode cX10_paste 31 = .ok (.iload_n 3, 1) := by decide +kernel
theorem dX10_paste_32 : decode cX10_paste 32 = .ok (.iaload, 1) := by decide +kernel
theorem dX10_paste_33 : decode cX10_paste 33 = .ok (.iconst (-1), 1) := by decide +kernel
theorem dX10_paste_34 : decode cX10_paste 34 = .ok (.if_icmp .ne 6, 3) := by decide +kernel
theorem dX10_paste_37 : decode cX10_paste 37 = .ok (.bipush (-6), 2) := by decide +kernel
theorem dX10_paste_39 : decode cX10_paste 39 = .ok (.ireturn, 1) := by decide +kernel
theorem dX10_paste_40 : decode cX10_paste 40 = .ok (.aload_n 0, 1) := by decide +kernel
theorem dX10_paste_41 : decode cX10_paste 41 = .ok (.getfield 77, 3) := by decide +kernel
theorem dX10_paste_44 : decode cX10_paste 44 = .ok (.iload_n 1, 1) := by decide +kernel
theorem dX10_paste_45 : decode cX10_paste 45 = .ok (.iaload, 1) := by decide +kernel
theorem dX10_paste_46 : decode cX10_paste 46 = .ok (.aload_n 0, 1) := by decide +kernel
theorem dX10_paste_47 : decode cX10_paste 47 = .ok (.getfield 77, 3) := by decide +kernel
theorem dX10_paste_50 : decode cX10_paste 50 = .ok (.iload_n 3, 1) := by decide +kernel
theorem dX10_paste_51 : decode cX10_paste 51 = .ok (.iaload, 1) := by decide +kernel
theorem dX10_paste_52 : decode cX10_paste 52 = .ok (.if_icmp .eq 6, 3) := by decide +kernel
theorem dX10_paste_55 : decode cX10_paste 55 = .ok (.bipush (-8), 2) := by decide +kernel
theorem dX10_paste_57 : decode cX10_paste 57 = .ok (.ireturn, 1) := by decide +kernel
theorem dX10_paste_58 : decode cX10_paste 58 = .ok (.iload_n 2, 1) := by decide +kernel
theorem dX10_paste_59 : decode cX10_paste 59 = .ok (.ifCond .lt 48, 3) := by decide +kernel
theorem dX10_paste_62 : decode cX10_paste 62 = .ok (.iload 4, 2) := by decide +kernel
theorem dX10_paste_64 : decode cX10_paste 64 = .ok (.ifCond .lt 43, 3) := by decide +kernel
theorem dX10_paste_67 : decode cX10_paste 67 = .ok (.iload 5, 2) := by decide +kernel
theorem dX10_paste_69 : decode cX10_paste 69 = .ok (.ifCond .lt 38, 3) := by decide +kernel
theorem dX10_paste_72 : decode cX10_paste 72 = .ok (.iload_n 2, 1) := by decide +kernel
theorem dX10_paste_73 : decode cX10_paste 73 = .ok (.i2l, 1) := by decide +kernel
theorem dX10_paste_74 : decode cX10_paste 74 = .ok (.iload 5, 2) := by decide +kernel
theorem dX10_paste_76 : decode cX10_paste 76 = .ok (.i2l, 1) := by decide +kernel
theorem dX10_paste_77 : decode cX10_paste 77 = .ok (.ladd, 1) := by decide +kernel
theorem dX10_paste_78 : decode cX10_paste 78 = .ok (.aload_n 0, 1) := by decide +kernel
theorem dX10_paste_79 : decode cX10_paste 79 = .ok (.getfield 74, 3) := by decide +kernel
theorem dX10_paste_82 : decode cX10_paste 82 = .ok (.iload_n 1, 1) := by decide +kernel
theorem dX10_paste_83 : decode cX10_paste 83 = .ok (.iaload, 1) := by decide +kernel
theorem dX10_paste_84 : decode cX10_paste 84 = .ok (.i2l, 1) := by decide +kernel
theorem dX10_paste_85 : decode cX10_paste 85 = .ok (.lcmp, 1) := by decide +kernel
theorem dX10_paste_86 : decode cX10_paste 86 = .ok (.ifCond .gt 21, 3) := by decide +kernel
theorem dX10_paste_89 : decode cX10_paste 89 = .ok (.iload 4, 2) := by decide +kernel
theorem dX10_paste_91 : decode cX10_paste 91 = .ok (.i2l, 1) := by decide +kernel
theorem dX10_paste_92 : decode cX10_paste 92 = .ok (.iload 5, 2) := by decide +kernel
theorem dX10_paste_94 : decode cX10_paste 94 = .ok (.i2l, 1) := by decide +kernel
theorem dX10_paste_95 : decode cX10_paste 95 = .ok (.ladd, 1) := by decide +kernel
theorem dX10_paste_96 : decode cX10_paste 96 = .ok (.aload_n 0, 1) := by decide +kernel
theorem dX10_paste_97 : decode cX10_paste 97 = .ok (.getfield 74, 3) := by decide +kernel
theorem dX10_paste_100 : decode cX10_paste 100 = .ok (.iload_n 3, 1) := by decide +kernel
theorem dX10_paste_101 : decode cX10_paste 101 = .ok (.iaload, 1) := by decide +kernel
theorem dX10_paste_102 : decode cX10_paste 102 = .ok (.i2l, 1) := by decide +kernel
theorem dX10_paste_103 : decode cX10_paste 103 = .ok (.lcmp, 1) := by decide +kernel
theorem dX10_paste_104 : decode cX10_paste 104 = .ok (.ifCond .le 6, 3) := by decide +kernel
theorem dX10_paste_107 : decode cX10_paste 107 = .ok (.bipush (-7), 2) := by decide +kernel
theorem dX10_paste_109 : decode cX10_paste 109 = .ok (.ireturn, 1) := by decide +kernel
theorem dX10_paste_110 : decode cX10_paste 110 = .ok (.iconst 0, 1) := by decide +kernel
theorem dX10_paste_111 : decode cX10_paste 111 = .ok (.istore 6, 2) := by decide +kernel
theorem dX10_paste_113 : decode cX10_paste 113 = .ok (.iload 6, 2) := by decide +kernel
theorem dX10_paste_115 : decode cX10_paste 115 = .ok (.iload 5, 2) := by decide +kernel
theorem dX10_paste_117 : decode cX10_paste 117 = .ok (.if_icmp .ge 30, 3) := by decide +kernel
theorem dX10_paste_120 : decode cX10_paste 120 = .ok (.aload_n 0, 1) := by decide +kernel
theorem dX10_paste_121 : decode cX10_paste 121 = .ok (.getfield 84, 3) := by decide +kernel
theorem dX10_paste_124 : decode cX10_paste 124 = .ok (.iload 6, 2) := by decide +kernel
theorem dX10_paste_126 : decode cX10_paste 126 = .ok (.aload_n 0, 1) := by decide +kernel
theorem dX10_paste_127 : decode cX10_paste 127 = .ok (.getfield 80, 3) := by decide +kernel
theorem dX10_paste_130 : decode cX10_paste 130 = .ok (.bipush 60, 2) := by decide +kernel
theorem dX10_paste_132 : decode cX10_paste 132 = .ok (.iload_n 1, 1) := by decide +kernel
theorem dX10_paste_133 : decode cX10_paste 133 = .ok (.imul, 1) := by decide +kernel
theorem dX10_paste_134 : decode cX10_paste 134 = .ok (.iload_n 2, 1) := by decide +kernel
theorem dX10_paste_135 : decode cX10_paste 135 = .ok (.iadd, 1) := by decide +kernel
theorem dX10_paste_136 : decode cX10_paste 136 = .ok (.iload 6, 2) := by decide +kernel
theorem dX10_paste_138 : decode cX10_paste 138 = .ok (.iadd, 1) := by decide +kernel
theorem dX10_paste_139 : decode cX10_paste 139 = .ok (.laload, 1) := by decide +kernel
theorem dX10_paste_140 : decode cX10_paste 140 = .ok (.lastore, 1) := by decide +kernel
theorem dX10_paste_141 : decode cX10_paste 141 = .ok (.iinc 6 1, 3) := by decide +kernel
theorem dX10_paste_144 : decode cX10_paste 144 = .ok (.goto (-31), 3) := by decide +kernel
theorem dX10_paste_147 : decode cX10_paste 147 = .ok (.iconst 0, 1) := by decide +kernel
theorem dX10_paste_148 : decode cX10_paste 148 = .ok (.istore 6, 2) := by decide +kernel
theorem dX10_paste_150 : decode cX10_paste 150 = .ok (.iload 6, 2) := by decide +kernel
theorem dX10_paste_152 : decode cX10_paste 152 = .ok (.iload 5, 2) := by decide +kernel
theorem dX10_paste_154 : decode cX10_paste 154 = .ok (.if_icmp .ge 31, 3) := by decide +kernel
theorem dX10_paste_157 : decode cX10_paste 157 = .ok (.aload_n 0, 1) := by decide +kernel
theorem dX10_paste_158 : decode cX10_paste 158 = .ok (.getfield 80, 3) := by decide +kernel
theorem dX10_paste_161 : decode cX10_paste 161 = .ok (.bipush 60, 2) := by decide +kernel
theorem dX10_paste_163 : decode cX10_paste 163 = .ok (.iload_n 3, 1) := by decide +kernel
theorem dX10_paste_164 : decode cX10_paste 164 = .ok (.imul, 1) := by decide +kernel
theorem dX10_paste_165 : decode cX10_paste 165 = .ok (.iload 4, 2) := by decide +kernel
theorem dX10_paste_167 : decode cX10_paste 167 = .ok (.iadd, 1) := by decide +kernel
theorem dX10_paste_168 : decode cX10_paste 168 = .ok (.iload 6, 2) := by decide +kernel
theorem dX10_paste_170 : decode cX10_paste 170 = .ok (.iadd, 1) := by decide +kernel
theorem dX10_paste_171 : decode cX10_paste 171 = .ok (.aload_n 0, 1) := by decide +kernel
theorem dX10_paste_172 : decode cX10_paste 172 = .ok (.getfield 84, 3) := by decide +kernel
theorem dX10_paste_175 : decode cX10_paste 175 = .ok (.iload 6, 2) := by decide +kernel
theorem dX10_paste_177 : decode cX10_paste 177 = .ok (.laload, 1) := by decide +kernel
theorem dX10_paste_178 : decode cX10_paste 178 = .ok (.lastore, 1) := by decide +kernel
theorem dX10_paste_179 : decode cX10_paste 179 = .ok (.iinc 6 1, 3) := by decide +kernel
theorem dX10_paste_182 : decode cX10_paste 182 = .ok (.goto (-32), 3) := by decide +kernel
theorem dX10_paste_185 : decode cX10_paste 185 = .ok (.iconst 0, 1) := by decide +kernel
theorem dX10_paste_186 : decode cX10_paste 186 = .ok (.ireturn, 1) := by decide +kernel
theorem dJ6_compare_7cf53_0 : decode cJ6_compare_7cf53 0 = .ok (.iload_n 0, 1) := by decide +kernel
theorem dJ6_compare_7cf53_1 : decode cJ6_compare_7cf53 1 = .ok (.iload_n 1, 1) := by decide +kernel
theorem dJ6_compare_7cf53_2 : decode cJ6_compare_7cf53 2 = .ok (.if_icmp .ge 7, 3) := by decide +kernel
theorem dJ6_compare_7cf53_5 : decode cJ6_compare_7cf53 5 = .ok (.iconst (-1), 1) := by decide +kernel
theorem dJ6_compare_7cf53_6 : decode cJ6_compare_7cf53 6 = .ok (.goto 13, 3) := by decide +kernel
theorem dJ6_compare_7cf53_9 : decode cJ6_compare_7cf53 9 = .ok (.iload_n 0, 1) := by decide +kernel
theorem dJ6_compare_7cf53_10 : decode cJ6_compare_7cf53 10 = .ok (.iload_n 1, 1) := by decide +kernel
theorem dJ6_compare_7cf53_11 : decode cJ6_compare_7cf53 11 = .ok (.if_icmp .ne 7, 3) := by decide +kernel
theorem dJ6_compare_7cf53_14 : decode cJ6_compare_7cf53 14 = .ok (.iconst 0, 1) := by decide +kernel
theorem dJ6_compare_7cf53_15 : decode cJ6_compare_7cf53 15 = .ok (.goto 4, 3) := by decide +kernel
theorem dJ6_compare_7cf53_18 : decode cJ6_compare_7cf53 18 = .ok (.iconst 1, 1) := by decide +kernel
theorem dJ6_compare_7cf53_19 : decode cJ6_compare_7cf53 19 = .ok (.ireturn, 1) := by decide +kernel
theorem dJ6_bitCount_0f7a4_0 : decode cJ6_bitCount_0f7a4 0 = .ok (.iload_n 0, 1) := by decide +kernel
theorem dJ6_bitCount_0f7a4_1 : decode cJ6_bitCount_0f7a4 1 = .ok (.iload_n 0, 1) := by decide +kernel
theorem dJ6_bitCount_0f7a4_2 : decode cJ6_bitCount_0f7a4 2 = .ok (.iconst 1, 1) := by decide +kernel
theorem dJ6_bitCount_0f7a4_3 : decode cJ6_bitCount_0f7a4 3 = .ok (.iushr, 1) := by decide +kernel
theorem dJ6_bitCount_0f7a4_4 : decode cJ6_bitCount_0f7a4 4 = .ok (.ldc_w 265, 3) := by decide +kernel
theorem dJ6_bitCount_0f7a4_7 : decode cJ6_bitCount_0f7a4 7 = .ok (.iand, 1) := by decide +kernel
theorem dJ6_bitCount_0f7a4_8 : decode cJ6_bitCount_0f7a4 8 = .ok (.isub, 1) := by decide +kernel
theorem dJ6_bitCount_0f7a4_9 : decode cJ6_bitCount_0f7a4 9 = .ok (.istore_n 0, 1) := by decide +kernel
theorem dJ6_bitCount_0f7a4_10 : decode cJ6_bitCount_0f7a4 10 = .ok (.iload_n 0, 1) := by decide +kernel
theorem dJ6_bitCount_0f7a4_11 : decode cJ6_bitCount_0f7a4 11 = .ok (.ldc_w 266, 3) := by decide +kernel
theorem dJ6_bitCount_0f7a4_14 : decode cJ6_bitCount_0f7a4 14 = .ok (.iand, 1) := by decide +kernel
theorem dJ6_bitCount_0f7a4_15 : decode cJ6_bitCount_0f7a4 15 = .ok (.iload_n 0, 1) := by decide +kernel
theorem dJ6_bitCount_0f7a4_16 : decode cJ6_bitCount_0f7a4 16 = .ok (.iconst 2, 1) := by decide +kernel
theorem dJ6_bitCount_0f7a4_17 : decode cJ6_bitCount_0f7a4 17 = .ok (.iushr, 1) := by decide +kernel
theorem dJ6_bitCount_0f7a4_18 : decode cJ6_bitCount_0f7a4 18 = .ok (.ldc_w 266, 3) := by decide +kernel
theorem dJ6_bitCount_0f7a4_21 : decode cJ6_bitCount_0f7a4 21 = .ok (.iand, 1) := by decide +kernel
theorem dJ6_bitCount_0f7a4_22 : decode cJ6_bitCount_0f7a4 22 = .ok (.iadd, 1) := by decide +kernel
theorem dJ6_bitCount_0f7a4_23 : decode cJ6_bitCount_0f7a4 23 = .ok (.istore_n 0, 1) := by decide +kernel
theorem dJ6_bitCount_0f7a4_24 : decode cJ6_bitCount_0f7a4 24 = .ok (.iload_n 0, 1) := by decide +kernel
theorem dJ6_bitCount_0f7a4_25 : decode cJ6_bitCount_0f7a4 25 = .ok (.iload_n 0, 1) := by decide +kernel
theorem dJ6_bitCount_0f7a4_26 : decode cJ6_bitCount_0f7a4 26 = .ok (.iconst 4, 1) := by decide +kernel
theorem dJ6_bitCount_0f7a4_27 : decode cJ6_bitCount_0f7a4 27 = .ok (.iushr, 1) := by decide +kernel
theorem dJ6_bitCount_0f7a4_28 : decode cJ6_bitCount_0f7a4 28 = .ok (.iadd, 1) := by decide +kernel
theorem dJ6_bitCount_0f7a4_29 : decode cJ6_bitCount_0f7a4 29 = .ok (.ldc_w 267, 3) := by decide +kernel
theorem dJ6_bitCount_0f7a4_32 : decode cJ6_bitCount_0f7a4 32 = .ok (.iand, 1) := by decide +kernel
theorem dJ6_bitCount_0f7a4_33 : decode cJ6_bitCount_0f7a4 33 = .ok (.istore_n 0, 1) := by decide +kernel
theorem dJ6_bitCount_0f7a4_34 : decode cJ6_bitCount_0f7a4 34 = .ok (.iload_n 0, 1) := by decide +kernel
theorem dJ6_bitCount_0f7a4_35 : decode cJ6_bitCount_0f7a4 35 = .ok (.iload_n 0, 1) := by decide +kernel
theorem dJ6_bitCount_0f7a4_36 : decode cJ6_bitCount_0f7a4 36 = .ok (.bipush 8, 2) := by decide +kernel
theorem dJ6_bitCount_0f7a4_38 : decode cJ6_bitCount_0f7a4 38 = .ok (.iushr, 1) := by decide +kernel
theorem dJ6_bitCount_0f7a4_39 : decode cJ6_bitCount_0f7a4 39 = .ok (.iadd, 1) := by decide +kernel
theorem dJ6_bitCount_0f7a4_40 : decode cJ6_bitCount_0f7a4 40 = .ok (.istore_n 0, 1) := by decide +kernel
theorem dJ6_bitCount_0f7a4_41 : decode cJ6_bitCount_0f7a4 41 = .ok (.iload_n 0, 1) := by decide +kernel
theorem dJ6_bitCount_0f7a4_42 : decode cJ6_bitCount_0f7a4 42 = .ok (.iload_n 0, 1) := by decide +kernel
theorem dJ6_bitCount_0f7a4_43 : decode cJ6_bitCount_0f7a4 43 = .ok (.bipush 16, 2) := by decide +kernel
theorem dJ6_bitCount_0f7a4_45 : decode cJ6_bitCount_0f7a4 45 = .ok (.iushr, 1) := by decide +kernel
theorem dJ6_bitCount_0f7a4_46 : decode cJ6_bitCount_0f7a4 46 = .ok (.iadd, 1) := by decide +kernel
theorem dJ6_bitCount_0f7a4_47 : decode cJ6_bitCount_0f7a4 47 = .ok (.istore_n 0, 1) := by decide +kernel
theorem dJ6_bitCount_0f7a4_48 : decode cJ6_bitCount_0f7a4 48 = .ok (.iload_n 0, 1) := by decide +kernel
theorem dJ6_bitCount_0f7a4_49 : decode cJ6_bitCount_0f7a4 49 = .ok (.bipush 63, 2) := by decide +kernel
theorem dJ6_bitCount_0f7a4_51 : decode cJ6_bitCount_0f7a4 51 = .ok (.iand, 1) := by decide +kernel
theorem dJ6_bitCount_0f7a4_52 : decode cJ6_bitCount_0f7a4 52 = .ok (.ireturn, 1) := by decide +kernel

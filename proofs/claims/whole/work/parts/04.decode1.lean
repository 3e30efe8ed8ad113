theorem dX6_work_1 : decode cX6_work 1 = .ok (.iconst 0, 1) := by decide +kernel
theorem dX6_work_2 : decode cX6_work 2 = .ok (.invokevirtual 125, 3) := by decide +kernel
theorem dX6_work_5 : decode cX6_work 5 = .ok (.istore 4, 2) := by decide +kernel
theorem dX6_work_7 : decode cX6_work 7 = .ok (.aload_n 1, 1) := by decide +kernel
theorem dX6_work_8 : decode cX6_work 8 = .ok (.iconst 1, 1) := by decide +kernel
theorem dX6_work_9 : decode cX6_work 9 = .ok (.invokevirtual 125, 3) := by decide +kernel
theorem dX6_work_12 : decode cX6_work 12 = .ok (.istore 5, 2) := by decide +kernel
theorem dX6_work_14 : decode cX6_work 14 = .ok (.iload_n 2, 1) := by decide +kernel
theorem dX6_work_15 : decode cX6_work 15 = .ok (.tableswitch 161 0 12 #[65, 161, 73, 82, 105, 105, 105, 131, 161, 161, 161, 161, 144], 65) := by decide +kernel
theorem dX6_work_80 : decode cX6_work 80 = .ok (.aload_n 1, 1) := by decide +kernel
theorem dX6_work_81 : decode cX6_work 81 = .ok (.iload_n 3, 1) := by decide +kernel
theorem dX6_work_82 : decode cX6_work 82 = .ok (.invokevirtual 154, 3) := by decide +kernel
theorem dX6_work_85 : decode cX6_work 85 = .ok (.goto 95, 3) := by decide +kernel
theorem dX6_work_88 : decode cX6_work 88 = .ok (.aload_n 1, 1) := by decide +kernel
theorem dX6_work_89 : decode cX6_work 89 = .ok (.iload 4, 2) := by decide +kernel
theorem dX6_work_91 : decode cX6_work 91 = .ok (.invokevirtual 154, 3) := by decide +kernel
theorem dX6_work_94 : decode cX6_work 94 = .ok (.goto 86, 3) := by decide +kernel
theorem dX6_work_97 : decode cX6_work 97 = .ok (.aload_n 1, 1) := by decide +kernel
theorem dX6_work_98 : decode cX6_work 98 = .ok (.invokevirtual 158, 3) := by decide +kernel
theorem dX6_work_101 : decode cX6_work 101 = .ok (.aload_n 1, 1) := by decide +kernel
theorem dX6_work_102 : decode cX6_work 102 = .ok (.invokevirtual 158, 3) := by decide +kernel
theorem dX6_work_105 : decode cX6_work 105 = .ok (.aload_n 1, 1) := by decide +kernel
theorem dX6_work_106 : decode cX6_work 106 = .ok (.iload 4, 2) := by decide +kernel
theorem dX6_work_108 : decode cX6_work 108 = .ok (.invokevirtual 154, 3) := by decide +kernel
theorem dX6_work_111 : decode cX6_work 111 = .ok (.aload_n 1, 1) := by decide +kernel
theorem dX6_work_112 : decode cX6_work 112 = .ok (.iload 5, 2) := by decide +kernel
theorem dX6_work_114 : decode cX6_work 114 = .ok (.invokevirtual 154, 3) := by decide +kernel
theorem dX6_work_117 : decode cX6_work 117 = .ok (.goto 63, 3) := by decide +kernel
theorem dX6_work_120 : decode cX6_work 120 = .ok (.aload_n 1, 1) := by decide +kernel
theorem dX6_work_121 : decode cX6_work 121 = .ok (.invokevirtual 158, 3) := by decide +kernel
theorem dX6_work_124 : decode cX6_work 124 = .ok (.aload_n 1, 1) := by decide +kernel
theorem dX6_work_125 : decode cX6_work 125 = .ok (.invokevirtual 158, 3) := by decide +kernel
theorem dX6_work_128 : decode cX6_work 128 = .ok (.aload_n 1, 1) := by decide +kernel
theorem dX6_work_129 : decode cX6_work 129 = .ok (.iload_n 2, 1) := by decide +kernel
theorem dX6_work_130 : decode cX6_work 130 = .ok (.iload 5, 2) := by decide +kernel
theorem dX6_work_132 : decode cX6_work 132 = .ok (.i2l, 1) := by decide +kernel
theorem dX6_work_133 : decode cX6_work 133 = .ok (.iload 4, 2) := by decide +kernel
theorem dX6_work_135 : decode cX6_work 135 = .ok (.i2l, 1) := by decide +kernel
theorem dX6_work_136 : decode cX6_work 136 = .ok (.invokestatic 128, 3) := by decide +kernel
theorem dX6_work_139 : decode cX6_work 139 = .ok (.l2i, 1) := by decide +kernel
theorem dX6_work_140 : decode cX6_work 140 = .ok (.invokevirtual 154, 3) := by decide +kernel
theorem dX6_work_143 : decode cX6_work 143 = .ok (.goto 37, 3) := by decide +kernel
theorem dX6_work_146 : decode cX6_work 146 = .ok (.aload_n 1, 1) := by decide +kernel
theorem dX6_work_147 : decode cX6_work 147 = .ok (.invokevirtual 158, 3) := by decide +kernel
theorem dX6_work_150 : decode cX6_work 150 = .ok (.aload_n 0, 1) := by decide +kernel
theorem dX6_work_151 : decode cX6_work 151 = .ok (.iload 4, 2) := by decide +kernel
theorem dX6_work_153 : decode cX6_work 153 = .ok (.invokevirtual 161, 3) := by decide +kernel
theorem dX6_work_156 : decode cX6_work 156 = .ok (.goto 24, 3) := by decide +kernel
theorem dX6_work_159 : decode cX6_work 159 = .ok (.aload_n 1, 1) := by decide +kernel
theorem dX6_work_160 : decode cX6_work 160 = .ok (.invokevirtual 158, 3) := by decide +kernel
theorem dX6_work_163 : decode cX6_work 163 = .ok (.iload 4, 2) := by decide +kernel
theorem dX6_work_165 : decode cX6_work 165 = .ok (.ifCond .ne 15, 3) := by decide +kernel
theorem dX6_work_168 : decode cX6_work 168 = .ok (.aload_n 0, 1) := by decide +kernel
theorem dX6_work_169 : decode cX6_work 169 = .ok (.iload_n 3, 1) := by decide +kernel
theorem dX6_work_170 : decode cX6_work 170 = .ok (.putfield 38, 3) := by decide +kernel
theorem dX6_work_173 : decode cX6_work 173 = .ok (.goto 7, 3) := by decide +kernel
theorem dX6_work_176 : decode cX6_work 176 = .ok (.aload_n 1, 1) := by decide +kernel
theorem dX6_work_177 : decode cX6_work 177 = .ok (.invokevirtual 158, 3) := by decide +kernel
theorem dX6_work_180 : decode cX6_work 180 = .ok (.return_, 1) := by decide +kernel
theorem dX7_init_0 : decode cX7_init 0 = .ok (.aload_n 0, 1) := by decide +kernel
theorem dX7_init_1 : decode cX7_init 1 = .ok (.invokespecial 3, 3) := by decide +kernel
theorem dX7_init_4 : decode cX7_init 4 = .ok (.aload_n 0, 1) := by decide +kernel
theorem dX7_init_5 : decode cX7_init 5 = .ok (.sipush 2000, 3) := by decide +kernel
theorem dX7_init_8 : decode cX7_init 8 = .ok (.newarray .byte, 2) := by decide +kernel
theorem dX7_init_10 : decode cX7_init 10 = .ok (.putfield 9, 3) := by decide +kernel
theorem dX7_init_13 : decode cX7_init 13 = .ok (.return_, 1) := by decide +kernel
theorem dX7_writePiles_0 : decode cX7_writePiles 0 = .ok (.aload_n 0, 1) := by decide +kernel
theorem dX7_writePiles_1 : decode cX7_writePiles 1 = .ok (.iconst 0, 1) := by decide +kernel
theorem dX7_writePiles_2 : decode cX7_writePiles 2 = .ok (.putfield 15, 3) := by decide +kernel
theorem dX7_writePiles_5 : decode cX7_writePiles 5 = .ok (.iconst 0, 1) := by decide +kernel
theorem dX7_writePiles_6 : decode cX7_writePiles 6 = .ok (.istore_n 2, 1) := by decide +kernel
theorem dX7_writePiles_7 : decode cX7_writePiles 7 = .ok (.iload_n 2, 1) := by decide +kernel
theorem dX7_writePiles_8 : decode cX7_writePiles 8 = .ok (.aload_n 1, 1) := by decide +kernel
theorem dX7_writePiles_9 : decode cX7_writePiles 9 = .ok (.getfield 19, 3) := by decide +kernel
theorem dX7_writePiles_12 : decode cX7_writePiles 12 = .ok (.if_icmp .ge 82, 3) := by decide +kernel
theorem dX7_writePiles_15 : decode cX7_writePiles 15 = .ok (.aload_n 1, 1) := by decide +kernel
theorem dX7_writePiles_16 : decode cX7_writePiles 16 = .ok (.iload_n 2, 1) := by decide +kernel
theorem dX7_writePiles_17 : decode cX7_writePiles 17 = .ok (.invokevirtual 24, 3) := by decide +kernel
theorem dX7_writePiles_20 : decode cX7_writePiles 20 = .ok (.astore_n 3, 1) := by decide +kernel
theorem dX7_writePiles_21 : decode cX7_writePiles 21 = .ok (.aload_n 3, 1) := by decide +kernel
theorem dX7_writePiles_22 : decode cX7_writePiles 22 = .ok (.ifnonnull 4, 3) := by decide +kernel
theorem dX7_writePiles_25 : decode cX7_writePiles 25 = .ok (.return_, 1) := by decide +kernel
theorem dX7_writePiles_26 : decode cX7_writePiles 26 = .ok (.iload_n 2, 1) := by decide +kernel
theorem dX7_writePiles_27 : decode cX7_writePiles 27 = .ok (.ifCond .le 9, 3) := by decide +kernel
theorem dX7_writePiles_30 : decode cX7_writePiles 30 = .ok (.aload_n 0, 1) := by decide +kernel
theorem dX7_writePiles_31 : decode cX7_writePiles 31 = .ok (.bipush 32, 2) := by decide +kernel
theorem dX7_writePiles_33 : decode cX7_writePiles 33 = .ok (.invokevirtual 28, 3) := by decide +kernel
theorem dX7_writePiles_36 : decode cX7_writePiles 36 = .ok (.aload_n 0, 1) := by decide +kernel
theorem dX7_writePiles_37 : decode cX7_writePiles 37 = .ok (.aload_n 3, 1) := by decide +kernel
theorem dX7_writePiles_38 : decode cX7_writePiles 38 = .ok (.invokevirtual 32, 3) := by decide +kernel
theorem dX7_writePiles_41 : decode cX7_writePiles 41 = .ok (.aload_n 1, 1) := by decide +kernel
theorem dX7_writePiles_42 : decode cX7_writePiles 42 = .ok (.aload_n 3, 1) := by decide +kernel
theorem dX7_writePiles_43 : decode cX7_writePiles 43 = .ok (.getfield 36, 3) := by decide +kernel
theorem dX7_writePiles_46 : decode cX7_writePiles 46 = .ok (.invokevirtual 41, 3) := by decide +kernel
theorem dX7_writePiles_49 : decode cX7_writePiles 49 = .ok (.astore 4, 2) := by decide +kernel
theorem dX7_writePiles_51 : decode cX7_writePiles 51 = .ok (.aload 4, 2) := by decide +kernel
theorem dX7_writePiles_53 : decode cX7_writePiles 53 = .ok (.ifnull 21, 3) := by decide +kernel
theorem dX7_writePiles_56 : decode cX7_writePiles 56 = .ok (.aload_n 0, 1) := by decide +kernel
theorem dX7_writePiles_57 : decode cX7_writePiles 57 = .ok (.bipush 64, 2) := by decide +kernel
theorem dX7_writePiles_59 : decode cX7_writePiles 59 = .ok (.invokevirtual 28, 3) := by decide +kernel
theorem dX7_writePiles_62 : decode cX7_writePiles 62 = .ok (.aload_n 0, 1) := by decide +kernel
theorem dX7_writePiles_63 : decode cX7_writePiles 63 = .ok (.aload 4, 2) := by decide +kernel
theorem dX7_writePiles_65 : decode cX7_writePiles 65 = .ok (.getfield 45, 3) := by decide +kernel
theorem dX7_writePiles_68 : decode cX7_writePiles 68 = .ok (.invokevirtual 51, 3) := by decide +kernel
theorem dX7_writePiles_71 : decode cX7_writePiles 71 = .ok (.goto 17, 3) := by decide +kernel
theorem dX7_writePiles_74 : decode cX7_writePiles 74 = .ok (.aload_n 0, 1) := by decide +kernel
theorem dX7_writePiles_75 : decode cX7_writePiles 75 = .ok (.bipush 35, 2) := by decide +kernel
theorem dX7_writePiles_77 : decode cX7_writePiles 77 = .ok (.invokevirtual 28, 3) := by decide +kernel
theorem dX7_writePiles_80 : decode cX7_writePiles 80 = .ok (.aload_n 0, 1) := by decide +kernel
theorem dX7_writePiles_81 : decode cX7_writePiles 81 = .ok (.aload_n 3, 1) := by decide +kernel
theorem dX7_writePiles_82 : decode cX7_writePiles 82 = .ok (.getfield 55, 3) := by decide +kernel
theorem dX7_writePiles_85 : decode cX7_writePiles 85 = .ok (.invokevirtual 58, 3) := by decide +kernel
theorem dX7_writePiles_88 : decode cX7_writePiles 88 = .ok (.iinc 2 1, 3) := by decide +kernel
theorem dX7_writePiles_91 : decode cX7_writePiles 91 = .ok (.goto (-84), 3) := by decide +kernel
theorem dX7_writePiles_94 : decode cX7_writePiles 94 = .ok (.return_, 1) := by decide +kernel
theorem dX7_addNumbers_0 : decode cX7_addNumbers 0 = .ok (.aload_n 1, 1) := by decide +kernel
theorem dX7_addNumbers_1 : decode cX7_addNumbers 1 = .ok (.getfield 61, 3) := by decide +kernel
theorem dX7_addNumbers_4 : decode cX7_addNumbers 4 = .ok (.iconst 1, 1) := by decide +kernel
theorem dX7_addNumbers_5 : decode cX7_addNumbers 5 = .ok (.isub, 1) := by decide +kernel
theorem dX7_addNumbers_6 : decode cX7_addNumbers 6 = .ok (.istore_n 2, 1) := by decide +kernel
theorem dX7_addNumbers_7 : decode cX7_addNumbers 7 = .ok (.iload_n 2, 1) := by decide +kernel
theorem dX7_addNumbers_8 : decode cX7_addNumbers 8 = .ok (.ifCond .lt 28, 3) := by decide +kernel
theorem dX7_addNumbers_11 : decode cX7_addNumbers 11 = .ok (.aload_n 0, 1) := by decide +kernel
theorem dX7_addNumbers_12 : decode cX7_addNumbers 12 = .ok (.aload_n 1, 1) := by decide +kernel
theorem dX7_addNumbers_13 : decode cX7_addNumbers 13 = .ok (.iload_n 2, 1) := by decide +kernel
theorem dX7_addNumbers_14 : decode cX7_addNumbers 14 = .ok (.invokevirtual 64, 3) := by decide +kernel
theorem dX7_addNumbers_17 : decode cX7_addNumbers 17 = .ok (.invokevirtual 58, 3) := by decide +kernel
theorem dX7_addNumbers_20 : decode cX7_addNumbers 20 = .ok (.iload_n 2, 1) := by decide +kernel
theorem dX7_addNumbers_21 : decode cX7_addNumbers 21 = .ok (.ifCond .le 9, 3) := by decide +kernel
theorem dX7_addNumbers_24 : decode cX7_addNumbers 24 = .ok (.aload_n 0, 1) := by decide +kernel
theorem dX7_addNumbers_25 : decode cX7_addNumbers 25 = .ok (.bipush 44, 2) := by decide +kernel
theorem dX7_addNumbers_27 : decode cX7_addNumbers 27 = .ok (.invokevirtual 28, 3) := by decide +kernel
theorem dX7_addNumbers_30 : decode cX7_addNumbers 30 = .ok (.iinc 2 (-1), 3) := by decide +kernel
theorem dX7_addNumbers_33 : decode cX7_addNumbers 33 = .ok (.goto (-26), 3) := by decide +kernel
theorem dX7_addNumbers_36 : decode cX7_addNumbers 36 = .ok (.return_, 1) := by decide +kernel
theorem dX7_addName_0 : decode cX7_addName 0 = .ok (.bipush 56, 2) := by decide +kernel
theorem dX7_addName_2 : decode cX7_addName 2 = .ok (.istore_n 3, 1) := by decide +kernel
theorem dX7_addName_3 : decode cX7_addName 3 = .ok (.iload_n 3, 1) := by decide +kernel
theorem dX7_addName_4 : decode cX7_addName 4 = .ok (.ifCond .lt 30, 3) := by decide +kernel
theorem dX7_addName_7 : decode cX7_addName 7 = .ok (.lload_n 1, 1) := by decide +kernel
theorem dX7_addName_8 : decode cX7_addName 8 = .ok (.iload_n 3, 1) := by decide +kernel
theorem dX7_addName_9 : decode cX7_addName 9 = .ok (.lshr, 1) := by decide +kernel
theorem dX7_addName_10 : decode cX7_addName 10 = .ok (.ldc2_w 68, 3) := by decide +kernel
theorem dX7_addName_13 : decode cX7_addName 13 = .ok (.land, 1) := by decide +kernel
theorem dX7_addName_14 : decode cX7_addName 14 = .ok (.l2i, 1) := by decide +kernel
theorem dX7_addName_15 : decode cX7_addName 15 = .ok (.istore 4, 2) := by decide +kernel
theorem dX7_addName_17 : decode cX7_addName 17 = .ok (.iload 4, 2) := by decide +kernel
theorem dX7_addName_19 : decode cX7_addName 19 = .ok (.ifCond .eq 9, 3) := by decide +kernel
theorem dX7_addName_22 : decode cX7_addName 22 = .ok (.aload_n 0, 1) := by decide +kernel
theorem dX7_addName_23 : decode cX7_addName 23 = .ok (.iload 4, 2) := by decide +kernel
theorem dX7_addName_25 : decode cX7_addName 25 = .ok (.invokevirtual 28, 3) := by decide +kernel
theorem dX7_addName_28 : decode cX7_addName 28 = .ok (.iinc 3 (-8), 3) := by decide +kernel
theorem dX7_addName_31 : decode cX7_addName 31 = .ok (.goto (-28), 3) := by decide +kernel
theorem dX7_addName_34 : decode cX7_addName 34 = .ok (.return_, 1) := by decide +kernel
theorem dX7_addNumber_0 : decode cX7_addNumber 0 = .ok (.iload_n 1, 1) := by decide +kernel
theorem dX7_addNumber_1 : decode cX7_addNumber 1 = .ok (.ifCond .ge 9, 3) := by decide +kernel
theorem dX7_addNumber_4 : decode cX7_addNumber 4 = .ok (.aload_n 0, 1) := by decide +kernel
theorem dX7_addNumber_5 : decode cX7_addNumber 5 = .ok (.bipush 45, 2) := by decide +kernel
theorem dX7_addNumber_7 : decode cX7_addNumber 7 = .ok (.invokevirtual 28, 3) := by decide +kernel
theorem dX7_addNumber_10 : decode cX7_addNumber 10 = .ok (.iload_n 1, 1) := by decide +kernel
theorem dX7_addNumber_11 : decode cX7_addNumber 11 = .ok (.ifCond .ge 8, 3) := by decide +kernel
theorem dX7_addNumber_14 : decode cX7_addNumber 14 = .ok (.iload_n 1, 1) := by decide +kernel
theorem dX7_addNumber_15 : decode cX7_addNumber 15 = .ok (.ineg, 1) := by decide +kernel
theorem dX7_addNumber_16 : decode cX7_addNumber 16 = .ok (.goto 4, 3) := by decide +kernel
theorem dX7_addNumber_19 : decode cX7_addNumber 19 = .ok (.iload_n 1, 1) := by decide +kernel
theorem dX7_addNumber_20 : decode cX7_addNumber 20 = .ok (.istore_n 2, 1) := by decide +kernel
theorem dX7_addNumber_21 : decode cX7_addNumber 21 = .ok (.iconst 0, 1) := by decide +kernel
theorem dX7_addNumber_22 : decode cX7_addNumber 22 = .ok (.istore_n 3, 1) := by decide +kernel
theorem dX7_addNumber_23 : decode cX7_addNumber 23 = .ok (.ldc 70, 2) := by decide +kernel
theorem dX7_addNumber_25 : decode cX7_addNumber 25 = .ok (.istore 4, 2) := by decide +kernel
theorem dX7_addNumber_27 : decode cX7_addNumber 27 = .ok (.iload 4, 2) := by decide +kernel
theorem dX7_addNumber_29 : decode cX7_addNumber 29 = .ok (.iconst 1, 1) := by decide +kernel
theorem dX7_addNumber_30 : decode cX7_addNumber 30 = .ok (.if_icmp .lt 56, 3) := by decide +kernel
theorem dX7_addNumber_33 : decode cX7_addNumber 33 = .ok (.iload_n 2, 1) := by decide +kernel
theorem dX7_addNumber_34 : decode cX7_addNumber 34 = .ok (.iload 4, 2) := by decide +kernel
theorem dX7_addNumber_36 : decode cX7_addNumber 36 = .ok (.idiv, 1) := by decide +kernel
theorem dX7_addNumber_37 : decode cX7_addNumber 37 = .ok (.bipush 10, 2) := by decide +kernel
theorem dX7_addNumber_39 : decode cX7_addNumber 39 = .ok (.irem, 1) := by decide +kernel
theorem dX7_addNumber_40 : decode cX7_addNumber 40 = .ok (.istore 5, 2) := by decide +kernel
theorem dX7_addNumber_42 : decode cX7_addNumber 42 = .ok (.iload_n 3, 1) := by decide +kernel
theorem dX7_addNumber_43 : decode cX7_addNumber 43 = .ok (.ifCond .ne 14, 3) := by decide +kernel
theorem dX7_addNumber_46 : decode cX7_addNumber 46 = .ok (.iload 5, 2) := by decide +kernel
theorem dX7_addNumber_48 : decode cX7_addNumber 48 = .ok (.ifCond .ne 9, 3) := by decide +kernel
theorem dX7_addNumber_51 : decode cX7_addNumber 51 = .ok (.iload 4, 2) := by decide +kernel
theorem dX7_addNumber_53 : decode cX7_addNumber 53 = .ok (.iconst 1, 1) := by decide +kernel
theorem dX7_addNumber_54 : decode cX7_addNumber 54 = .ok (.if_icmp .ne 7, 3) := by decide +kernel
theorem dX7_addNumber_57 : decode cX7_addNumber 57 = .ok (.iconst 1, 1) := by decide +kernel
theorem dX7_addNumber_58 : decode cX7_addNumber 58 = .ok (.goto 4, 3) := by decide +kernel
theorem dX7_addNumber_61 : decode cX7_addNumber 61 = .ok (.iconst 0, 1) := by decide +kernel
theorem dX7_addNumber_62 : decode cX7_addNumber 62 = .ok (.istore_n 3, 1) := by decide +kernel
theorem dX7_addNumber_63 : decode cX7_addNumber 63 = .ok (.iload_n 3, 1) := by decide +kernel
theorem dX7_addNumber_64 : decode cX7_addNumber 64 = .ok (.ifCond .eq 12, 3) := by decide +kernel
theorem dX7_addNumber_67 : decode cX7_addNumber 67 = .ok (.aload_n 0, 1) := by decide +kernel
theorem dX7_addNumber_68 : decode cX7_addNumber 68 = .ok (.bipush 48, 2) := by decide +kernel
theorem dX7_addNumber_70 : decode cX7_addNumber 70 = .ok (.iload 5, 2) := by decide +kernel
theorem dX7_addNumber_72 : decode cX7_addNumber 72 = .ok (.iadd, 1) := by decide +kernel
theorem dX7_addNumber_73 : decode cX7_addNumber 73 = .ok (.invokevirtual 28, 3) := by decide +kernel
theorem dX7_addNumber_76 : decode cX7_addNumber 76 = .ok (.iload 4, 2) := by decide +kernel
theorem dX7_addNumber_78 : decode cX7_addNumber 78 = .ok (.bipush 10, 2) := by decide +kernel
theorem dX7_addNumber_80 : decode cX7_addNumber 80 = .ok (.idiv, 1) := by decide +kernel
theorem dX7_addNumber_81 : decode cX7_addNumber 81 = .ok (.istore 4, 2) := by decide +kernel
theorem dX7_addNumber_83 : decode cX7_addNumber 83 = .ok (.goto (-56), 3) := by decide +kernel
theorem dX7_addNumber_86 : decode cX7_addNumber 86 = .ok (.return_, 1) := by decide +kernel
theorem dX7_addByte_0 : decode cX7_addByte 0 = .ok (.aload_n 0, 1) := by decide +kernel
theorem dX7_addByte_1 : decode cX7_addByte 1 = .ok (.getfield 15, 3) := by decide +kernel
theorem dX7_addByte_4 : decode cX7_addByte 4 = .ok (.ifCond .lt 36, 3) := by decide +kernel
theorem dX7_addByte_7 : decode cX7_addByte 7 = .ok (.aload_n 0, 1) := by decide +kernel
theorem dX7_addByte_8 : decode cX7_addByte 8 = .ok (.getfield 15, 3) := by decide +kernel
theorem dX7_addByte_11 : decode cX7_addByte 11 = .ok (.aload_n 0, 1) := by decide +kernel
theorem dX7_addByte_12 : decode cX7_addByte 12 = .ok (.getfield 9, 3) := by decide +kernel
theorem dX7_addByte_15 : decode cX7_addByte 15 = .ok (.arraylength, 1) := by decide +kernel
theorem dX7_addByte_16 : decode cX7_addByte 16 = .ok (.if_icmp .ge 24, 3) := by decide +kernel
theorem dX7_addByte_19 : decode cX7_addByte 19 = .ok (.aload_n 0, 1) := by decide +kernel
theorem dX7_addByte_20 : decode cX7_addByte 20 = .ok (.getfield 9, 3) := by decide +kernel
theorem dX7_addByte_23 : decode cX7_addByte 23 = .ok (.aload_n 0, 1) := by decide +kernel
theorem dX7_addByte_24 : decode cX7_addByte 24 = .ok (.getfield 15, 3) := by decide +kernel
theorem dX7_addByte_27 : decode cX7_addByte 27 = .ok (.iload_n 1, 1) := by decide +kernel
theorem dX7_addByte_28 : decode cX7_addByte 28 = .ok (.i2b, 1) := by decide +kernel
theorem dX7_addByte_29 : decode cX7_addByte 29 = .ok (.bastore, 1) := by decide +kernel
theorem dX7_addByte_30 : decode cX7_addByte 30 = .ok (.aload_n 0, 1) := by decide +kernel
theorem dX7_addByte_31 : decode cX7_addByte 31 = .ok (.dup, 1) := by decide +kernel
theorem dX7_addByte_32 : decode cX7_addByte 32 = .ok (.getfield 15, 3) := by decide +kernel
theorem dX7_addByte_35 : decode cX7_addByte 35 = .ok (.iconst 1, 1) := by decide +kernel
theorem dX7_addByte_36 : decode cX7_addByte 36 = .ok (.iadd, 1) := by decide +kernel
theorem dX7_addByte_37 : decode cX7_addByte 37 = .ok (.putfield 15, 3) := by decide +kernel
theorem dX7_addByte_40 : decode cX7_addByte 40 = .ok (.return_, 1) := by decide +kernel
theorem dX8_init_0 : decode cX8_init 0 = .ok (.aload_n 0, 1) := by decide +kernel
theorem dX8_init_1 : decode cX8_init 1 = .ok (.invokespecial 1, 3) := by decide +kernel
theorem dX8_init_4 : decode cX8_init 4 = .ok (.aload_n 0, 1) := by decide +kernel
theorem dX8_init_5 : decode cX8_init 5 = .ok (.new 7, 3) := by decide +kernel
theorem dX8_init_8 : decode cX8_init 8 = .ok (.dup, 1) := by decide +kernel
theorem dX8_init_9 : decode cX8_init 9 = .ok (.invokespecial 9, 3) := by decide +kernel
theorem dX8_init_12 : decode cX8_init 12 = .ok (.putfield 10, 3) := by decide +kernel
theorem dX8_init_15 : decode cX8_init 15 = .ok (.aload_n 0, 1) := by decide +kernel
theorem dX8_init_16 : decode cX8_init 16 = .ok (.getfield 10, 3) := by decide +kernel
theorem dX8_init_19 : decode cX8_init 19 = .ok (.iconst 1, 1) := by decide +kernel
theorem dX8_init_20 : decode cX8_init 20 = .ok (.invokevirtual 16, 3) := by decide +kernel
theorem dX8_init_23 : decode cX8_init 23 = .ok (.aload_n 0, 1) := by decide +kernel
theorem dX8_init_24 : decode cX8_init 24 = .ok (.getfield 10, 3) := by decide +kernel
theorem dX8_init_27 : decode cX8_init 27 = .ok (.ldc2_w 20, 3) := by decide +kernel
theorem dX8_init_30 : decode cX8_init 30 = .ok (.invokevirtual 22, 3) := by decide +kernel
theorem dX8_init_33 : decode cX8_init 33 = .ok (.pop, 1) := by decide +kernel
theorem dX8_init_34 : decode cX8_init 34 = .ok (.aload_n 0, 1) := by decide +kernel
theorem dX8_init_35 : decode cX8_init 35 = .ok (.new 7, 3) := by decide +kernel
theorem dX8_init_38 : decode cX8_init 38 = .ok (.dup, 1) := by decide +kernel
theorem dX8_init_39 : decode cX8_init 39 = .ok (.invokespecial 9, 3) := by decide +kernel
theorem dX8_init_42 : decode cX8_init 42 = .ok (.putfield 26, 3) := by decide +kernel
theorem dX8_init_45 : decode cX8_init 45 = .ok (.aload_n 0, 1) := by decide +kernel
theorem dX8_init_46 : decode cX8_init 46 = .ok (.new 29, 3) := by decide +kernel
theorem dX8_init_49 : decode cX8_init 49 = .ok (.dup, 1) := by decide +kernel
theorem dX8_init_50 : decode cX8_init 50 = .ok (.invokespecial 31, 3) := by decide +kernel
theorem dX8_init_53 : decode cX8_init 53 = .ok (.putfield 32, 3) := by decide +kernel
theorem dX8_init_56 : decode cX8_init 56 = .ok (.aload_n 0, 1) := by decide +kernel
theorem dX8_init_57 : decode cX8_init 57 = .ok (.iconst 2, 1) := by decide +kernel
theorem dX8_init_58 : decode cX8_init 58 = .ok (.anewarray 7, 3) := by decide +kernel
theorem dX8_init_61 : decode cX8_init 61 = .ok (.putfield 36, 3) := by decide +kernel
theorem dX8_init_64 : decode cX8_init 64 = .ok (.iconst 0, 1) := by decide +kernel
theorem dX8_init_65 : decode cX8_init 65 = .ok (.istore_n 1, 1) := by decide +kernel
theorem dX8_init_66 : decode cX8_init 66 = .ok (.iload_n 1, 1) := by decide +kernel
theorem dX8_init_67 : decode cX8_init 67 = .ok (.aload_n 0, 1) := by decide +kernel
theorem dX8_init_68 : decode cX8_init 68 = .ok (.getfield 36, 3) := by decide +kernel
theorem dX8_init_71 : decode cX8_init 71 = .ok (.arraylength, 1) := by decide +kernel
theorem dX8_init_72 : decode cX8_init 72 = .ok (.if_icmp .ge 22, 3) := by decide +kernel
theorem dX8_init_75 : decode cX8_init 75 = .ok (.aload_n 0, 1) := by decide +kernel
theorem dX8_init_76 : decode cX8_init 76 = .ok (.getfield 36, 3) := by decide +kernel
theorem dX8_init_79 : decode cX8_init 79 = .ok (.iload_n 1, 1) := by decide +kernel
theorem dX8_init_80 : decode cX8_init 80 = .ok (.new 7, 3) := by decide +kernel
theorem dX8_init_83 : decode cX8_init 83 = .ok (.dup, 1) := by decide +kernel
theorem dX8_init_84 : decode cX8_init 84 = .ok (.invokespecial 9, 3) := by decide +kernel
theorem dX8_init_87 : decode cX8_init 87 = .ok (.aastore, 1) := by decide +kernel
theorem dX8_init_88 : decode cX8_init 88 = .ok (.iinc 1 1, 3) := by decide +kernel
theorem dX8_init_91 : decode cX8_init 91 = .ok (.goto (-25), 3) := by decide +kernel
theorem dX8_init_94 : decode cX8_init 94 = .ok (.aload_n 0, 1) := by decide +kernel
theorem dX8_init_95 : decode cX8_init 95 = .ok (.iconst 2, 1) := by decide +kernel
theorem dX8_init_96 : decode cX8_init 96 = .ok (.newarray .boolean, 2) := by decide +kernel
theorem dX8_init_98 : decode cX8_init 98 = .ok (.putfield 40, 3) := by decide +kernel
theorem dX8_init_101 : decode cX8_init 101 = .ok (.aload_n 0, 1) := by decide +kernel
theorem dX8_init_102 : decode cX8_init 102 = .ok (.new 44, 3) := by decide +kernel
theorem dX8_init_105 : decode cX8_init 105 = .ok (.dup, 1) := by decide +kernel
theorem dX8_init_106 : decode cX8_init 106 = .ok (.invokespecial 46, 3) := by decide +kernel
theorem dX8_init_109 : decode cX8_init 109 = .ok (.putfield 47, 3) := by decide +kernel
theorem dX8_init_112 : decode cX8_init 112 = .ok (.aload_n 0, 1) := by decide +kernel
theorem dX8_init_113 : decode cX8_init 113 = .ok (.new 51, 3) := by decide +kernel
theorem dX8_init_116 : decode cX8_init 116 = .ok (.dup, 1) := by decide +kernel
theorem dX8_init_117 : decode cX8_init 117 = .ok (.invokespecial 53, 3) := by decide +kernel
theorem dX8_init_120 : decode cX8_init 120 = .ok (.putfield 54, 3) := by decide +kernel
theorem dX8_init_123 : decode cX8_init 123 = .ok (.return_, 1) := by decide +kernel
theorem dX8_append_0 : decode cX8_append 0 = .ok (.iload_n 1, 1) := by decide +kernel
theorem dX8_append_1 : decode cX8_append 1 = .ok (.invokestatic 58, 3) := by decide +kernel
theorem dX8_append_4 : decode cX8_append 4 = .ok (.iload_n 2, 1) := by decide +kernel
theorem dX8_append_5 : decode cX8_append 5 = .ok (.invokestatic 58, 3) := by decide +kernel
theorem dX8_append_8 : decode cX8_append 8 = .ok (.iadd, 1) := by decide +kernel
theorem dX8_append_9 : decode cX8_append 9 = .ok (.iload_n 3, 1) := by decide +kernel
theorem dX8_append_10 : decode cX8_append 10 = .ok (.invokestatic 58, 3) := by decide +kernel
theorem dX8_append_13 : decode cX8_append 13 = .ok (.iadd, 1) := by decide +kernel
theorem dX8_append_14 : decode cX8_append 14 = .ok (.iload 4, 2) := by decide +kernel
theorem dX8_append_16 : decode cX8_append 16 = .ok (.invokestatic 58, 3) := by decide +kernel
theorem dX8_append_19 : decode cX8_append 19 = .ok (.iadd, 1) := by decide +kernel
theorem dX8_append_20 : decode cX8_append 20 = .ok (.iload 5, 2) := by decide +kernel
theorem dX8_append_22 : decode cX8_append 22 = .ok (.invokestatic 58, 3) := by decide +kernel
theorem dX8_append_25 : decode cX8_append 25 = .ok (.iadd, 1) := by decide +kernel
theorem dX8_append_26 : decode cX8_append 26 = .ok (.istore 6, 2) := by decide +kernel
theorem dX8_append_28 : decode cX8_append 28 = .ok (.aload_n 0, 1) := by decide +kernel
theorem dX8_append_29 : decode cX8_append 29 = .ok (.getfield 47, 3) := by decide +kernel
theorem dX8_append_32 : decode cX8_append 32 = .ok (.getfield 62, 3) := by decide +kernel
theorem dX8_append_35 : decode cX8_append 35 = .ok (.iload 6, 2) := by decide +kernel
theorem dX8_append_37 : decode cX8_append 37 = .ok (.iadd, 1) := by decide +kernel
theorem dX8_append_38 : decode cX8_append 38 = .ok (.sipush 600, 3) := by decide +kernel
theorem dX8_append_41 : decode cX8_append 41 = .ok (.if_icmp .le 13, 3) := by decide +kernel
theorem dX8_append_44 : decode cX8_append 44 = .ok (.new 66, 3) := by decide +kernel
theorem dX8_append_47 : decode cX8_append 47 = .ok (.dup, 1) := by decide +kernel
theorem dX8_append_48 : decode cX8_append 48 = .ok (.ldc 68, 2) := by decide +kernel
theorem dX8_append_50 : decode cX8_append 50 = .ok (.invokespecial 70, 3) := by decide +kernel
theorem dX8_append_53 : decode cX8_append 53 = .ok (.athrow, 1) := by decide +kernel
theorem dX8_append_54 : decode cX8_append 54 = .ok (.aload_n 0, 1) := by decide +kernel
theorem dX8_append_55 : decode cX8_append 55 = .ok (.getfield 47, 3) := by decide +kernel
theorem dX8_append_58 : decode cX8_append 58 = .ok (.iload_n 1, 1) := by decide +kernel
theorem dX8_append_59 : decode cX8_append 59 = .ok (.invokevirtual 73, 3) := by decide +kernel
theorem dX8_append_62 : decode cX8_append 62 = .ok (.aload_n 0, 1) := by decide +kernel
theorem dX8_append_63 : decode cX8_append 63 = .ok (.getfield 47, 3) := by decide +kernel
theorem dX8_append_66 : decode cX8_append 66 = .ok (.iload_n 2, 1) := by decide +kernel
theorem dX8_append_67 : decode cX8_append 67 = .ok (.invokevirtual 73, 3) := by decide +kernel
theorem dX8_append_70 : decode cX8_append 70 = .ok (.aload_n 0, 1) := by decide +kernel
theorem dX8_append_71 : decode cX8_append 71 = .ok (.getfield 47, 3) := by decide +kernel
theorem dX8_append_74 : decode cX8_append 74 = .ok (.iload_n 3, 1) := by decide +kernel
theorem dX8_append_75 : decode cX8_append 75 = .ok (.invokevirtual 73, 3) := by decide +kernel
theorem dX8_append_78 : decode cX8_append 78 = .ok (.aload_n 0, 1) := by decide +kernel
theorem dX8_append_79 : decode cX8_append 79 = .ok (.getfield 47, 3) := by decide +kernel
theorem dX8_append_82 : decode cX8_append 82 = .ok (.iload 4, 2) := by decide +kernel
theorem dX8_append_84 : decode cX8_append 84 = .ok (.invokevirtual 73, 3) := by decide +kernel
theorem dX8_append_87 : decode cX8_append 87 = .ok (.aload_n 0, 1) := by decide +kernel
theorem dX8_append_88 : decode cX8_append 88 = .ok (.getfield 47, 3) := by decide +kernel
theorem dX8_append_91 : decode cX8_append 91 = .ok (.iload 5, 2) := by decide +kernel
theorem dX8_append_93 : decode cX8_append 93 = .ok (.invokevirtual 73, 3) := by decide +kernel
theorem dX8_append_96 : decode cX8_append 96 = .ok (.aload_n 0, 1) := by decide +kernel
theorem dX8_append_97 : decode cX8_append 97 = .ok (.getfield 47, 3) := by decide +kernel
theorem dX8_append_100 : decode cX8_append 100 = .ok (.getfield 62, 3) := by decide +kernel
theorem dX8_append_103 : decode cX8_append 103 = .ok (.ireturn, 1) := by decide +kernel
theorem dX8_load_0 : decode cX8_load 0 = .ok (.aload_n 0, 1) := by decide +kernel
theorem dX8_load_1 : decode cX8_load 1 = .ok (.getfield 47, 3) := by decide +kernel
theorem dX8_load_4 : decode cX8_load 4 = .ok (.invokevirtual 76, 3) := by decide +kernel
theorem dX8_load_7 : decode cX8_load 7 = .ok (.istore_n 1, 1) := by decide +kernel
theorem dX8_load_8 : decode cX8_load 8 = .ok (.aload_n 0, 1) := by decide +kernel
theorem dX8_load_9 : decode cX8_load 9 = .ok (.getfield 47, 3) := by decide +kernel
theorem dX8_load_12 : decode cX8_load 12 = .ok (.iconst 0, 1) := by decide +kernel
theorem dX8_load_13 : decode cX8_load 13 = .ok (.putfield 62, 3) := by decide +kernel
theorem dX8_load_16 : decode cX8_load 16 = .ok (.iload_n 1, 1) := by decide +kernel
theorem dX8_load_17 : decode cX8_load 17 = .ok (.ifCond .ne 11, 3) := by decide +kernel
theorem dX8_load_20 : decode cX8_load 20 = .ok (.aload_n 0, 1) := by decide +kernel
theorem dX8_load_21 : decode cX8_load 21 = .ok (.getfield 47, 3) := by decide +kernel
theorem dX8_load_24 : decode cX8_load 24 = .ok (.getfield 80, 3) := by decide +kernel
theorem dX8_load_27 : decode cX8_load 27 = .ok (.ireturn, 1) := by decide +kernel
theorem dX8_load_28 : decode cX8_load 28 = .ok (.aload_n 0, 1) := by decide +kernel
theorem dX8_load_29 : decode cX8_load 29 = .ok (.getfield 32, 3) := by decide +kernel
theorem dX8_load_32 : decode cX8_load 32 = .ok (.aload_n 0, 1) := by decide +kernel
theorem dX8_load_33 : decode cX8_load 33 = .ok (.getfield 10, 3) := by decide +kernel
theorem dX8_load_36 : decode cX8_load 36 = .ok (.invokevirtual 83, 3) := by decide +kernel
theorem dX8_load_39 : decode cX8_load 39 = .ok (.aload_n 0, 1) := by decide +kernel
theorem dX8_load_40 : decode cX8_load 40 = .ok (.getfield 10, 3) := by decide +kernel
theorem dX8_load_43 : decode cX8_load 43 = .ok (.aload_n 0, 1) := by decide +kernel
theorem dX8_load_44 : decode cX8_load 44 = .ok (.getfield 47, 3) := by decide +kernel
theorem dX8_load_47 : decode cX8_load 47 = .ok (.getfield 87, 3) := by decide +kernel
theorem dX8_load_50 : decode cX8_load 50 = .ok (.invokevirtual 88, 3) := by decide +kernel
theorem dX8_load_53 : decode cX8_load 53 = .ok (.aload_n 0, 1) := by decide +kernel
theorem dX8_load_54 : decode cX8_load 54 = .ok (.getfield 10, 3) := by decide +kernel
theorem dX8_load_57 : decode cX8_load 57 = .ok (.getfield 91, 3) := by decide +kernel
theorem dX8_load_60 : decode cX8_load 60 = .ok (.ireturn, 1) := by decide +kernel
theorem dX8_errorPosition_0 : decode cX8_errorPosition 0 = .ok (.aload_n 0, 1) := by decide +kernel
theorem dX8_errorPosition_1 : decode cX8_errorPosition 1 = .ok (.getfield 47, 3) := by decide +kernel
theorem dX8_errorPosition_4 : decode cX8_errorPosition 4 = .ok (.getfield 94, 3) := by decide +kernel
theorem dX8_errorPosition_7 : decode cX8_errorPosition 7 = .ok (.ireturn, 1) := by decide +kernel
theorem dX8_count_0 : decode cX8_count 0 = .ok (.iload_n 1, 1) := by decide +kernel
theorem dX8_count_1 : decode cX8_count 1 = .ok (.tableswitch 172 0 10 #[59, 67, 75, 83, 91, 100, 109, 118, 126, 137, 145], 59) := by decide +kernel
theorem dX8_count_60 : decode cX8_count 60 = .ok (.aload_n 0, 1) := by decide +kernel
theorem dX8_count_61 : decode cX8_count 61 = .ok (.getfield 10, 3) := by decide +kernel
theorem dX8_count_64 : decode cX8_count 64 = .ok (.getfield 97, 3) := by decide +kernel
theorem dX8_count_67 : decode cX8_count 67 = .ok (.ireturn, 1) := by decide +kernel
theorem dX8_count_68 : decode cX8_count 68 = .ok (.aload_n 0, 1) := by decide +kernel
theorem dX8_count_69 : decode cX8_count 69 = .ok (.getfield 10, 3) := by decide +kernel
theorem dX8_count_72 : decode cX8_count 72 = .ok (.getfield 91, 3) := by decide +kernel
theorem dX8_count_75 : decode cX8_count 75 = .ok (.ireturn, 1) := by decide +kernel
theorem dX8_count_76 : decode cX8_count 76 = .ok (.aload_n 0, 1) := by decide +kernel
theorem dX8_count_77 : decode cX8_count 77 = .ok (.getfield 10, 3) := by decide +kernel
theorem dX8_count_80 : decode cX8_count 80 = .ok (.getfield 100, 3) := by decide +kernel
theorem dX8_count_83 : decode cX8_count 83 = .ok (.ireturn, 1) := by decide +kernel
theorem dX8_count_84 : decode cX8_count 84 = .ok (.aload_n 0, 1) := by decide +kernel
theorem dX8_count_85 : decode cX8_count 85 = .ok (.getfield 10, 3) := by decide +kernel
theorem dX8_count_88 : decode cX8_count 88 = .ok (.getfield 103, 3) := by decide +kernel
theorem dX8_count_91 : decode cX8_count 91 = .ok (.ireturn, 1) := by decide +kernel
theorem dX8_count_92 : decode cX8_count 92 = .ok (.aload_n 0, 1) := by decide +kernel
theorem dX8_count_93 : decode cX8_count 93 = .ok (.getfield 10, 3) := by decide +kernel
theorem dX8_count_96 : decode cX8_count 96 = .ok (.iconst 0, 1) := by decide +kernel
theorem dX8_count_97 : decode cX8_count 97 = .ok (.invokevirtual 106, 3) := by decide +kernel
theorem dX8_count_100 : decode cX8_count 100 = .ok (.ireturn, 1) := by decide +kernel
theorem dX8_count_101 : decode cX8_count 101 = .ok (.aload_n 0, 1) := by decide +kernel
theorem dX8_count_102 : decode cX8_count 102 = .ok (.getfield 10, 3) := by decide +kernel
theorem dX8_count_105 : decode cX8_count 105 = .ok (.iconst 1, 1) := by decide +kernel
theorem dX8_count_106 : decode cX8_count 106 = .ok (.invokevirtual 106, 3) := by decide +kernel
theorem dX8_count_109 : decode cX8_count 109 = .ok (.ireturn, 1) := by decide +kernel
theorem dX8_count_110 : decode cX8_count 110 = .ok (.aload_n 0, 1) := by decide +kernel
theorem dX8_count_111 : decode cX8_count 111 = .ok (.getfield 10, 3) := by decide +kernel
theorem dX8_count_114 : decode cX8_count 114 = .ok (.iconst 2, 1) := by decide +kernel
theorem dX8_count_115 : decode cX8_count 115 = .ok (.invokevirtual 106, 3) := by decide +kernel
theorem dX8_count_118 : decode cX8_count 118 = .ok (.ireturn, 1) := by decide +kernel
theorem dX8_count_119 : decode cX8_count 119 = .ok (.aload_n 0, 1) := by decide +kernel
theorem dX8_count_120 : decode cX8_count 120 = .ok (.getfield 10, 3) := by decide +kernel
theorem dX8_count_123 : decode cX8_count 123 = .ok (.invokevirtual 109, 3) := by decide +kernel
theorem dX8_count_126 : decode cX8_count 126 = .ok (.ireturn, 1) := by decide +kernel
theorem dX8_count_127 : decode cX8_count 127 = .ok (.aload_n 0, 1) := by decide +kernel
theorem dX8_count_128 : decode cX8_count 128 = .ok (.getfield 10, 3) := by decide +kernel
theorem dX8_count_131 : decode cX8_count 131 = .ok (.getfield 113, 3) := by decide +kernel
theorem dX8_count_134 : decode cX8_count 134 = .ok (.invokevirtual 117, 3) := by decide +kernel
theorem dX8_count_137 : decode cX8_count 137 = .ok (.ireturn, 1) := by decide +kernel
theorem dX8_count_138 : decode cX8_count 138 = .ok (.aload_n 0, 1) := by decide +kernel
theorem dX8_count_139 : decode cX8_count 139 = .ok (.getfield 10, 3) := by decide +kernel
theorem dX8_count_142 : decode cX8_count 142 = .ok (.invokevirtual 122, 3) := by decide +kernel
theorem dX8_count_145 : decode cX8_count 145 = .ok (.ireturn, 1) := by decide +kernel
theorem dX8_count_146 : decode cX8_count 146 = .ok (.aload_n 0, 1) := by decide +kernel
theorem dX8_count_147 : decode cX8_count 147 = .ok (.getfield 10, 3) := by decide +kernel
theorem dX8_count_150 : decode cX8_count 150 = .ok (.iconst 0, 1) := by decide +kernel
theorem dX8_count_151 : decode cX8_count 151 = .ok (.invokevirtual 106, 3) := by decide +kernel
theorem dX8_count_154 : decode cX8_count 154 = .ok (.ifCond .le 17, 3) := by decide +kernel
theorem dX8_count_157 : decode cX8_count 157 = .ok (.aload_n 0, 1) := by decide +kernel
theorem dX8_count_158 : decode cX8_count 158 = .ok (.getfield 10, 3) := by decide +kernel
theorem dX8_count_161 : decode cX8_count 161 = .ok (.invokestatic 125, 3) := by decide +kernel
theorem dX8_count_164 : decode cX8_count 164 = .ok (.ifCond .eq 7, 3) := by decide +kernel
theorem dX8_count_167 : decode cX8_count 167 = .ok (.iconst 1, 1) := by decide +kernel
theorem dX8_count_168 : decode cX8_count 168 = .ok (.goto 4, 3) := by decide +kernel
theorem dX8_count_171 : decode cX8_count 171 = .ok (.iconst 0, 1) := by decide +kernel
theorem dX8_count_172 : decode cX8_count 172 = .ok (.ireturn, 1) := by decide +kernel
theorem dX8_count_173 : decode cX8_count 173 = .ok (.new 131, 3) := by decide +kernel
theorem dX8_count_176 : decode cX8_count 176 = .ok (.dup, 1) := by decide +kernel
theorem dX8_count_177 : decode cX8_count 177 = .ok (.ldc 133, 2) := by decide +kernel
theorem dX8_count_179 : decode cX8_count 179 = .ok (.invokespecial 135, 3) := by decide +kernel
theorem dX8_count_182 : decode cX8_count 182 = .ok (.athrow, 1) := by decide +kernel
theorem dX8_process_0 : decode cX8_process 0 = .ok (.aload_n 0, 1) := by decide +kernel
theorem dX8_process_1 : decode cX8_process 1 = .ok (.iload_n 1, 1) := by decide +kernel
theorem dX8_process_2 : decode cX8_process 2 = .ok (.invokevirtual 136, 3) := by decide +kernel
theorem dX8_process_5 : decode cX8_process 5 = .ok (.astore_n 3, 1) := by decide +kernel
theorem dX8_process_6 : decode cX8_process 6 = .ok (.iload_n 2, 1) := by decide +kernel
theorem dX8_process_7 : decode cX8_process 7 = .ok (.tableswitch 112 0 10 #[57, 62, 67, 72, 77, 82, 87, 92, 97, 102, 107], 57) := by decide +kernel
theorem dX8_process_64 : decode cX8_process 64 = .ok (.aload_n 3, 1) := by decide +kernel
theorem dX8_process_65 : decode cX8_process 65 = .ok (.getfield 140, 3) := by decide +kernel
theorem dX8_process_68 : decode cX8_process 68 = .ok (.ireturn, 1) := by decide +kernel
theorem dX8_process_69 : decode cX8_process 69 = .ok (.aload_n 3, 1) := by decide +kernel
theorem dX8_process_70 : decode cX8_process 70 = .ok (.getfield 145, 3) := by decide +kernel
theorem dX8_process_73 : decode cX8_process 73 = .ok (.ireturn, 1) := by decide +kernel
theorem dX8_process_74 : decode cX8_process 74 = .ok (.aload_n 3, 1) := by decide +kernel
theorem dX8_process_75 : decode cX8_process 75 = .ok (.getfield 148, 3) := by decide +kernel
theorem dX8_process_78 : decode cX8_process 78 = .ok (.ireturn, 1) := by decide +kernel
theorem dX8_process_79 : decode cX8_process 79 = .ok (.aload_n 3, 1) := by decide +kernel
theorem dX8_process_80 : decode cX8_process 80 = .ok (.getfield 151, 3) := by decide +kernel
theorem dX8_process_83 : decode cX8_process 83 = .ok (.ireturn, 1) := by decide +kernel
theorem dX8_process_84 : decode cX8_process 84 = .ok (.aload_n 3, 1) := by decide +kernel
theorem dX8_process_85 : decode cX8_process 85 = .ok (.getfield 154, 3) := by decide +kernel
theorem dX8_process_88 : decode cX8_process 88 = .ok (.ireturn, 1) := by decide +kernel
theorem dX8_process_89 : decode cX8_process 89 = .ok (.aload_n 3, 1) := by decide +kernel
theorem dX8_process_90 : decode cX8_process 90 = .ok (.getfield 157, 3) := by decide +kernel
theorem dX8_process_93 : decode cX8_process 93 = .ok (.ireturn, 1) := by decide +kernel
theorem dX8_process_94 : decode cX8_process 94 = .ok (.aload_n 3, 1) := by decide +kernel
theorem dX8_process_95 : decode cX8_process 95 = .ok (.getfield 160, 3) := by decide +kernel
theorem dX8_process_98 : decode cX8_process 98 = .ok (.ireturn, 1) := by decide +kernel
theorem dX8_process_99 : decode cX8_process 99 = .ok (.aload_n 3, 1) := by decide +kernel
theorem dX8_process_100 : decode cX8_process 100 = .ok (.getfield 163, 3) := by decide +kernel
theorem dX8_process_103 : decode cX8_process 103 = .ok (.ireturn, 1) := by decide +kernel
theorem dX8_process_104 : decode cX8_process 104 = .ok (.aload_n 3, 1) := by decide +kernel
theorem dX8_process_105 : decode cX8_process 105 = .ok (.getfield 164, 3) := by decide +kernel
theorem dX8_process_108 : decode cX8_process 108 = .ok (.ireturn, 1) := by decide +kernel
theorem dX8_process_109 : decode cX8_process 109 = .ok (.aload_n 3, 1) := by decide +kernel
theorem dX8_process_110 : decode cX8_process 110 = .ok (.getfield 167, 3) := by decide +kernel
theorem dX8_process_113 : decode cX8_process 113 = .ok (.ireturn, 1) := by decide +kernel
theorem dX8_process_114 : decode cX8_process 114 = .ok (.aload_n 3, 1) := by decide +kernel
theorem dX8_process_115 : decode cX8_process 115 = .ok (.getfield 170, 3) := by decide +kernel
theorem dX8_process_118 : decode cX8_process 118 = .ok (.ireturn, 1) := by decide +kernel
theorem dX8_process_119 : decode cX8_process 119 = .ok (.new 131, 3) := by decide +kernel
theorem dX8_process_122 : decode cX8_process 122 = .ok (.dup, 1) := by decide +kernel
theorem dX8_process_123 : decode cX8_process 123 = .ok (.ldc 173, 2) := by decide +kernel
theorem dX8_process_125 : decode cX8_process 125 = .ok (.invokespecial 135, 3) := by decide +kernel
theorem dX8_process_128 : decode cX8_process 128 = .ok (.athrow, 1) := by decide +kernel
theorem dX8_stack_0 : decode cX8_stack 0 = .ok (.aload_n 0, 1) := by decide +kernel
theorem dX8_stack_1 : decode cX8_stack 1 = .ok (.iload_n 1, 1) := by decide +kernel
theorem dX8_stack_2 : decode cX8_stack 2 = .ok (.invokevirtual 175, 3) := by decide +kernel
theorem dX8_stack_5 : decode cX8_stack 5 = .ok (.astore_n 3, 1) := by decide +kernel
theorem dX8_stack_6 : decode cX8_stack 6 = .ok (.iload_n 2, 1) := by decide +kernel
theorem dX8_stack_7 : decode cX8_stack 7 = .ok (.tableswitch 58 0 4 #[33, 38, 43, 48, 53], 33) := by decide +kernel
theorem dX8_stack_40 : decode cX8_stack 40 = .ok (.aload_n 3, 1) := by decide +kernel
theorem dX8_stack_41 : decode cX8_stack 41 = .ok (.getfield 179, 3) := by decide +kernel
theorem dX8_stack_44 : decode cX8_stack 44 = .ok (.ireturn, 1) := by decide +kernel
theorem dX8_stack_45 : decode cX8_stack 45 = .ok (.aload_n 3, 1) := by decide +kernel
theorem dX8_stack_46 : decode cX8_stack 46 = .ok (.getfield 184, 3) := by decide +kernel
theorem dX8_stack_49 : decode cX8_stack 49 = .ok (.ireturn, 1) := by decide +kernel
theorem dX8_stack_50 : decode cX8_stack 50 = .ok (.aload_n 3, 1) := by decide +kernel
theorem dX8_stack_51 : decode cX8_stack 51 = .ok (.getfield 186, 3) := by decide +kernel
theorem dX8_stack_54 : decode cX8_stack 54 = .ok (.ireturn, 1) := by decide +kernel
theorem dX8_stack_55 : decode cX8_stack 55 = .ok (.aload_n 3, 1) := by decide +kernel
theorem dX8_stack_56 : decode cX8_stack 56 = .ok (.getfield 189, 3) := by decide +kernel
theorem dX8_stack_59 : decode cX8_stack 59 = .ok (.ireturn, 1) := by decide +kernel
theorem dX8_stack_60 : decode cX8_stack 60 = .ok (.aload_n 3, 1) := by decide +kernel
theorem dX8_stack_61 : decode cX8_stack 61 = .ok (.getfield 192, 3) := by decide +kernel
theorem dX8_stack_64 : decode cX8_stack 64 = .ok (.ireturn, 1) := by decide +kernel
theorem dX8_stack_65 : decode cX8_stack 65 = .ok (.new 131, 3) := by decide +kernel
theorem dX8_stack_68 : decode cX8_stack 68 = .ok (.dup, 1) := by decide +kernel
theorem dX8_stack_69 : decode cX8_stack 69 = .ok (.ldc 195, 2) := by decide +kernel
theorem dX8_stack_71 : decode cX8_stack 71 = .ok (.invokespecial 135, 3) := by decide +kernel
theorem dX8_stack_74 : decode cX8_stack 74 = .ok (.athrow, 1) := by decide +kernel
theorem dX8_number_0 : decode cX8_number 0 = .ok (.aload_n 0, 1) := by decide +kernel
theorem dX8_number_1 : decode cX8_number 1 = .ok (.iload_n 1, 1) := by decide +kernel
theorem dX8_number_2 : decode cX8_number 2 = .ok (.invokevirtual 175, 3) := by decide +kernel
theorem dX8_number_5 : decode cX8_number 5 = .ok (.iload_n 2, 1) := by decide +kernel
theorem dX8_number_6 : decode cX8_number 6 = .ok (.invokevirtual 197, 3) := by decide +kernel
theorem dX8_number_9 : decode cX8_number 9 = .ok (.ireturn, 1) := by decide +kernel
theorem dX8_slot_0 : decode cX8_slot 0 = .ok (.aload_n 0, 1) := by decide +kernel
theorem dX8_slot_1 : decode cX8_slot 1 = .ok (.iload_n 1, 1) := by decide +kernel
theorem dX8_slot_2 : decode cX8_slot 2 = .ok (.invokevirtual 200, 3) := by decide +kernel
theorem dX8_slot_5 : decode cX8_slot 5 = .ok (.aload_n 0, 1) := by decide +kernel
theorem dX8_slot_6 : decode cX8_slot 6 = .ok (.getfield 10, 3) := by decide +kernel
theorem dX8_slot_9 : decode cX8_slot 9 = .ok (.iload_n 1, 1) := by decide +kernel
theorem dX8_slot_10 : decode cX8_slot 10 = .ok (.invokevirtual 203, 3) := by decide +kernel
theorem dX8_slot_13 : decode cX8_slot 13 = .ok (.ireturn, 1) := by decide +kernel
theorem dX8_command_0 : decode cX8_command 0 = .ok (.aload_n 0, 1) := by decide +kernel
theorem dX8_command_1 : decode cX8_command 1 = .ok (.iload_n 1, 1) := by decide +kernel
theorem dX8_command_2 : decode cX8_command 2 = .ok (.invokevirtual 136, 3) := by decide +kernel
theorem dX8_command_5 : decode cX8_command 5 = .ok (.astore 4, 2) := by decide +kernel
theorem dX8_command_7 : decode cX8_command 7 = .ok (.aload 4, 2) := by decide +kernel
theorem dX8_command_9 : decode cX8_command 9 = .ok (.iload_n 2, 1) := by decide +kernel
theorem dX8_command_10 : decode cX8_command 10 = .ok (.invokevirtual 206, 3) := by decide +kernel
theorem dX8_command_13 : decode cX8_command 13 = .ok (.iconst (-1), 1) := by decide +kernel
theorem dX8_command_14 : decode cX8_command 14 = .ok (.if_icmp .ne 13, 3) := by decide +kernel
theorem dX8_command_17 : decode cX8_command 17 = .ok (.new 209, 3) := by decide +kernel
theorem dX8_command_20 : decode cX8_command 20 = .ok (.dup, 1) := by decide +kernel
theorem dX8_command_21 : decode cX8_command 21 = .ok (.ldc 211, 2) := by decide +kernel
theorem dX8_command_23 : decode cX8_command 23 = .ok (.invokespecial 213, 3) := by decide +kernel
theorem dX8_command_26 : decode cX8_command 26 = .ok (.athrow, 1) := by decide +kernel
theorem dX8_command_27 : decode cX8_command 27 = .ok (.iload_n 3, 1) := by decide +kernel
theorem dX8_command_28 : decode cX8_command 28 = .ok (.lookupswitch 42 #[(0, 28), (1, 35)], 28) := by decide +kernel
theorem dX8_command_56 : decode cX8_command 56 = .ok (.aload 4, 2) := by decide +kernel
theorem dX8_command_58 : decode cX8_command 58 = .ok (.iload_n 2, 1) := by decide +kernel
theorem dX8_command_59 : decode cX8_command 59 = .ok (.invokevirtual 206, 3) := by decide +kernel
theorem dX8_command_62 : decode cX8_command 62 = .ok (.ireturn, 1) := by decide +kernel
theorem dX8_command_63 : decode cX8_command 63 = .ok (.aload 4, 2) := by decide +kernel
theorem dX8_command_65 : decode cX8_command 65 = .ok (.iload_n 2, 1) := by decide +kernel
theorem dX8_command_66 : decode cX8_command 66 = .ok (.invokevirtual 214, 3) := by decide +kernel
theorem dX8_command_69 : decode cX8_command 69 = .ok (.ireturn, 1) := by decide +kernel
theorem dX8_command_70 : decode cX8_command 70 = .ok (.new 131, 3) := by decide +kernel
theorem dX8_command_73 : decode cX8_command 73 = .ok (.dup, 1) := by decide +kernel
theorem dX8_command_74 : decode cX8_command 74 = .ok (.ldc 217, 2) := by decide +kernel
theorem dX8_command_76 : decode cX8_command 76 = .ok (.invokespecial 135, 3) := by decide +kernel
theorem dX8_command_79 : decode cX8_command 79 = .ok (.athrow, 1) := by decide +kernel
theorem dX8_said_0 : decode cX8_said 0 = .ok (.aload_n 0, 1) := by decide +kernel
theorem dX8_said_1 : decode cX8_said 1 = .ok (.iload_n 1, 1) := by decide +kernel
theorem dX8_said_2 : decode cX8_said 2 = .ok (.invokevirtual 136, 3) := by decide +kernel
theorem dX8_said_5 : decode cX8_said 5 = .ok (.iload_n 2, 1) := by decide +kernel
theorem dX8_said_6 : decode cX8_said 6 = .ok (.invokevirtual 219, 3) := by decide +kernel
theorem dX8_said_9 : decode cX8_said 9 = .ok (.ireturn, 1) := by decide +kernel
theorem dX8_trace_0 : decode cX8_trace 0 = .ok (.iload_n 1, 1) := by decide +kernel
theorem dX8_trace_1 : decode cX8_trace 1 = .ok (.ifCond .lt 17, 3) := by decide +kernel
theorem dX8_trace_4 : decode cX8_trace 4 = .ok (.iload_n 1, 1) := by decide +kernel
theorem dX8_trace_5 : decode cX8_trace 5 = .ok (.aload_n 0, 1) := by decide +kernel
theorem dX8_trace_6 : decode cX8_trace 6 = .ok (.getfield 10, 3) := by decide +kernel
theorem dX8_trace_9 : decode cX8_trace 9 = .ok (.getfield 113, 3) := by decide +kernel
theorem dX8_trace_12 : decode cX8_trace 12 = .ok (.invokevirtual 117, 3) := by decide +kernel
theorem dX8_trace_15 : decode cX8_trace 15 = .ok (.if_icmp .lt 13, 3) := by decide +kernel
theorem dX8_trace_18 : decode cX8_trace 18 = .ok (.new 209, 3) := by decide +kernel
theorem dX8_trace_21 : decode cX8_trace 21 = .ok (.dup, 1) := by decide +kernel
theorem dX8_trace_22 : decode cX8_trace 22 = .ok (.ldc 222, 2) := by decide +kernel
theorem dX8_trace_24 : decode cX8_trace 24 = .ok (.invokespecial 213, 3) := by decide +kernel
theorem dX8_trace_27 : decode cX8_trace 27 = .ok (.athrow, 1) := by decide +kernel
theorem dX8_trace_28 : decode cX8_trace 28 = .ok (.iload_n 2, 1) := by decide +kernel
theorem dX8_trace_29 : decode cX8_trace 29 = .ok (.ifCond .lt 8, 3) := by decide +kernel
theorem dX8_trace_32 : decode cX8_trace 32 = .ok (.iload_n 2, 1) := by decide +kernel
theorem dX8_trace_33 : decode cX8_trace 33 = .ok (.iconst 3, 1) := by decide +kernel
theorem dX8_trace_34 : decode cX8_trace 34 = .ok (.if_icmp .le 13, 3) := by decide +kernel
theorem dX8_trace_37 : decode cX8_trace 37 = .ok (.new 131, 3) := by decide +kernel
theorem dX8_trace_40 : decode cX8_trace 40 = .ok (.dup, 1) := by decide +kernel
theorem dX8_trace_41 : decode cX8_trace 41 = .ok (.ldc 224, 2) := by decide +kernel
theorem dX8_trace_43 : decode cX8_trace 43 = .ok (.invokespecial 135, 3) := by decide +kernel
theorem dX8_trace_46 : decode cX8_trace 46 = .ok (.athrow, 1) := by decide +kernel
theorem dX8_trace_47 : decode cX8_trace 47 = .ok (.aload_n 0, 1) := by decide +kernel
theorem dX8_trace_48 : decode cX8_trace 48 = .ok (.getfield 10, 3) := by decide +kernel
theorem dX8_trace_51 : decode cX8_trace 51 = .ok (.getfield 113, 3) := by decide +kernel
theorem dX8_trace_54 : decode cX8_trace 54 = .ok (.iload_n 1, 1) := by decide +kernel
theorem dX8_trace_55 : decode cX8_trace 55 = .ok (.iload_n 2, 1) := by decide +kernel
theorem dX8_trace_56 : decode cX8_trace 56 = .ok (.invokevirtual 226, 3) := by decide +kernel
theorem dX8_trace_59 : decode cX8_trace 59 = .ok (.ireturn, 1) := by decide +kernel
theorem dX8_whyStuck_0 : decode cX8_whyStuck 0 = .ok (.aload_n 0, 1) := by decide +kernel
theorem dX8_whyStuck_1 : decode cX8_whyStuck 1 = .ok (.getfield 10, 3) := by decide +kernel
theorem dX8_whyStuck_4 : decode cX8_whyStuck 4 = .ok (.aload_n 0, 1) := by decide +kernel
theorem dX8_whyStuck_5 : decode cX8_whyStuck 5 = .ok (.iload_n 1, 1) := by decide +kernel
theorem dX8_whyStuck_6 : decode cX8_whyStuck 6 = .ok (.invokevirtual 136, 3) := by decide +kernel
theorem dX8_whyStuck_9 : decode cX8_whyStuck 9 = .ok (.invokestatic 230, 3) := by decide +kernel
theorem dX8_whyStuck_12 : decode cX8_whyStuck 12 = .ok (.ireturn, 1) := by decide +kernel
theorem dX8_stuck_0 : decode cX8_stuck 0 = .ok (.aload_n 0, 1) := by decide +kernel
theorem dX8_stuck_1 : decode cX8_stuck 1 = .ok (.getfield 10, 3) := by decide +kernel
theorem dX8_stuck_4 : decode cX8_stuck 4 = .ok (.invokestatic 234, 3) := by decide +kernel
theorem dX8_stuck_7 : decode cX8_stuck 7 = .ok (.ireturn, 1) := by decide +kernel
theorem dX8_helpers_0 : decode cX8_helpers 0 = .ok (.aload_n 0, 1) := by decide +kernel
theorem dX8_helpers_1 : decode cX8_helpers 1 = .ok (.iload_n 1, 1) := by decide +kernel
theorem dX8_helpers_2 : decode cX8_helpers 2 = .ok (.invokevirtual 136, 3) := by decide +kernel
theorem dX8_helpers_5 : decode cX8_helpers 5 = .ok (.astore_n 2, 1) := by decide +kernel
theorem dX8_helpers_6 : decode cX8_helpers 6 = .ok (.aload_n 0, 1) := by decide +kernel
theorem dX8_helpers_7 : decode cX8_helpers 7 = .ok (.getfield 10, 3) := by decide +kernel
theorem dX8_helpers_10 : decode cX8_helpers 10 = .ok (.aload_n 2, 1) := by decide +kernel
theorem dX8_helpers_11 : decode cX8_helpers 11 = .ok (.invokestatic 230, 3) := by decide +kernel
theorem dX8_helpers_14 : decode cX8_helpers 14 = .ok (.istore_n 3, 1) := by decide +kernel
theorem dX8_helpers_15 : decode cX8_helpers 15 = .ok (.iload_n 3, 1) := by decide +kernel
theorem dX8_helpers_16 : decode cX8_helpers 16 = .ok (.ifCond .ne 5, 3) := by decide +kernel
theorem dX8_helpers_19 : decode cX8_helpers 19 = .ok (.iconst 0, 1) := by decide +kernel
theorem dX8_helpers_20 : decode cX8_helpers 20 = .ok (.ireturn, 1) := by decide +kernel
theorem dX8_helpers_21 : decode cX8_helpers 21 = .ok (.iload_n 3, 1) := by decide +kernel
theorem dX8_helpers_22 : decode cX8_helpers 22 = .ok (.iconst 2, 1) := by decide +kernel
theorem dX8_helpers_23 : decode cX8_helpers 23 = .ok (.if_icmp .ne 8, 3) := by decide +kernel
theorem dX8_helpers_26 : decode cX8_helpers 26 = .ok (.bipush 8, 2) := by decide +kernel
theorem dX8_helpers_28 : decode cX8_helpers 28 = .ok (.goto 5, 3) := by decide +kernel
theorem dX8_helpers_31 : decode cX8_helpers 31 = .ok (.bipush 9, 2) := by decide +kernel
theorem dX8_helpers_33 : decode cX8_helpers 33 = .ok (.istore 4, 2) := by decide +kernel
theorem dX8_helpers_35 : decode cX8_helpers 35 = .ok (.aload_n 2, 1) := by decide +kernel
theorem dX8_helpers_36 : decode cX8_helpers 36 = .ok (.aload_n 2, 1) := by decide +kernel
theorem dX8_helpers_37 : decode cX8_helpers 37 = .ok (.getfield 148, 3) := by decide +kernel
theorem dX8_helpers_40 : decode cX8_helpers 40 = .ok (.invokevirtual 214, 3) := by decide +kernel
theorem dX8_helpers_43 : decode cX8_helpers 43 = .ok (.istore 5, 2) := by decide +kernel
theorem dX8_helpers_45 : decode cX8_helpers 45 = .ok (.iconst 0, 1) := by decide +kernel
theorem dX8_helpers_46 : decode cX8_helpers 46 = .ok (.istore 6, 2) := by decide +kernel
theorem dX8_helpers_48 : decode cX8_helpers 48 = .ok (.iconst 0, 1) := by decide +kernel
theorem dX8_helpers_49 : decode cX8_helpers 49 = .ok (.istore 7, 2) := by decide +kernel
theorem dX8_helpers_51 : decode cX8_helpers 51 = .ok (.iload 7, 2) := by decide +kernel
theorem dX8_helpers_53 : decode cX8_helpers 53 = .ok (.aload_n 0, 1) := by decide +kernel
theorem dX8_helpers_54 : decode cX8_helpers 54 = .ok (.getfield 10, 3) := by decide +kernel
theorem dX8_helpers_57 : decode cX8_helpers 57 = .ok (.getfield 91, 3) := by decide +kernel
theorem dX8_helpers_60 : decode cX8_helpers 60 = .ok (.if_icmp .ge 70, 3) := by decide +kernel
theorem dX8_helpers_63 : decode cX8_helpers 63 = .ok (.aload_n 0, 1) := by decide +kernel
theorem dX8_helpers_64 : decode cX8_helpers 64 = .ok (.getfield 10, 3) := by decide +kernel
theorem dX8_helpers_67 : decode cX8_helpers 67 = .ok (.iload 7, 2) := by decide +kernel
theorem dX8_helpers_69 : decode cX8_helpers 69 = .ok (.invokevirtual 238, 3) := by decide +kernel
theorem dX8_helpers_72 : decode cX8_helpers 72 = .ok (.astore 8, 2) := by decide +kernel
theorem dX8_helpers_74 : decode cX8_helpers 74 = .ok (.iload 7, 2) := by decide +kernel
theorem dX8_helpers_76 : decode cX8_helpers 76 = .ok (.iload_n 1, 1) := by decide +kernel
theorem dX8_helpers_77 : decode cX8_helpers 77 = .ok (.if_icmp .eq 47, 3) := by decide +kernel
theorem dX8_helpers_80 : decode cX8_helpers 80 = .ok (.aload 8, 2) := by decide +kernel
theorem dX8_helpers_82 : decode cX8_helpers 82 = .ok (.ifnull 42, 3) := by decide +kernel
theorem dX8_helpers_85 : decode cX8_helpers 85 = .ok (.aload 8, 2) := by decide +kernel
theorem dX8_helpers_87 : decode cX8_helpers 87 = .ok (.getfield 140, 3) := by decide +kernel
theorem dX8_helpers_90 : decode cX8_helpers 90 = .ok (.ifCond .ne 34, 3) := by decide +kernel
theorem dX8_helpers_93 : decode cX8_helpers 93 = .ok (.aload 8, 2) := by decide +kernel
theorem dX8_helpers_95 : decode cX8_helpers 95 = .ok (.iload 5, 2) := by decide +kernel
theorem dX8_helpers_97 : decode cX8_helpers 97 = .ok (.invokevirtual 241, 3) := by decide +kernel
theorem dX8_helpers_100 : decode cX8_helpers 100 = .ok (.ifCond .eq 24, 3) := by decide +kernel
theorem dX8_helpers_103 : decode cX8_helpers 103 = .ok (.aload 8, 2) := by decide +kernel
theorem dX8_helpers_105 : decode cX8_helpers 105 = .ok (.iload 4, 2) := by decide +kernel
theorem dX8_helpers_107 : decode cX8_helpers 107 = .ok (.iload 5, 2) := by decide +kernel
theorem dX8_helpers_109 : decode cX8_helpers 109 = .ok (.invokevirtual 245, 3) := by decide +kernel
theorem dX8_helpers_112 : decode cX8_helpers 112 = .ok (.ifCond .eq 12, 3) := by decide +kernel
theorem dX8_helpers_115 : decode cX8_helpers 115 = .ok (.iload 6, 2) := by decide +kernel
theorem dX8_helpers_117 : decode cX8_helpers 117 = .ok (.iconst 1, 1) := by decide +kernel
theorem dX8_helpers_118 : decode cX8_helpers 118 = .ok (.iload 7, 2) := by decide +kernel
theorem dX8_helpers_120 : decode cX8_helpers 120 = .ok (.ishl, 1) := by decide +kernel
theorem dX8_helpers_121 : decode cX8_helpers 121 = .ok (.ior, 1) := by decide +kernel
theorem dX8_helpers_122 : decode cX8_helpers 122 = .ok (.istore 6, 2) := by decide +kernel
theorem dX8_helpers_124 : decode cX8_helpers 124 = .ok (.iinc 7 1, 3) := by decide +kernel
theorem dX8_helpers_127 : decode cX8_helpers 127 = .ok (.goto (-76), 3) := by decide +kernel
theorem dX8_helpers_130 : decode cX8_helpers 130 = .ok (.iload 6, 2) := by decide +kernel
theorem dX8_helpers_132 : decode cX8_helpers 132 = .ok (.ireturn, 1) := by decide +kernel
theorem dX8_unfair_0 : decode cX8_unfair 0 = .ok (.aload_n 0, 1) := by decide +kernel
theorem dX8_unfair_1 : decode cX8_unfair 1 = .ok (.getfield 10, 3) := by decide +kernel
theorem dX8_unfair_4 : decode cX8_unfair 4 = .ok (.invokevirtual 249, 3) := by decide +kernel
theorem dX8_unfair_7 : decode cX8_unfair 7 = .ok (.ireturn, 1) := by decide +kernel
theorem dX8_hungriest_0 : decode cX8_hungriest 0 = .ok (.iconst (-1), 1) := by decide +kernel
theorem dX8_hungriest_1 : decode cX8_hungriest 1 = .ok (.istore_n 1, 1) := by decide +kernel
theorem dX8_hungriest_2 : decode cX8_hungriest 2 = .ok (.iconst 0, 1) := by decide +kernel
theorem dX8_hungriest_3 : decode cX8_hungriest 3 = .ok (.istore_n 2, 1) := by decide +kernel
theorem dX8_hungriest_4 : decode cX8_hungriest 4 = .ok (.iconst 0, 1) := by decide +kernel
theorem dX8_hungriest_5 : decode cX8_hungriest 5 = .ok (.istore_n 3, 1) := by decide +kernel
theorem dX8_hungriest_6 : decode cX8_hungriest 6 = .ok (.iload_n 3, 1) := by decide +kernel
theorem dX8_hungriest_7 : decode cX8_hungriest 7 = .ok (.aload_n 0, 1) := by decide +kernel
theorem dX8_hungriest_8 : decode cX8_hungriest 8 = .ok (.getfield 10, 3) := by decide +kernel
theorem dX8_hungriest_11 : decode cX8_hungriest 11 = .ok (.getfield 91, 3) := by decide +kernel
theorem dX8_hungriest_14 : decode cX8_hungriest 14 = .ok (.if_icmp .ge 54, 3) := by decide +kernel
theorem dX8_hungriest_17 : decode cX8_hungriest 17 = .ok (.aload_n 0, 1) := by decide +kernel
theorem dX8_hungriest_18 : decode cX8_hungriest 18 = .ok (.getfield 10, 3) := by decide +kernel
theorem dX8_hungriest_21 : decode cX8_hungriest 21 = .ok (.iload_n 3, 1) := by decide +kernel
theorem dX8_hungriest_22 : decode cX8_hungriest 22 = .ok (.invokevirtual 238, 3) := by decide +kernel
theorem dX8_hungriest_25 : decode cX8_hungriest 25 = .ok (.astore 4, 2) := by decide +kernel
theorem dX8_hungriest_27 : decode cX8_hungriest 27 = .ok (.aload 4, 2) := by decide +kernel
theorem dX8_hungriest_29 : decode cX8_hungriest 29 = .ok (.ifnull 33, 3) := by decide +kernel
theorem dX8_hungriest_32 : decode cX8_hungriest 32 = .ok (.aload 4, 2) := by decide +kernel
theorem dX8_hungriest_34 : decode cX8_hungriest 34 = .ok (.getfield 140, 3) := by decide +kernel
theorem dX8_hungriest_37 : decode cX8_hungriest 37 = .ok (.ifCond .ne 25, 3) := by decide +kernel
theorem dX8_hungriest_40 : decode cX8_hungriest 40 = .ok (.iload_n 1, 1) := by decide +kernel
theorem dX8_hungriest_41 : decode cX8_hungriest 41 = .ok (.iconst (-1), 1) := by decide +kernel
theorem dX8_hungriest_42 : decode cX8_hungriest 42 = .ok (.if_icmp .eq 12, 3) := by decide +kernel
theorem dX8_hungriest_45 : decode cX8_hungriest 45 = .ok (.aload 4, 2) := by decide +kernel
theorem dX8_hungriest_47 : decode cX8_hungriest 47 = .ok (.getfield 164, 3) := by decide +kernel
theorem dX8_hungriest_50 : decode cX8_hungriest 50 = .ok (.iload_n 2, 1) := by decide +kernel
theorem dX8_hungriest_51 : decode cX8_hungriest 51 = .ok (.if_icmp .ge 11, 3) := by decide +kernel
theorem dX8_hungriest_54 : decode cX8_hungriest 54 = .ok (.iload_n 3, 1) := by decide +kernel
theorem dX8_hungriest_55 : decode cX8_hungriest 55 = .ok (.istore_n 1, 1) := by decide +kernel
theorem dX8_hungriest_56 : decode cX8_hungriest 56 = .ok (.aload 4, 2) := by decide +kernel
theorem dX8_hungriest_58 : decode cX8_hungriest 58 = .ok (.getfield 164, 3) := by decide +kernel
theorem dX8_hungriest_61 : decode cX8_hungriest 61 = .ok (.istore_n 2, 1) := by decide +kernel
theorem dX8_hungriest_62 : decode cX8_hungriest 62 = .ok (.iinc 3 1, 3) := by decide +kernel
theorem dX8_hungriest_65 : decode cX8_hungriest 65 = .ok (.goto (-59), 3) := by decide +kernel
theorem dX8_hungriest_68 : decode cX8_hungriest 68 = .ok (.iload_n 1, 1) := by decide +kernel
theorem dX8_hungriest_69 : decode cX8_hungriest 69 = .ok (.ireturn, 1) := by decide +kernel
theorem dX8_waitShare_0 : decode cX8_waitShare 0 = .ok (.aload_n 0, 1) := by decide +kernel
theorem dX8_waitShare_1 : decode cX8_waitShare 1 = .ok (.getfield 10, 3) := by decide +kernel
theorem dX8_waitShare_4 : decode cX8_waitShare 4 = .ok (.invokevirtual 252, 3) := by decide +kernel
theorem dX8_waitShare_7 : decode cX8_waitShare 7 = .ok (.istore_n 1, 1) := by decide +kernel
theorem dX8_waitShare_8 : decode cX8_waitShare 8 = .ok (.aload_n 0, 1) := by decide +kernel
theorem dX8_waitShare_9 : decode cX8_waitShare 9 = .ok (.getfield 10, 3) := by decide +kernel
theorem dX8_waitShare_12 : decode cX8_waitShare 12 = .ok (.invokevirtual 109, 3) := by decide +kernel
theorem dX8_waitShare_15 : decode cX8_waitShare 15 = .ok (.iload_n 1, 1) := by decide +kernel
theorem dX8_waitShare_16 : decode cX8_waitShare 16 = .ok (.iadd, 1) := by decide +kernel
theorem dX8_waitShare_17 : decode cX8_waitShare 17 = .ok (.istore_n 2, 1) := by decide +kernel
theorem dX8_waitShare_18 : decode cX8_waitShare 18 = .ok (.iload_n 2, 1) := by decide +kernel
theorem dX8_waitShare_19 : decode cX8_waitShare 19 = .ok (.ifCond .gt 5, 3) := by decide +kernel
theorem dX8_waitShare_22 : decode cX8_waitShare 22 = .ok (.dconst 0, 1) := by decide +kernel
theorem dX8_waitShare_23 : decode cX8_waitShare 23 = .ok (.dreturn, 1) := by decide +kernel
theorem dX8_waitShare_24 : decode cX8_waitShare 24 = .ok (.iload_n 1, 1) := by decide +kernel
theorem dX8_waitShare_25 : decode cX8_waitShare 25 = .ok (.i2d, 1) := by decide +kernel
theorem dX8_waitShare_26 : decode cX8_waitShare 26 = .ok (.iload_n 2, 1) := by decide +kernel
theorem dX8_waitShare_27 : decode cX8_waitShare 27 = .ok (.i2d, 1) := by decide +kernel
theorem dX8_waitShare_28 : decode cX8_waitShare 28 = .ok (.ddiv, 1) := by decide +kernel
theorem dX8_waitShare_29 : decode cX8_waitShare 29 = .ok (.dreturn, 1) := by decide +kernel
theorem dX8_fullness_0 : decode cX8_fullness 0 = .ok (.fconst 0, 1) := by decide +kernel
theorem dX8_fullness_1 : decode cX8_fullness 1 = .ok (.fstore_n 1, 1) := by decide +kernel
theorem dX8_fullness_2 : decode cX8_fullness 2 = .ok (.iconst 0, 1) := by decide +kernel
theorem dX8_fullness_3 : decode cX8_fullness 3 = .ok (.istore_n 2, 1) := by decide +kernel
theorem dX8_fullness_4 : decode cX8_fullness 4 = .ok (.iload_n 2, 1) := by decide +kernel
theorem dX8_fullness_5 : decode cX8_fullness 5 = .ok (.aload_n 0, 1) := by decide +kernel
theorem dX8_fullness_6 : decode cX8_fullness 6 = .ok (.getfield 10, 3) := by decide +kernel
theorem dX8_fullness_9 : decode cX8_fullness 9 = .ok (.getfield 100, 3) := by decide +kernel
theorem dX8_fullness_12 : decode cX8_fullness 12 = .ok (.if_icmp .ge 43, 3) := by decide +kernel
theorem dX8_fullness_15 : decode cX8_fullness 15 = .ok (.aload_n 0, 1) := by decide +kernel
theorem dX8_fullness_16 : decode cX8_fullness 16 = .ok (.getfield 10, 3) := by decide +kernel
theorem dX8_fullness_19 : decode cX8_fullness 19 = .ok (.iload_n 2, 1) := by decide +kernel
theorem dX8_fullness_20 : decode cX8_fullness 20 = .ok (.invokevirtual 255, 3) := by decide +kernel
theorem dX8_fullness_23 : decode cX8_fullness 23 = .ok (.astore_n 3, 1) := by decide +kernel
theorem dX8_fullness_24 : decode cX8_fullness 24 = .ok (.aload_n 3, 1) := by decide +kernel
theorem dX8_fullness_25 : decode cX8_fullness 25 = .ok (.ifnull 24, 3) := by decide +kernel
theorem dX8_fullness_28 : decode cX8_fullness 28 = .ok (.aload_n 3, 1) := by decide +kernel
theorem dX8_fullness_29 : decode cX8_fullness 29 = .ok (.getfield 179, 3) := by decide +kernel
theorem dX8_fullness_32 : decode cX8_fullness 32 = .ok (.ifCond .le 17, 3) := by decide +kernel
theorem dX8_fullness_35 : decode cX8_fullness 35 = .ok (.fload_n 1, 1) := by decide +kernel
theorem dX8_fullness_36 : decode cX8_fullness 36 = .ok (.aload_n 3, 1) := by decide +kernel
theorem dX8_fullness_37 : decode cX8_fullness 37 = .ok (.getfield 184, 3) := by decide +kernel
theorem dX8_fullness_40 : decode cX8_fullness 40 = .ok (.i2f, 1) := by decide +kernel
theorem dX8_fullness_41 : decode cX8_fullness 41 = .ok (.aload_n 3, 1) := by decide +kernel
theorem dX8_fullness_42 : decode cX8_fullness 42 = .ok (.getfield 179, 3) := by decide +kernel
theorem dX8_fullness_45 : decode cX8_fullness 45 = .ok (.i2f, 1) := by decide +kernel
theorem dX8_fullness_46 : decode cX8_fullness 46 = .ok (.fdiv, 1) := by decide +kernel
theorem dX8_fullness_47 : decode cX8_fullness 47 = .ok (.fadd, 1) := by decide +kernel
theorem dX8_fullness_48 : decode cX8_fullness 48 = .ok (.fstore_n 1, 1) := by decide +kernel
theorem dX8_fullness_49 : decode cX8_fullness 49 = .ok (.iinc 2 1, 3) := by decide +kernel
theorem dX8_fullness_52 : decode cX8_fullness 52 = .ok (.goto (-48), 3) := by decide +kernel
theorem dX8_fullness_55 : decode cX8_fullness 55 = .ok (.aload_n 0, 1) := by decide +kernel
theorem dX8_fullness_56 : decode cX8_fullness 56 = .ok (.getfield 10, 3) := by decide +kernel
theorem dX8_fullness_59 : decode cX8_fullness 59 = .ok (.getfield 100, 3) := by decide +kernel
theorem dX8_fullness_62 : decode cX8_fullness 62 = .ok (.ifCond .gt 5, 3) := by decide +kernel
theorem dX8_fullness_65 : decode cX8_fullness 65 = .ok (.fconst 0, 1) := by decide +kernel
theorem dX8_fullness_66 : decode cX8_fullness 66 = .ok (.freturn, 1) := by decide +kernel
theorem dX8_fullness_67 : decode cX8_fullness 67 = .ok (.fload_n 1, 1) := by decide +kernel
theorem dX8_fullness_68 : decode cX8_fullness 68 = .ok (.aload_n 0, 1) := by decide +kernel
theorem dX8_fullness_69 : decode cX8_fullness 69 = .ok (.getfield 10, 3) := by decide +kernel
theorem dX8_fullness_72 : decode cX8_fullness 72 = .ok (.getfield 100, 3) := by decide +kernel
theorem dX8_fullness_75 : decode cX8_fullness 75 = .ok (.i2f, 1) := by decide +kernel
theorem dX8_fullness_76 : decode cX8_fullness 76 = .ok (.fdiv, 1) := by decide +kernel
theorem dX8_fullness_77 : decode cX8_fullness 77 = .ok (.freturn, 1) := by decide +kernel
theorem dX8_turnsLeft_0 : decode cX8_turnsLeft 0 = .ok (.aload_n 0, 1) := by decide +kernel
theorem dX8_turnsLeft_1 : decode cX8_turnsLeft 1 = .ok (.getfield 26, 3) := by decide +kernel
theorem dX8_turnsLeft_4 : decode cX8_turnsLeft 4 = .ok (.aload_n 0, 1) := by decide +kernel
theorem dX8_turnsLeft_5 : decode cX8_turnsLeft 5 = .ok (.getfield 10, 3) := by decide +kernel
theorem dX8_turnsLeft_8 : decode cX8_turnsLeft 8 = .ok (.invokevirtual 88, 3) := by decide +kernel
theorem dX8_turnsLeft_11 : decode cX8_turnsLeft 11 = .ok (.aload_n 0, 1) := by decide +kernel
theorem dX8_turnsLeft_12 : decode cX8_turnsLeft 12 = .ok (.getfield 26, 3) := by decide +kernel
theorem dX8_turnsLeft_15 : decode cX8_turnsLeft 15 = .ok (.sipush 300, 3) := by decide +kernel
theorem dX8_turnsLeft_18 : decode cX8_turnsLeft 18 = .ok (.invokestatic 258, 3) := by decide +kernel
theorem dX8_turnsLeft_21 : decode cX8_turnsLeft 21 = .ok (.istore_n 1, 1) := by decide +kernel
theorem dX8_turnsLeft_22 : decode cX8_turnsLeft 22 = .ok (.aload_n 0, 1) := by decide +kernel
theorem dX8_turnsLeft_23 : decode cX8_turnsLeft 23 = .ok (.getfield 26, 3) := by decide +kernel
theorem dX8_turnsLeft_26 : decode cX8_turnsLeft 26 = .ok (.invokestatic 125, 3) := by decide +kernel
theorem dX8_turnsLeft_29 : decode cX8_turnsLeft 29 = .ok (.ifCond .eq 7, 3) := by decide +kernel
theorem dX8_turnsLeft_32 : decode cX8_turnsLeft 32 = .ok (.iload_n 1, 1) := by decide +kernel
theorem dX8_turnsLeft_33 : decode cX8_turnsLeft 33 = .ok (.goto 4, 3) := by decide +kernel
theorem dX8_turnsLeft_36 : decode cX8_turnsLeft 36 = .ok (.iconst (-1), 1) := by decide +kernel
theorem dX8_turnsLeft_37 : decode cX8_turnsLeft 37 = .ok (.ireturn, 1) := by decide +kernel
theorem dX8_wouldSay_0 : decode cX8_wouldSay 0 = .ok (.aload_n 0, 1) := by decide +kernel
theorem dX8_wouldSay_1 : decode cX8_wouldSay 1 = .ok (.iload_n 1, 1) := by decide +kernel
theorem dX8_wouldSay_2 : decode cX8_wouldSay 2 = .ok (.invokevirtual 136, 3) := by decide +kernel
theorem dX8_wouldSay_5 : decode cX8_wouldSay 5 = .ok (.pop, 1) := by decide +kernel
theorem dX8_wouldSay_6 : decode cX8_wouldSay 6 = .ok (.iload_n 2, 1) := by decide +kernel
theorem dX8_wouldSay_7 : decode cX8_wouldSay 7 = .ok (.ifCond .lt 10, 3) := by decide +kernel
theorem dX8_wouldSay_10 : decode cX8_wouldSay 10 = .ok (.iload_n 2, 1) := by decide +kernel
theorem dX8_wouldSay_11 : decode cX8_wouldSay 11 = .ok (.sipush 300, 3) := by decide +kernel
theorem dX8_wouldSay_14 : decode cX8_wouldSay 14 = .ok (.if_icmp .le 14, 3) := by decide +kernel
theorem dX8_wouldSay_17 : decode cX8_wouldSay 17 = .ok (.new 131, 3) := by decide +kernel
theorem dX8_wouldSay_20 : decode cX8_wouldSay 20 = .ok (.dup, 1) := by decide +kernel
theorem dX8_wouldSay_21 : decode cX8_wouldSay 21 = .ok (.ldc_w 262, 3) := by decide +kernel
theorem dX8_wouldSay_24 : decode cX8_wouldSay 24 = .ok (.invokespecial 135, 3) := by decide +kernel
theorem dX8_wouldSay_27 : decode cX8_wouldSay 27 = .ok (.athrow, 1) := by decide +kernel
theorem dX8_wouldSay_28 : decode cX8_wouldSay 28 = .ok (.aload_n 0, 1) := by decide +kernel
theorem dX8_wouldSay_29 : decode cX8_wouldSay 29 = .ok (.getfield 26, 3) := by decide +kernel
theorem dX8_wouldSay_32 : decode cX8_wouldSay 32 = .ok (.aload_n 0, 1) := by decide +kernel
theorem dX8_wouldSay_33 : decode cX8_wouldSay 33 = .ok (.getfield 10, 3) := by decide +kernel
theorem dX8_wouldSay_36 : decode cX8_wouldSay 36 = .ok (.invokevirtual 88, 3) := by decide +kernel
theorem dX8_wouldSay_39 : decode cX8_wouldSay 39 = .ok (.aload_n 0, 1) := by decide +kernel
theorem dX8_wouldSay_40 : decode cX8_wouldSay 40 = .ok (.getfield 26, 3) := by decide +kernel
theorem dX8_wouldSay_43 : decode cX8_wouldSay 43 = .ok (.iload_n 2, 1) := by decide +kernel
theorem dX8_wouldSay_44 : decode cX8_wouldSay 44 = .ok (.invokestatic 258, 3) := by decide +kernel
theorem dX8_wouldSay_47 : decode cX8_wouldSay 47 = .ok (.pop, 1) := by decide +kernel
theorem dX8_wouldSay_48 : decode cX8_wouldSay 48 = .ok (.aload_n 0, 1) := by decide +kernel
theorem dX8_wouldSay_49 : decode cX8_wouldSay 49 = .ok (.getfield 26, 3) := by decide +kernel
theorem dX8_wouldSay_52 : decode cX8_wouldSay 52 = .ok (.iload_n 1, 1) := by decide +kernel
theorem dX8_wouldSay_53 : decode cX8_wouldSay 53 = .ok (.invokevirtual 238, 3) := by decide +kernel
theorem dX8_wouldSay_56 : decode cX8_wouldSay 56 = .ok (.astore_n 3, 1) := by decide +kernel
theorem dX8_wouldSay_57 : decode cX8_wouldSay 57 = .ok (.aload_n 3, 1) := by decide +kernel
theorem dX8_wouldSay_58 : decode cX8_wouldSay 58 = .ok (.ifnonnull 9, 3) := by decide +kernel
theorem dX8_wouldSay_61 : decode cX8_wouldSay 61 = .ok (.ldc_w 264, 3) := by decide +kernel
theorem dX8_wouldSay_64 : decode cX8_wouldSay 64 = .ok (.goto 8, 3) := by decide +kernel
theorem dX8_wouldSay_67 : decode cX8_wouldSay 67 = .ok (.aload_n 3, 1) := by decide +kernel
theorem dX8_wouldSay_68 : decode cX8_wouldSay 68 = .ok (.iconst 0, 1) := by decide +kernel
theorem dX8_wouldSay_69 : decode cX8_wouldSay 69 = .ok (.invokevirtual 219, 3) := by decide +kernel
theorem dX8_wouldSay_72 : decode cX8_wouldSay 72 = .ok (.ireturn, 1) := by decide +kernel
theorem dX8_wouldFail_0 : decode cX8_wouldFail 0 = .ok (.aload_n 0, 1) := by decide +kernel
theorem dX8_wouldFail_1 : decode cX8_wouldFail 1 = .ok (.iload_n 1, 1) := by decide +kernel
theorem dX8_wouldFail_2 : decode cX8_wouldFail 2 = .ok (.invokevirtual 136, 3) := by decide +kernel
theorem dX8_wouldFail_5 : decode cX8_wouldFail 5 = .ok (.pop, 1) := by decide +kernel
theorem dX8_wouldFail_6 : decode cX8_wouldFail 6 = .ok (.aload_n 0, 1) := by decide +kernel
theorem dX8_wouldFail_7 : decode cX8_wouldFail 7 = .ok (.getfield 26, 3) := by decide +kernel
theorem dX8_wouldFail_10 : decode cX8_wouldFail 10 = .ok (.aload_n 0, 1) := by decide +kernel
theorem dX8_wouldFail_11 : decode cX8_wouldFail 11 = .ok (.getfield 10, 3) := by decide +kernel
theorem dX8_wouldFail_14 : decode cX8_wouldFail 14 = .ok (.invokevirtual 88, 3) := by decide +kernel
theorem dX8_wouldFail_17 : decode cX8_wouldFail 17 = .ok (.aload_n 0, 1) := by decide +kernel
theorem dX8_wouldFail_18 : decode cX8_wouldFail 18 = .ok (.getfield 26, 3) := by decide +kernel
theorem dX8_wouldFail_21 : decode cX8_wouldFail 21 = .ok (.sipush 300, 3) := by decide +kernel
theorem dX8_wouldFail_24 : decode cX8_wouldFail 24 = .ok (.invokestatic 258, 3) := by decide +kernel
theorem dX8_wouldFail_27 : decode cX8_wouldFail 27 = .ok (.pop, 1) := by decide +kernel
theorem dX8_wouldFail_28 : decode cX8_wouldFail 28 = .ok (.aload_n 0, 1) := by decide +kernel
theorem dX8_wouldFail_29 : decode cX8_wouldFail 29 = .ok (.getfield 26, 3) := by decide +kernel
theorem dX8_wouldFail_32 : decode cX8_wouldFail 32 = .ok (.iload_n 1, 1) := by decide +kernel
theorem dX8_wouldFail_33 : decode cX8_wouldFail 33 = .ok (.invokevirtual 238, 3) := by decide +kernel
theorem dX8_wouldFail_36 : decode cX8_wouldFail 36 = .ok (.astore_n 2, 1) := by decide +kernel
theorem dX8_wouldFail_37 : decode cX8_wouldFail 37 = .ok (.aload_n 2, 1) := by decide +kernel
theorem dX8_wouldFail_38 : decode cX8_wouldFail 38 = .ok (.ifnonnull 7, 3) := by decide +kernel
theorem dX8_wouldFail_41 : decode cX8_wouldFail 41 = .ok (.iconst 0, 1) := by decide +kernel
theorem dX8_wouldFail_42 : decode cX8_wouldFail 42 = .ok (.goto 7, 3) := by decide +kernel
theorem dX8_wouldFail_45 : decode cX8_wouldFail 45 = .ok (.aload_n 2, 1) := by decide +kernel
theorem dX8_wouldFail_46 : decode cX8_wouldFail 46 = .ok (.getfield 145, 3) := by decide +kernel
theorem dX8_wouldFail_49 : decode cX8_wouldFail 49 = .ok (.ireturn, 1) := by decide +kernel
theorem dX8_fairest_0 : decode cX8_fairest 0 = .ok (.iconst (-1), 1) := by decide +kernel
theorem dX8_fairest_1 : decode cX8_fairest 1 = .ok (.istore_n 1, 1) := by decide +kernel
theorem dX8_fairest_2 : decode cX8_fairest 2 = .ok (.iconst 0, 1) := by decide +kernel
theorem dX8_fairest_3 : decode cX8_fairest 3 = .ok (.istore_n 2, 1) := by decide +kernel
theorem dX8_fairest_4 : decode cX8_fairest 4 = .ok (.iconst 1, 1) := by decide +kernel
theorem dX8_fairest_5 : decode cX8_fairest 5 = .ok (.istore_n 3, 1) := by decide +kernel
theorem dX8_fairest_6 : decode cX8_fairest 6 = .ok (.iload_n 3, 1) := by decide +kernel
theorem dX8_fairest_7 : decode cX8_fairest 7 = .ok (.bipush 9, 2) := by decide +kernel
theorem dX8_fairest_9 : decode cX8_fairest 9 = .ok (.if_icmp .gt 49, 3) := by decide +kernel
theorem dX8_fairest_12 : decode cX8_fairest 12 = .ok (.aload_n 0, 1) := by decide +kernel
theorem dX8_fairest_13 : decode cX8_fairest 13 = .ok (.iload_n 3, 1) := by decide +kernel
theorem dX8_fairest_14 : decode cX8_fairest 14 = .ok (.invokevirtual 265, 3) := by decide +kernel
theorem dX8_fairest_17 : decode cX8_fairest 17 = .ok (.aload_n 0, 1) := by decide +kernel
theorem dX8_fairest_18 : decode cX8_fairest 18 = .ok (.getfield 26, 3) := by decide +kernel
theorem dX8_fairest_21 : decode cX8_fairest 21 = .ok (.bipush 60, 2) := by decide +kernel
theorem dX8_fairest_23 : decode cX8_fairest 23 = .ok (.invokestatic 258, 3) := by decide +kernel
theorem dX8_fairest_26 : decode cX8_fairest 26 = .ok (.pop, 1) := by decide +kernel
theorem dX8_fairest_27 : decode cX8_fairest 27 = .ok (.aload_n 0, 1) := by decide +kernel
theorem dX8_fairest_28 : decode cX8_fairest 28 = .ok (.getfield 26, 3) := by decide +kernel
theorem dX8_fairest_31 : decode cX8_fairest 31 = .ok (.invokevirtual 249, 3) := by decide +kernel
theorem dX8_fairest_34 : decode cX8_fairest 34 = .ok (.istore 4, 2) := by decide +kernel
theorem dX8_fairest_36 : decode cX8_fairest 36 = .ok (.iload_n 1, 1) := by decide +kernel
theorem dX8_fairest_37 : decode cX8_fairest 37 = .ok (.iconst (-1), 1) := by decide +kernel
theorem dX8_fairest_38 : decode cX8_fairest 38 = .ok (.if_icmp .eq 9, 3) := by decide +kernel
theorem dX8_fairest_41 : decode cX8_fairest 41 = .ok (.iload 4, 2) := by decide +kernel
theorem dX8_fairest_43 : decode cX8_fairest 43 = .ok (.iload_n 2, 1) := by decide +kernel
theorem dX8_fairest_44 : decode cX8_fairest 44 = .ok (.if_icmp .ge 8, 3) := by decide +kernel
theorem dX8_fairest_47 : decode cX8_fairest 47 = .ok (.iload_n 3, 1) := by decide +kernel
theorem dX8_fairest_48 : decode cX8_fairest 48 = .ok (.istore_n 1, 1) := by decide +kernel
theorem dX8_fairest_49 : decode cX8_fairest 49 = .ok (.iload 4, 2) := by decide +kernel
theorem dX8_fairest_51 : decode cX8_fairest 51 = .ok (.istore_n 2, 1) := by decide +kernel
theorem dX8_fairest_52 : decode cX8_fairest 52 = .ok (.iinc 3 1, 3) := by decide +kernel
theorem dX8_fairest_55 : decode cX8_fairest 55 = .ok (.goto (-49), 3) := by decide +kernel
theorem dX8_fairest_58 : decode cX8_fairest 58 = .ok (.iload_n 1, 1) := by decide +kernel
theorem dX8_fairest_59 : decode cX8_fairest 59 = .ok (.ireturn, 1) := by decide +kernel
theorem dX8_bestSlot_0 : decode cX8_bestSlot 0 = .ok (.aload_n 0, 1) := by decide +kernel
theorem dX8_bestSlot_1 : decode cX8_bestSlot 1 = .ok (.iload_n 1, 1) := by decide +kernel
theorem dX8_bestSlot_2 : decode cX8_bestSlot 2 = .ok (.invokevirtual 136, 3) := by decide +kernel
theorem dX8_bestSlot_5 : decode cX8_bestSlot 5 = .ok (.astore_n 2, 1) := by decide +kernel
theorem dX8_bestSlot_6 : decode cX8_bestSlot 6 = .ok (.aload_n 0, 1) := by decide +kernel
theorem dX8_bestSlot_7 : decode cX8_bestSlot 7 = .ok (.getfield 26, 3) := by decide +kernel
theorem dX8_bestSlot_10 : decode cX8_bestSlot 10 = .ok (.aload_n 0, 1) := by decide +kernel
theorem dX8_bestSlot_11 : decode cX8_bestSlot 11 = .ok (.getfield 10, 3) := by decide +kernel
theorem dX8_bestSlot_14 : decode cX8_bestSlot 14 = .ok (.invokevirtual 88, 3) := by decide +kernel
theorem dX8_bestSlot_17 : decode cX8_bestSlot 17 = .ok (.aload_n 0, 1) := by decide +kernel
theorem dX8_bestSlot_18 : decode cX8_bestSlot 18 = .ok (.getfield 26, 3) := by decide +kernel
theorem dX8_bestSlot_21 : decode cX8_bestSlot 21 = .ok (.sipush 300, 3) := by decide +kernel
theorem dX8_bestSlot_24 : decode cX8_bestSlot 24 = .ok (.invokestatic 258, 3) := by decide +kernel
theorem dX8_bestSlot_27 : decode cX8_bestSlot 27 = .ok (.pop, 1) := by decide +kernel
theorem dX8_bestSlot_28 : decode cX8_bestSlot 28 = .ok (.iconst (-1), 1) := by decide +kernel
theorem dX8_bestSlot_29 : decode cX8_bestSlot 29 = .ok (.istore_n 3, 1) := by decide +kernel
theorem dX8_bestSlot_30 : decode cX8_bestSlot 30 = .ok (.aload_n 0, 1) := by decide +kernel
theorem dX8_bestSlot_31 : decode cX8_bestSlot 31 = .ok (.getfield 26, 3) := by decide +kernel
theorem dX8_bestSlot_34 : decode cX8_bestSlot 34 = .ok (.iconst 1, 1) := by decide +kernel
theorem dX8_bestSlot_35 : decode cX8_bestSlot 35 = .ok (.invokevirtual 106, 3) := by decide +kernel
theorem dX8_bestSlot_38 : decode cX8_bestSlot 38 = .ok (.istore 4, 2) := by decide +kernel
theorem dX8_bestSlot_40 : decode cX8_bestSlot 40 = .ok (.iconst 0, 1) := by decide +kernel
theorem dX8_bestSlot_41 : decode cX8_bestSlot 41 = .ok (.istore 5, 2) := by decide +kernel
theorem dX8_bestSlot_43 : decode cX8_bestSlot 43 = .ok (.iload 5, 2) := by decide +kernel
theorem dX8_bestSlot_45 : decode cX8_bestSlot 45 = .ok (.aload_n 0, 1) := by decide +kernel
theorem dX8_bestSlot_46 : decode cX8_bestSlot 46 = .ok (.getfield 10, 3) := by decide +kernel
theorem dX8_bestSlot_49 : decode cX8_bestSlot 49 = .ok (.getfield 97, 3) := by decide +kernel
theorem dX8_bestSlot_52 : decode cX8_bestSlot 52 = .ok (.if_icmp .ge 60, 3) := by decide +kernel
theorem dX8_bestSlot_55 : decode cX8_bestSlot 55 = .ok (.aload_n 2, 1) := by decide +kernel
theorem dX8_bestSlot_56 : decode cX8_bestSlot 56 = .ok (.iload 5, 2) := by decide +kernel
theorem dX8_bestSlot_58 : decode cX8_bestSlot 58 = .ok (.invokevirtual 241, 3) := by decide +kernel
theorem dX8_bestSlot_61 : decode cX8_bestSlot 61 = .ok (.ifCond .ne 45, 3) := by decide +kernel
theorem dX8_bestSlot_64 : decode cX8_bestSlot 64 = .ok (.aload_n 0, 1) := by decide +kernel
theorem dX8_bestSlot_65 : decode cX8_bestSlot 65 = .ok (.iload_n 1, 1) := by decide +kernel
theorem dX8_bestSlot_66 : decode cX8_bestSlot 66 = .ok (.iload 5, 2) := by decide +kernel
theorem dX8_bestSlot_68 : decode cX8_bestSlot 68 = .ok (.invokevirtual 268, 3) := by decide +kernel
theorem dX8_bestSlot_71 : decode cX8_bestSlot 71 = .ok (.aload_n 0, 1) := by decide +kernel
theorem dX8_bestSlot_72 : decode cX8_bestSlot 72 = .ok (.getfield 26, 3) := by decide +kernel
theorem dX8_bestSlot_75 : decode cX8_bestSlot 75 = .ok (.sipush 300, 3) := by decide +kernel
theorem dX8_bestSlot_78 : decode cX8_bestSlot 78 = .ok (.invokestatic 258, 3) := by decide +kernel
theorem dX8_bestSlot_81 : decode cX8_bestSlot 81 = .ok (.pop, 1) := by decide +kernel
theorem dX8_bestSlot_82 : decode cX8_bestSlot 82 = .ok (.aload_n 0, 1) := by decide +kernel
theorem dX8_bestSlot_83 : decode cX8_bestSlot 83 = .ok (.getfield 26, 3) := by decide +kernel
theorem dX8_bestSlot_86 : decode cX8_bestSlot 86 = .ok (.iconst 1, 1) := by decide +kernel
theorem dX8_bestSlot_87 : decode cX8_bestSlot 87 = .ok (.invokevirtual 106, 3) := by decide +kernel
theorem dX8_bestSlot_90 : decode cX8_bestSlot 90 = .ok (.istore 6, 2) := by decide +kernel
theorem dX8_bestSlot_92 : decode cX8_bestSlot 92 = .ok (.iload 6, 2) := by decide +kernel
theorem dX8_bestSlot_94 : decode cX8_bestSlot 94 = .ok (.iload 4, 2) := by decide +kernel
theorem dX8_bestSlot_96 : decode cX8_bestSlot 96 = .ok (.if_icmp .le 10, 3) := by decide +kernel
theorem dX8_bestSlot_99 : decode cX8_bestSlot 99 = .ok (.iload 5, 2) := by decide +kernel
theorem dX8_bestSlot_101 : decode cX8_bestSlot 101 = .ok (.istore_n 3, 1) := by decide +kernel
theorem dX8_bestSlot_102 : decode cX8_bestSlot 102 = .ok (.iload 6, 2) := by decide +kernel
theorem dX8_bestSlot_104 : decode cX8_bestSlot 104 = .ok (.istore 4, 2) := by decide +kernel
theorem dX8_bestSlot_106 : decode cX8_bestSlot 106 = .ok (.iinc 5 1, 3) := by decide +kernel
theorem dX8_bestSlot_109 : decode cX8_bestSlot 109 = .ok (.goto (-66), 3) := by decide +kernel
theorem dX8_bestSlot_112 : decode cX8_bestSlot 112 = .ok (.iload_n 3, 1) := by decide +kernel
theorem dX8_bestSlot_113 : decode cX8_bestSlot 113 = .ok (.ireturn, 1) := by decide +kernel
theorem dX8_run_0 : decode cX8_run 0 = .ok (.iload_n 1, 1) := by decide +kernel
theorem dX8_run_1 : decode cX8_run 1 = .ok (.iconst 1, 1) := by decide +kernel
theorem dX8_run_2 : decode cX8_run 2 = .ok (.if_icmp .lt 10, 3) := by decide +kernel
theorem dX8_run_5 : decode cX8_run 5 = .ok (.iload_n 1, 1) := by decide +kernel
theorem dX8_run_6 : decode cX8_run 6 = .ok (.sipush 300, 3) := by decide +kernel
theorem dX8_run_9 : decode cX8_run 9 = .ok (.if_icmp .le 14, 3) := by decide +kernel
theorem dX8_run_12 : decode cX8_run 12 = .ok (.new 131, 3) := by decide +kernel
theorem dX8_run_15 : decode cX8_run 15 = .ok (.dup, 1) := by decide +kernel
theorem dX8_run_16 : decode cX8_run 16 = .ok (.ldc_w 272, 3) := by decide +kernel
theorem dX8_run_19 : decode cX8_run 19 = .ok (.invokespecial 135, 3) := by decide +kernel
theorem dX8_run_22 : decode cX8_run 22 = .ok (.athrow, 1) := by decide +kernel
theorem dX8_run_23 : decode cX8_run 23 = .ok (.aload_n 0, 1) := by decide +kernel
theorem dX8_run_24 : decode cX8_run 24 = .ok (.getfield 32, 3) := by decide +kernel
theorem dX8_run_27 : decode cX8_run 27 = .ok (.aload_n 0, 1) := by decide +kernel
theorem dX8_run_28 : decode cX8_run 28 = .ok (.getfield 10, 3) := by decide +kernel
theorem dX8_run_31 : decode cX8_run 31 = .ok (.invokevirtual 83, 3) := by decide +kernel
theorem dX8_run_34 : decode cX8_run 34 = .ok (.aload_n 0, 1) := by decide +kernel
theorem dX8_run_35 : decode cX8_run 35 = .ok (.getfield 10, 3) := by decide +kernel
theorem dX8_run_38 : decode cX8_run 38 = .ok (.iload_n 1, 1) := by decide +kernel
theorem dX8_run_39 : decode cX8_run 39 = .ok (.invokestatic 258, 3) := by decide +kernel
theorem dX8_run_42 : decode cX8_run 42 = .ok (.ireturn, 1) := by decide +kernel
theorem dX8_allow_0 : decode cX8_allow 0 = .ok (.aload_n 0, 1) := by decide +kernel
theorem dX8_allow_1 : decode cX8_allow 1 = .ok (.iload_n 1, 1) := by decide +kernel
theorem dX8_allow_2 : decode cX8_allow 2 = .ok (.invokevirtual 136, 3) := by decide +kernel
theorem dX8_allow_5 : decode cX8_allow 5 = .ok (.astore 4, 2) := by decide +kernel
theorem dX8_allow_7 : decode cX8_allow 7 = .ok (.aload_n 0, 1) := by decide +kernel
theorem dX8_allow_8 : decode cX8_allow 8 = .ok (.iload_n 2, 1) := by decide +kernel
theorem dX8_allow_9 : decode cX8_allow 9 = .ok (.invokevirtual 200, 3) := by decide +kernel
theorem dX8_allow_12 : decode cX8_allow 12 = .ok (.aload_n 0, 1) := by decide +kernel
theorem dX8_allow_13 : decode cX8_allow 13 = .ok (.getfield 32, 3) := by decide +kernel
theorem dX8_allow_16 : decode cX8_allow 16 = .ok (.aload_n 0, 1) := by decide +kernel
theorem dX8_allow_17 : decode cX8_allow 17 = .ok (.getfield 10, 3) := by decide +kernel
theorem dX8_allow_20 : decode cX8_allow 20 = .ok (.invokevirtual 83, 3) := by decide +kernel
theorem dX8_allow_23 : decode cX8_allow 23 = .ok (.iconst 1, 1) := by decide +kernel
theorem dX8_allow_24 : decode cX8_allow 24 = .ok (.iload_n 2, 1) := by decide +kernel
theorem dX8_allow_25 : decode cX8_allow 25 = .ok (.ishl, 1) := by decide +kernel
theorem dX8_allow_26 : decode cX8_allow 26 = .ok (.istore 5, 2) := by decide +kernel
theorem dX8_allow_28 : decode cX8_allow 28 = .ok (.aload 4, 2) := by decide +kernel
theorem dX8_allow_30 : decode cX8_allow 30 = .ok (.iload_n 3, 1) := by decide +kernel
theorem dX8_allow_31 : decode cX8_allow 31 = .ok (.ifCond .eq 14, 3) := by decide +kernel
theorem dX8_allow_34 : decode cX8_allow 34 = .ok (.aload 4, 2) := by decide +kernel
theorem dX8_allow_36 : decode cX8_allow 36 = .ok (.getfield 160, 3) := by decide +kernel
theorem dX8_allow_39 : decode cX8_allow 39 = .ok (.iload 5, 2) := by decide +kernel
theorem dX8_allow_41 : decode cX8_allow 41 = .ok (.ior, 1) := by decide +kernel
theorem dX8_allow_42 : decode cX8_allow 42 = .ok (.goto 13, 3) := by decide +kernel
theorem dX8_allow_45 : decode cX8_allow 45 = .ok (.aload 4, 2) := by decide +kernel
theorem dX8_allow_47 : decode cX8_allow 47 = .ok (.getfield 160, 3) := by decide +kernel
theorem dX8_allow_50 : decode cX8_allow 50 = .ok (.iload 5, 2) := by decide +kernel
theorem dX8_allow_52 : decode cX8_allow 52 = .ok (.iconst (-1), 1) := by decide +kernel
theorem dX8_allow_53 : decode cX8_allow 53 = .ok (.ixor, 1) := by decide +kernel
theorem dX8_allow_54 : decode cX8_allow 54 = .ok (.iand, 1) := by decide +kernel
theorem dX8_allow_55 : decode cX8_allow 55 = .ok (.putfield 160, 3) := by decide +kernel
theorem dX8_allow_58 : decode cX8_allow 58 = .ok (.aload 4, 2) := by decide +kernel
theorem dX8_allow_60 : decode cX8_allow 60 = .ok (.getfield 160, 3) := by decide +kernel
theorem dX8_allow_63 : decode cX8_allow 63 = .ok (.ireturn, 1) := by decide +kernel
theorem dX8_setTurn_0 : decode cX8_setTurn 0 = .ok (.aload_n 0, 1) := by decide +kernel
theorem dX8_setTurn_1 : decode cX8_setTurn 1 = .ok (.iload_n 1, 1) := by decide +kernel
theorem dX8_setTurn_2 : decode cX8_setTurn 2 = .ok (.invokevirtual 136, 3) := by decide +kernel
theorem dX8_setTurn_5 : decode cX8_setTurn 5 = .ok (.astore_n 3, 1) := by decide +kernel
theorem dX8_setTurn_6 : decode cX8_setTurn 6 = .ok (.iload_n 2, 1) := by decide +kernel
theorem dX8_setTurn_7 : decode cX8_setTurn 7 = .ok (.iconst 1, 1) := by decide +kernel
theorem dX8_setTurn_8 : decode cX8_setTurn 8 = .ok (.if_icmp .lt 9, 3) := by decide +kernel
theorem dX8_setTurn_11 : decode cX8_setTurn 11 = .ok (.iload_n 2, 1) := by decide +kernel
theorem dX8_setTurn_12 : decode cX8_setTurn 12 = .ok (.bipush 9, 2) := by decide +kernel
theorem dX8_setTurn_14 : decode cX8_setTurn 14 = .ok (.if_icmp .le 14, 3) := by decide +kernel
theorem dX8_setTurn_17 : decode cX8_setTurn 17 = .ok (.new 131, 3) := by decide +kernel
theorem dX8_setTurn_20 : decode cX8_setTurn 20 = .ok (.dup, 1) := by decide +kernel
theorem dX8_setTurn_21 : decode cX8_setTurn 21 = .ok (.ldc_w 274, 3) := by decide +kernel
theorem dX8_setTurn_24 : decode cX8_setTurn 24 = .ok (.invokespecial 135, 3) := by decide +kernel
theorem dX8_setTurn_27 : decode cX8_setTurn 27 = .ok (.athrow, 1) := by decide +kernel
theorem dX8_setTurn_28 : decode cX8_setTurn 28 = .ok (.aload_n 0, 1) := by decide +kernel
theorem dX8_setTurn_29 : decode cX8_setTurn 29 = .ok (.getfield 32, 3) := by decide +kernel
theorem dX8_setTurn_32 : decode cX8_setTurn 32 = .ok (.aload_n 0, 1) := by decide +kernel
theorem dX8_setTurn_33 : decode cX8_setTurn 33 = .ok (.getfield 10, 3) := by decide +kernel
theorem dX8_setTurn_36 : decode cX8_setTurn 36 = .ok (.invokevirtual 83, 3) := by decide +kernel
theorem dX8_setTurn_39 : decode cX8_setTurn 39 = .ok (.aload_n 3, 1) := by decide +kernel
theorem dX8_setTurn_40 : decode cX8_setTurn 40 = .ok (.getfield 157, 3) := by decide +kernel
theorem dX8_setTurn_43 : decode cX8_setTurn 43 = .ok (.istore 4, 2) := by decide +kernel
theorem dX8_setTurn_45 : decode cX8_setTurn 45 = .ok (.aload_n 3, 1) := by decide +kernel
theorem dX8_setTurn_46 : decode cX8_setTurn 46 = .ok (.iload_n 2, 1) := by decide +kernel
theorem dX8_setTurn_47 : decode cX8_setTurn 47 = .ok (.putfield 157, 3) := by decide +kernel
theorem dX8_setTurn_50 : decode cX8_setTurn 50 = .ok (.iload 4, 2) := by decide +kernel
theorem dX8_setTurn_52 : decode cX8_setTurn 52 = .ok (.ireturn, 1) := by decide +kernel
theorem dX8_put_0 : decode cX8_put 0 = .ok (.aload_n 0, 1) := by decide +kernel
theorem dX8_put_1 : decode cX8_put 1 = .ok (.iload_n 1, 1) := by decide +kernel
theorem dX8_put_2 : decode cX8_put 2 = .ok (.invokevirtual 175, 3) := by decide +kernel
theorem dX8_put_5 : decode cX8_put 5 = .ok (.astore_n 3, 1) := by decide +kernel
theorem dX8_put_6 : decode cX8_put 6 = .ok (.iload_n 2, 1) := by decide +kernel
theorem dX8_put_7 : decode cX8_put 7 = .ok (.ldc_w 276, 3) := by decide +kernel
theorem dX8_put_10 : decode cX8_put 10 = .ok (.if_icmp .lt 10, 3) := by decide +kernel
theorem dX8_put_13 : decode cX8_put 13 = .ok (.iload_n 2, 1) := by decide +kernel
theorem dX8_put_14 : decode cX8_put 14 = .ok (.ldc_w 277, 3) := by decide +kernel
theorem dX8_put_17 : decode cX8_put 17 = .ok (.if_icmp .le 14, 3) := by decide +kernel
theorem dX8_put_20 : decode cX8_put 20 = .ok (.new 131, 3) := by decide +kernel
theorem dX8_put_23 : decode cX8_put 23 = .ok (.dup, 1) := by decide +kernel
theorem dX8_put_24 : decode cX8_put 24 = .ok (.ldc_w 278, 3) := by decide +kernel
theorem dX8_put_27 : decode cX8_put 27 = .ok (.invokespecial 135, 3) := by decide +kernel
theorem dX8_put_30 : decode cX8_put 30 = .ok (.athrow, 1) := by decide +kernel
theorem dX8_put_31 : decode cX8_put 31 = .ok (.aload_n 3, 1) := by decide +kernel
theorem dX8_put_32 : decode cX8_put 32 = .ok (.invokevirtual 280, 3) := by decide +kernel
theorem dX8_put_35 : decode cX8_put 35 = .ok (.ifCond .eq 6, 3) := by decide +kernel
theorem dX8_put_38 : decode cX8_put 38 = .ok (.bipush (-11), 2) := by decide +kernel
theorem dX8_put_40 : decode cX8_put 40 = .ok (.ireturn, 1) := by decide +kernel
theorem dX8_put_41 : decode cX8_put 41 = .ok (.aload_n 0, 1) := by decide +kernel
theorem dX8_put_42 : decode cX8_put 42 = .ok (.getfield 32, 3) := by decide +kernel
theorem dX8_put_45 : decode cX8_put 45 = .ok (.aload_n 0, 1) := by decide +kernel
theorem dX8_put_46 : decode cX8_put 46 = .ok (.getfield 10, 3) := by decide +kernel
theorem dX8_put_49 : decode cX8_put 49 = .ok (.invokevirtual 83, 3) := by decide +kernel
theorem dX8_put_52 : decode cX8_put 52 = .ok (.aload_n 3, 1) := by decide +kernel
theorem dX8_put_53 : decode cX8_put 53 = .ok (.iload_n 2, 1) := by decide +kernel
theorem dX8_put_54 : decode cX8_put 54 = .ok (.invokevirtual 283, 3) := by decide +kernel
theorem dX8_put_57 : decode cX8_put 57 = .ok (.aload_n 3, 1) := by decide +kernel
theorem dX8_put_58 : decode cX8_put 58 = .ok (.getfield 184, 3) := by decide +kernel
theorem dX8_put_61 : decode cX8_put 61 = .ok (.ireturn, 1) := by decide +kernel
theorem dX8_hand_0 : decode cX8_hand 0 = .ok (.aload_n 0, 1) := by decide +kernel
theorem dX8_hand_1 : decode cX8_hand 1 = .ok (.iload_n 1, 1) := by decide +kernel
theorem dX8_hand_2 : decode cX8_hand 2 = .ok (.invokevirtual 200, 3) := by decide +kernel
theorem dX8_hand_5 : decode cX8_hand 5 = .ok (.aload_n 0, 1) := by decide +kernel
theorem dX8_hand_6 : decode cX8_hand 6 = .ok (.iload_n 2, 1) := by decide +kernel
theorem dX8_hand_7 : decode cX8_hand 7 = .ok (.invokevirtual 136, 3) := by decide +kernel
theorem dX8_hand_10 : decode cX8_hand 10 = .ok (.astore_n 3, 1) := by decide +kernel
theorem dX8_hand_11 : decode cX8_hand 11 = .ok (.aload_n 0, 1) := by decide +kernel
theorem dX8_hand_12 : decode cX8_hand 12 = .ok (.getfield 10, 3) := by decide +kernel
theorem dX8_hand_15 : decode cX8_hand 15 = .ok (.iload_n 1, 1) := by decide +kernel
theorem dX8_hand_16 : decode cX8_hand 16 = .ok (.invokevirtual 203, 3) := by decide +kernel
theorem dX8_hand_19 : decode cX8_hand 19 = .ok (.istore 4, 2) := by decide +kernel
theorem dX8_hand_21 : decode cX8_hand 21 = .ok (.iload 4, 2) := by decide +kernel
theorem dX8_hand_23 : decode cX8_hand 23 = .ok (.iconst (-1), 1) := by decide +kernel
theorem dX8_hand_24 : decode cX8_hand 24 = .ok (.if_icmp .ne 6, 3) := by decide +kernel
theorem dX8_hand_27 : decode cX8_hand 27 = .ok (.bipush (-12), 2) := by decide +kernel
theorem dX8_hand_29 : decode cX8_hand 29 = .ok (.ireturn, 1) := by decide +kernel
theorem dX8_hand_30 : decode cX8_hand 30 = .ok (.aload_n 3, 1) := by decide +kernel
theorem dX8_hand_31 : decode cX8_hand 31 = .ok (.getfield 151, 3) := by decide +kernel
theorem dX8_hand_34 : decode cX8_hand 34 = .ok (.iconst (-1), 1) := by decide +kernel
theorem dX8_hand_35 : decode cX8_hand 35 = .ok (.if_icmp .eq 6, 3) := by decide +kernel
theorem dX8_hand_38 : decode cX8_hand 38 = .ok (.bipush (-13), 2) := by decide +kernel
theorem dX8_hand_40 : decode cX8_hand 40 = .ok (.ireturn, 1) := by decide +kernel
theorem dX8_hand_41 : decode cX8_hand 41 = .ok (.aload_n 0, 1) := by decide +kernel
theorem dX8_hand_42 : decode cX8_hand 42 = .ok (.getfield 32, 3) := by decide +kernel
theorem dX8_hand_45 : decode cX8_hand 45 = .ok (.aload_n 0, 1) := by decide +kernel
theorem dX8_hand_46 : decode cX8_hand 46 = .ok (.getfield 10, 3) := by decide +kernel
theorem dX8_hand_49 : decode cX8_hand 49 = .ok (.invokevirtual 83, 3) := by decide +kernel
theorem dX8_hand_52 : decode cX8_hand 52 = .ok (.aload_n 0, 1) := by decide +kernel
theorem dX8_hand_53 : decode cX8_hand 53 = .ok (.getfield 10, 3) := by decide +kernel
theorem dX8_hand_56 : decode cX8_hand 56 = .ok (.iload_n 1, 1) := by decide +kernel
theorem dX8_hand_57 : decode cX8_hand 57 = .ok (.iconst (-1), 1) := by decide +kernel
theorem dX8_hand_58 : decode cX8_hand 58 = .ok (.invokevirtual 286, 3) := by decide +kernel
theorem dX8_hand_61 : decode cX8_hand 61 = .ok (.aload_n 0, 1) := by decide +kernel
theorem dX8_hand_62 : decode cX8_hand 62 = .ok (.getfield 10, 3) := by decide +kernel
theorem dX8_hand_65 : decode cX8_hand 65 = .ok (.iload_n 2, 1) := by decide +kernel
theorem dX8_hand_66 : decode cX8_hand 66 = .ok (.iload 4, 2) := by decide +kernel
theorem dX8_hand_68 : decode cX8_hand 68 = .ok (.invokevirtual 289, 3) := by decide +kernel
theorem dX8_hand_71 : decode cX8_hand 71 = .ok (.iload 4, 2) := by decide +kernel
theorem dX8_hand_73 : decode cX8_hand 73 = .ok (.ireturn, 1) := by decide +kernel
theorem dX8_kill_0 : decode cX8_kill 0 = .ok (.aload_n 0, 1) := by decide +kernel
theorem dX8_kill_1 : decode cX8_kill 1 = .ok (.iload_n 1, 1) := by decide +kernel
theorem dX8_kill_2 : decode cX8_kill 2 = .ok (.invokevirtual 136, 3) := by decide +kernel
theorem dX8_kill_5 : decode cX8_kill 5 = .ok (.astore_n 2, 1) := by decide +kernel
theorem dX8_kill_6 : decode cX8_kill 6 = .ok (.aload_n 2, 1) := by decide +kernel
theorem dX8_kill_7 : decode cX8_kill 7 = .ok (.getfield 140, 3) := by decide +kernel
theorem dX8_kill_10 : decode cX8_kill 10 = .ok (.ifCond .eq 6, 3) := by decide +kernel
theorem dX8_kill_13 : decode cX8_kill 13 = .ok (.bipush (-14), 2) := by decide +kernel
theorem dX8_kill_15 : decode cX8_kill 15 = .ok (.ireturn, 1) := by decide +kernel
theorem dX8_kill_16 : decode cX8_kill 16 = .ok (.aload_n 0, 1) := by decide +kernel
theorem dX8_kill_17 : decode cX8_kill 17 = .ok (.getfield 32, 3) := by decide +kernel
theorem dX8_kill_20 : decode cX8_kill 20 = .ok (.aload_n 0, 1) := by decide +kernel
theorem dX8_kill_21 : decode cX8_kill 21 = .ok (.getfield 10, 3) := by decide +kernel
theorem dX8_kill_24 : decode cX8_kill 24 = .ok (.invokevirtual 83, 3) := by decide +kernel
theorem dX8_kill_27 : decode cX8_kill 27 = .ok (.aload_n 2, 1) := by decide +kernel
theorem dX8_kill_28 : decode cX8_kill 28 = .ok (.iconst 1, 1) := by decide +kernel
theorem dX8_kill_29 : decode cX8_kill 29 = .ok (.putfield 140, 3) := by decide +kernel
theorem dX8_kill_32 : decode cX8_kill 32 = .ok (.aload_n 2, 1) := by decide +kernel
theorem dX8_kill_33 : decode cX8_kill 33 = .ok (.getfield 151, 3) := by decide +kernel
theorem dX8_kill_36 : decode cX8_kill 36 = .ok (.istore_n 3, 1) := by decide +kernel
theorem dX8_kill_37 : decode cX8_kill 37 = .ok (.iload_n 3, 1) := by decide +kernel
theorem dX8_kill_38 : decode cX8_kill 38 = .ok (.iconst (-1), 1) := by decide +kernel
theorem dX8_kill_39 : decode cX8_kill 39 = .ok (.if_icmp .ne 7, 3) := by decide +kernel
theorem dX8_kill_42 : decode cX8_kill 42 = .ok (.iconst (-1), 1) := by decide +kernel
theorem dX8_kill_43 : decode cX8_kill 43 = .ok (.goto 10, 3) := by decide +kernel
theorem dX8_kill_46 : decode cX8_kill 46 = .ok (.aload_n 0, 1) := by decide +kernel
theorem dX8_kill_47 : decode cX8_kill 47 = .ok (.getfield 10, 3) := by decide +kernel
theorem dX8_kill_50 : decode cX8_kill 50 = .ok (.invokevirtual 292, 3) := by decide +kernel
theorem dX8_kill_53 : decode cX8_kill 53 = .ok (.istore 4, 2) := by decide +kernel
theorem dX8_kill_55 : decode cX8_kill 55 = .ok (.iload 4, 2) := by decide +kernel
theorem dX8_kill_57 : decode cX8_kill 57 = .ok (.iconst (-1), 1) := by decide +kernel
theorem dX8_kill_58 : decode cX8_kill 58 = .ok (.if_icmp .eq 22, 3) := by decide +kernel
theorem dX8_kill_61 : decode cX8_kill 61 = .ok (.aload_n 0, 1) := by decide +kernel
theorem dX8_kill_62 : decode cX8_kill 62 = .ok (.getfield 10, 3) := by decide +kernel
theorem dX8_kill_65 : decode cX8_kill 65 = .ok (.iload_n 1, 1) := by decide +kernel
theorem dX8_kill_66 : decode cX8_kill 66 = .ok (.iconst (-1), 1) := by decide +kernel
theorem dX8_kill_67 : decode cX8_kill 67 = .ok (.invokevirtual 289, 3) := by decide +kernel
theorem dX8_kill_70 : decode cX8_kill 70 = .ok (.aload_n 0, 1) := by decide +kernel
theorem dX8_kill_71 : decode cX8_kill 71 = .ok (.getfield 10, 3) := by decide +kernel
theorem dX8_kill_74 : decode cX8_kill 74 = .ok (.iload 4, 2) := by decide +kernel
theorem dX8_kill_76 : decode cX8_kill 76 = .ok (.iload_n 3, 1) := by decide +kernel
theorem dX8_kill_77 : decode cX8_kill 77 = .ok (.invokevirtual 286, 3) := by decide +kernel
theorem dX8_kill_80 : decode cX8_kill 80 = .ok (.iload 4, 2) := by decide +kernel
theorem dX8_kill_82 : decode cX8_kill 82 = .ok (.ireturn, 1) := by decide +kernel
theorem dX8_wake_0 : decode cX8_wake 0 = .ok (.aload_n 0, 1) := by decide +kernel
theorem dX8_wake_1 : decode cX8_wake 1 = .ok (.iload_n 1, 1) := by decide +kernel
theorem dX8_wake_2 : decode cX8_wake 2 = .ok (.invokevirtual 136, 3) := by decide +kernel
theorem dX8_wake_5 : decode cX8_wake 5 = .ok (.astore_n 2, 1) := by decide +kernel
theorem dX8_wake_6 : decode cX8_wake 6 = .ok (.aload_n 2, 1) := by decide +kernel
theorem dX8_wake_7 : decode cX8_wake 7 = .ok (.getfield 140, 3) := by decide +kernel
theorem dX8_wake_10 : decode cX8_wake 10 = .ok (.ifCond .ne 6, 3) := by decide +kernel
theorem dX8_wake_13 : decode cX8_wake 13 = .ok (.bipush (-15), 2) := by decide +kernel
theorem dX8_wake_15 : decode cX8_wake 15 = .ok (.ireturn, 1) := by decide +kernel
theorem dX8_wake_16 : decode cX8_wake 16 = .ok (.aload_n 0, 1) := by decide +kernel
theorem dX8_wake_17 : decode cX8_wake 17 = .ok (.getfield 32, 3) := by decide +kernel
theorem dX8_wake_20 : decode cX8_wake 20 = .ok (.aload_n 0, 1) := by decide +kernel
theorem dX8_wake_21 : decode cX8_wake 21 = .ok (.getfield 10, 3) := by decide +kernel
theorem dX8_wake_24 : decode cX8_wake 24 = .ok (.invokevirtual 83, 3) := by decide +kernel
theorem dX8_wake_27 : decode cX8_wake 27 = .ok (.aload_n 2, 1) := by decide +kernel
theorem dX8_wake_28 : decode cX8_wake 28 = .ok (.getfield 140, 3) := by decide +kernel
theorem dX8_wake_31 : decode cX8_wake 31 = .ok (.istore_n 3, 1) := by decide +kernel
theorem dX8_wake_32 : decode cX8_wake 32 = .ok (.aload_n 2, 1) := by decide +kernel
theorem dX8_wake_33 : decode cX8_wake 33 = .ok (.iconst 0, 1) := by decide +kernel
theorem dX8_wake_34 : decode cX8_wake 34 = .ok (.putfield 140, 3) := by decide +kernel
theorem dX8_wake_37 : decode cX8_wake 37 = .ok (.aload_n 2, 1) := by decide +kernel
theorem dX8_wake_38 : decode cX8_wake 38 = .ok (.iconst 0, 1) := by decide +kernel
theorem dX8_wake_39 : decode cX8_wake 39 = .ok (.putfield 148, 3) := by decide +kernel
theorem dX8_wake_42 : decode cX8_wake 42 = .ok (.aload_n 2, 1) := by decide +kernel
theorem dX8_wake_43 : decode cX8_wake 43 = .ok (.iconst 0, 1) := by decide +kernel
theorem dX8_wake_44 : decode cX8_wake 44 = .ok (.putfield 145, 3) := by decide +kernel
theorem dX8_wake_47 : decode cX8_wake 47 = .ok (.iload_n 3, 1) := by decide +kernel
theorem dX8_wake_48 : decode cX8_wake 48 = .ok (.ireturn, 1) := by decide +kernel
theorem dX8_undo_0 : decode cX8_undo 0 = .ok (.aload_n 0, 1) := by decide +kernel
theorem dX8_undo_1 : decode cX8_undo 1 = .ok (.getfield 32, 3) := by decide +kernel
theorem dX8_undo_4 : decode cX8_undo 4 = .ok (.getfield 295, 3) := by decide +kernel
theorem dX8_undo_7 : decode cX8_undo 7 = .ok (.ifCond .gt 14, 3) := by decide +kernel
theorem dX8_undo_10 : decode cX8_undo 10 = .ok (.new 66, 3) := by decide +kernel
theorem dX8_undo_13 : decode cX8_undo 13 = .ok (.dup, 1) := by decide +kernel
theorem dX8_undo_14 : decode cX8_undo 14 = .ok (.ldc_w 298, 3) := by decide +kernel
theorem dX8_undo_17 : decode cX8_undo 17 = .ok (.invokespecial 70, 3) := by decide +kernel
theorem dX8_undo_20 : decode cX8_undo 20 = .ok (.athrow, 1) := by decide +kernel
theorem dX8_undo_21 : decode cX8_undo 21 = .ok (.aload_n 0, 1) := by decide +kernel
theorem dX8_undo_22 : decode cX8_undo 22 = .ok (.getfield 32, 3) := by decide +kernel
theorem dX8_undo_25 : decode cX8_undo 25 = .ok (.aload_n 0, 1) := by decide +kernel
theorem dX8_undo_26 : decode cX8_undo 26 = .ok (.getfield 10, 3) := by decide +kernel
theorem dX8_undo_29 : decode cX8_undo 29 = .ok (.invokevirtual 300, 3) := by decide +kernel
theorem dX8_undo_32 : decode cX8_undo 32 = .ok (.aload_n 0, 1) := by decide +kernel
theorem dX8_undo_33 : decode cX8_undo 33 = .ok (.getfield 32, 3) := by decide +kernel
theorem dX8_undo_36 : decode cX8_undo 36 = .ok (.getfield 295, 3) := by decide +kernel
theorem dX8_undo_39 : decode cX8_undo 39 = .ok (.ireturn, 1) := by decide +kernel
theorem dX8_save_0 : decode cX8_save 0 = .ok (.iload_n 1, 1) := by decide +kernel
theorem dX8_save_1 : decode cX8_save 1 = .ok (.ifCond .lt 21, 3) := by decide +kernel
theorem dX8_save_4 : decode cX8_save 4 = .ok (.iload_n 1, 1) := by decide +kernel
theorem dX8_save_5 : decode cX8_save 5 = .ok (.aload_n 0, 1) := by decide +kernel
theorem dX8_save_6 : decode cX8_save 6 = .ok (.getfield 36, 3) := by decide +kernel
theorem dX8_save_9 : decode cX8_save 9 = .ok (.arraylength, 1) := by decide +kernel
theorem dX8_save_10 : decode cX8_save 10 = .ok (.if_icmp .ge 12, 3) := by decide +kernel
theorem dX8_save_13 : decode cX8_save 13 = .ok (.iload_n 1, 1) := by decide +kernel
theorem dX8_save_14 : decode cX8_save 14 = .ok (.aload_n 0, 1) := by decide +kernel
theorem dX8_save_15 : decode cX8_save 15 = .ok (.getfield 40, 3) := by decide +kernel
theorem dX8_save_18 : decode cX8_save 18 = .ok (.arraylength, 1) := by decide +kernel
theorem dX8_save_19 : decode cX8_save 19 = .ok (.if_icmp .lt 14, 3) := by decide +kernel
theorem dX8_save_22 : decode cX8_save 22 = .ok (.new 209, 3) := by decide +kernel
theorem dX8_save_25 : decode cX8_save 25 = .ok (.dup, 1) := by decide +kernel
theorem dX8_save_26 : decode cX8_save 26 = .ok (.ldc_w 303, 3) := by decide +kernel
theorem dX8_save_29 : decode cX8_save 29 = .ok (.invokespecial 213, 3) := by decide +kernel
theorem dX8_save_32 : decode cX8_save 32 = .ok (.athrow, 1) := by decide +kernel
theorem dX8_save_33 : decode cX8_save 33 = .ok (.aload_n 0, 1) := by decide +kernel
theorem dX8_save_34 : decode cX8_save 34 = .ok (.getfield 36, 3) := by decide +kernel
theorem dX8_save_37 : decode cX8_save 37 = .ok (.iload_n 1, 1) := by decide +kernel
theorem dX8_save_38 : decode cX8_save 38 = .ok (.aaload, 1) := by decide +kernel
theorem dX8_save_39 : decode cX8_save 39 = .ok (.aload_n 0, 1) := by decide +kernel
theorem dX8_save_40 : decode cX8_save 40 = .ok (.getfield 10, 3) := by decide +kernel
theorem dX8_save_43 : decode cX8_save 43 = .ok (.invokevirtual 88, 3) := by decide +kernel
theorem dX8_save_46 : decode cX8_save 46 = .ok (.aload_n 0, 1) := by decide +kernel
theorem dX8_save_47 : decode cX8_save 47 = .ok (.getfield 40, 3) := by decide +kernel
theorem dX8_save_50 : decode cX8_save 50 = .ok (.iload_n 1, 1) := by decide +kernel
theorem dX8_save_51 : decode cX8_save 51 = .ok (.iconst 1, 1) := by decide +kernel
theorem dX8_save_52 : decode cX8_save 52 = .ok (.bastore, 1) := by decide +kernel
theorem dX8_save_53 : decode cX8_save 53 = .ok (.return_, 1) := by decide +kernel
theorem dX8_restore_0 : decode cX8_restore 0 = .ok (.iload_n 1, 1) := by decide +kernel
theorem dX8_restore_1 : decode cX8_restore 1 = .ok (.ifCond .lt 21, 3) := by decide +kernel
theorem dX8_restore_4 : decode cX8_restore 4 = .ok (.iload_n 1, 1) := by decide +kernel
theorem dX8_restore_5 : decode cX8_restore 5 = .ok (.aload_n 0, 1) := by decide +kernel
theorem dX8_restore_6 : decode cX8_restore 6 = .ok (.getfield 36, 3) := by decide +kernel
theorem dX8_restore_9 : decode cX8_restore 9 = .ok (.arraylength, 1) := by decide +kernel
theorem dX8_restore_10 : decode cX8_restore 10 = .ok (.if_icmp .ge 12, 3) := by decide +kernel
theorem dX8_restore_13 : decode cX8_restore 13 = .ok (.iload_n 1, 1) := by decide +kernel
theorem dX8_restore_14 : decode cX8_restore 14 = .ok (.aload_n 0, 1) := by decide +kernel
theorem dX8_restore_15 : decode cX8_restore 15 = .ok (.getfield 40, 3) := by decide +kernel
theorem dX8_restore_18 : decode cX8_restore 18 = .ok (.arraylength, 1) := by decide +kernel
theorem dX8_restore_19 : decode cX8_restore 19 = .ok (.if_icmp .lt 14, 3) := by decide +kernel
theorem dX8_restore_22 : decode cX8_restore 22 = .ok (.new 209, 3) := by decide +kernel
theorem dX8_restore_25 : decode cX8_restore 25 = .ok (.dup, 1) := by decide +kernel
theorem dX8_restore_26 : decode cX8_restore 26 = .ok (.ldc_w 303, 3) := by decide +kernel
theorem dX8_restore_29 : decode cX8_restore 29 = .ok (.invokespecial 213, 3) := by decide +kernel
theorem dX8_restore_32 : decode cX8_restore 32 = .ok (.athrow, 1) := by decide +kernel
theorem dX8_restore_33 : decode cX8_restore 33 = .ok (.aload_n 0, 1) := by decide +kernel
theorem dX8_restore_34 : decode cX8_restore 34 = .ok (.getfield 40, 3) := by decide +kernel
theorem dX8_restore_37 : decode cX8_restore 37 = .ok (.iload_n 1, 1) := by decide +kernel
theorem dX8_restore_38 : decode cX8_restore 38 = .ok (.baload, 1) := by decide +kernel
theorem dX8_restore_39 : decode cX8_restore 39 = .ok (.ifCond .ne 14, 3) := by decide +kernel
theorem dX8_restore_42 : decode cX8_restore 42 = .ok (.new 66, 3) := by decide +kernel
theorem dX8_restore_45 : decode cX8_restore 45 = .ok (.dup, 1) := by decide +kernel
theorem dX8_restore_46 : decode cX8_restore 46 = .ok (.ldc_w 305, 3) := by decide +kernel
theorem dX8_restore_49 : decode cX8_restore 49 = .ok (.invokespecial 70, 3) := by decide +kernel
theorem dX8_restore_52 : decode cX8_restore 52 = .ok (.athrow, 1) := by decide +kernel
theorem dX8_restore_53 : decode cX8_restore 53 = .ok (.aload_n 0, 1) := by decide +kernel
theorem dX8_restore_54 : decode cX8_restore 54 = .ok (.getfield 32, 3) := by decide +kernel
theorem dX8_restore_57 : decode cX8_restore 57 = .ok (.aload_n 0, 1) := by decide +kernel
theorem dX8_restore_58 : decode cX8_restore 58 = .ok (.getfield 10, 3) := by decide +kernel
theorem dX8_restore_61 : decode cX8_restore 61 = .ok (.invokevirtual 83, 3) := by decide +kernel
theorem dX8_restore_64 : decode cX8_restore 64 = .ok (.aload_n 0, 1) := by decide +kernel
theorem dX8_restore_65 : decode cX8_restore 65 = .ok (.getfield 10, 3) := by decide +kernel
theorem dX8_restore_68 : decode cX8_restore 68 = .ok (.aload_n 0, 1) := by decide +kernel
theorem dX8_restore_69 : decode cX8_restore 69 = .ok (.getfield 36, 3) := by decide +kernel
theorem dX8_restore_72 : decode cX8_restore 72 = .ok (.iload_n 1, 1) := by decide +kernel
theorem dX8_restore_73 : decode cX8_restore 73 = .ok (.aaload, 1) := by decide +kernel
theorem dX8_restore_74 : decode cX8_restore 74 = .ok (.invokevirtual 88, 3) := by decide +kernel
theorem dX8_restore_77 : decode cX8_restore 77 = .ok (.aload_n 0, 1) := by decide +kernel
theorem dX8_restore_78 : decode cX8_restore 78 = .ok (.getfield 10, 3) := by decide +kernel
theorem dX8_restore_81 : decode cX8_restore 81 = .ok (.getfield 103, 3) := by decide +kernel
theorem dX8_restore_84 : decode cX8_restore 84 = .ok (.ireturn, 1) := by decide +kernel
theorem dX8_writeStacks_0 : decode cX8_writeStacks 0 = .ok (.aload_n 0, 1) := by decide +kernel
theorem dX8_writeStacks_1 : decode cX8_writeStacks 1 = .ok (.getfield 54, 3) := by decide +kernel
theorem dX8_writeStacks_4 : decode cX8_writeStacks 4 = .ok (.aload_n 0, 1) := by decide +kernel
theorem dX8_writeStacks_5 : decode cX8_writeStacks 5 = .ok (.getfield 10, 3) := by decide +kernel
theorem dX8_writeStacks_8 : decode cX8_writeStacks 8 = .ok (.invokevirtual 307, 3) := by decide +kernel
theorem dX8_writeStacks_11 : decode cX8_writeStacks 11 = .ok (.aload_n 0, 1) := by decide +kernel
theorem dX8_writeStacks_12 : decode cX8_writeStacks 12 = .ok (.getfield 54, 3) := by decide +kernel
theorem dX8_writeStacks_15 : decode cX8_writeStacks 15 = .ok (.getfield 310, 3) := by decide +kernel
theorem dX8_writeStacks_18 : decode cX8_writeStacks 18 = .ok (.ireturn, 1) := by decide +kernel
theorem dX8_writtenByte_0 : decode cX8_writtenByte 0 = .ok (.iload_n 1, 1) := by decide +kernel
theorem dX8_writtenByte_1 : decode cX8_writtenByte 1 = .ok (.ifCond .lt 26, 3) := by decide +kernel
theorem dX8_writtenByte_4 : decode cX8_writtenByte 4 = .ok (.iload_n 1, 1) := by decide +kernel
theorem dX8_writtenByte_5 : decode cX8_writtenByte 5 = .ok (.aload_n 0, 1) := by decide +kernel
theorem dX8_writtenByte_6 : decode cX8_writtenByte 6 = .ok (.getfield 54, 3) := by decide +kernel
theorem dX8_writtenByte_9 : decode cX8_writtenByte 9 = .ok (.getfield 310, 3) := by decide +kernel
theorem dX8_writtenByte_12 : decode cX8_writtenByte 12 = .ok (.if_icmp .ge 15, 3) := by decide +kernel
theorem dX8_writtenByte_15 : decode cX8_writtenByte 15 = .ok (.iload_n 1, 1) := by decide +kernel
theorem dX8_writtenByte_16 : decode cX8_writtenByte 16 = .ok (.aload_n 0, 1) := by decide +kernel
theorem dX8_writtenByte_17 : decode cX8_writtenByte 17 = .ok (.getfield 54, 3) := by decide +kernel
theorem dX8_writtenByte_20 : decode cX8_writtenByte 20 = .ok (.getfield 311, 3) := by decide +kernel
theorem dX8_writtenByte_23 : decode cX8_writtenByte 23 = .ok (.arraylength, 1) := by decide +kernel
theorem dX8_writtenByte_24 : decode cX8_writtenByte 24 = .ok (.if_icmp .lt 14, 3) := by decide +kernel
theorem dX8_writtenByte_27 : decode cX8_writtenByte 27 = .ok (.new 209, 3) := by decide +kernel
theorem dX8_writtenByte_30 : decode cX8_writtenByte 30 = .ok (.dup, 1) := by decide +kernel
theorem dX8_writtenByte_31 : decode cX8_writtenByte 31 = .ok (.ldc_w 315, 3) := by decide +kernel
theorem dX8_writtenByte_34 : decode cX8_writtenByte 34 = .ok (.invokespecial 213, 3) := by decide +kernel
theorem dX8_writtenByte_37 : decode cX8_writtenByte 37 = .ok (.athrow, 1) := by decide +kernel
theorem dX8_writtenByte_38 : decode cX8_writtenByte 38 = .ok (.aload_n 0, 1) := by decide +kernel
theorem dX8_writtenByte_39 : decode cX8_writtenByte 39 = .ok (.getfield 54, 3) := by decide +kernel
theorem dX8_writtenByte_42 : decode cX8_writtenByte 42 = .ok (.getfield 311, 3) := by decide +kernel
theorem dX8_writtenByte_45 : decode cX8_writtenByte 45 = .ok (.iload_n 1, 1) := by decide +kernel
theorem dX8_writtenByte_46 : decode cX8_writtenByte 46 = .ok (.baload, 1) := by decide +kernel
theorem dX8_writtenByte_47 : decode cX8_writtenByte 47 = .ok (.ireturn, 1) := by decide +kernel
theorem dX8_existingProc_0 : decode cX8_existingProc 0 = .ok (.aload_n 0, 1) := by decide +kernel
theorem dX8_existingProc_1 : decode cX8_existingProc 1 = .ok (.getfield 10, 3) := by decide +kernel
theorem dX8_existingProc_4 : decode cX8_existingProc 4 = .ok (.iload_n 1, 1) := by decide +kernel
theorem dX8_existingProc_5 : decode cX8_existingProc 5 = .ok (.invokevirtual 238, 3) := by decide +kernel
theorem dX8_existingProc_8 : decode cX8_existingProc 8 = .ok (.astore_n 2, 1) := by decide +kernel
theorem dX8_existingProc_9 : decode cX8_existingProc 9 = .ok (.aload_n 2, 1) := by decide +kernel
theorem dX8_existingProc_10 : decode cX8_existingProc 10 = .ok (.ifnonnull 14, 3) := by decide +kernel
theorem dX8_existingProc_13 : decode cX8_existingProc 13 = .ok (.new 209, 3) := by decide +kernel
theorem dX8_existingProc_16 : decode cX8_existingProc 16 = .ok (.dup, 1) := by decide +kernel
theorem dX8_existingProc_17 : decode cX8_existingProc 17 = .ok (.ldc_w 317, 3) := by decide +kernel
theorem dX8_existingProc_20 : decode cX8_existingProc 20 = .ok (.invokespecial 213, 3) := by decide +kernel
theorem dX8_existingProc_23 : decode cX8_existingProc 23 = .ok (.athrow, 1) := by decide +kernel
theorem dX8_existingProc_24 : decode cX8_existingProc 24 = .ok (.aload_n 2, 1) := by decide +kernel
theorem dX8_existingProc_25 : decode cX8_existingProc 25 = .ok (.areturn, 1) := by decide +kernel
theorem dX8_existingPile_0 : decode cX8_existingPile 0 = .ok (.aload_n 0, 1) := by decide +kernel
theorem dX8_existingPile_1 : decode cX8_existingPile 1 = .ok (.getfield 10, 3) := by decide +kernel
theorem dX8_existingPile_4 : decode cX8_existingPile 4 = .ok (.iload_n 1, 1) := by decide +kernel
theorem dX8_existingPile_5 : decode cX8_existingPile 5 = .ok (.invokevirtual 255, 3) := by decide +kernel
theorem dX8_existingPile_8 : decode cX8_existingPile 8 = .ok (.astore_n 2, 1) := by decide +kernel
theorem dX8_existingPile_9 : decode cX8_existingPile 9 = .ok (.aload_n 2, 1) := by decide +kernel
theorem dX8_existingPile_10 : decode cX8_existingPile 10 = .ok (.ifnonnull 14, 3) := by decide +kernel
theorem dX8_existingPile_13 : decode cX8_existingPile 13 = .ok (.new 209, 3) := by decide +kernel
theorem dX8_existingPile_16 : decode cX8_existingPile 16 = .ok (.dup, 1) := by decide +kernel
theorem dX8_existingPile_17 : decode cX8_existingPile 17 = .ok (.ldc_w 319, 3) := by decide +kernel
theorem dX8_existingPile_20 : decode cX8_existingPile 20 = .ok (.invokespecial 213, 3) := by decide +kernel
theorem dX8_existingPile_23 : decode cX8_existingPile 23 = .ok (.athrow, 1) := by decide +kernel
theorem dX8_existingPile_24 : decode cX8_existingPile 24 = .ok (.aload_n 2, 1) := by decide +kernel
theorem dX8_existingPile_25 : decode cX8_existingPile 25 = .ok (.areturn, 1) := by decide +kernel
theorem dX8_checkSlot_0 : decode cX8_checkSlot 0 = .ok (.aload_n 0, 1) := by decide +kernel
theorem dX8_checkSlot_1 : decode cX8_checkSlot 1 = .ok (.getfield 10, 3) := by decide +kernel
theorem dX8_checkSlot_4 : decode cX8_checkSlot 4 = .ok (.iload_n 1, 1) := by decide +kernel
theorem dX8_checkSlot_5 : decode cX8_checkSlot 5 = .ok (.invokevirtual 321, 3) := by decide +kernel
theorem dX8_checkSlot_8 : decode cX8_checkSlot 8 = .ok (.ifCond .ne 14, 3) := by decide +kernel
theorem dX8_checkSlot_11 : decode cX8_checkSlot 11 = .ok (.new 209, 3) := by decide +kernel
theorem dX8_checkSlot_14 : decode cX8_checkSlot 14 = .ok (.dup, 1) := by decide +kernel
theorem dX8_checkSlot_15 : decode cX8_checkSlot 15 = .ok (.ldc_w 324, 3) := by decide +kernel
theorem dX8_checkSlot_18 : decode cX8_checkSlot 18 = .ok (.invokespecial 213, 3) := by decide +kernel
theorem dX8_checkSlot_21 : decode cX8_checkSlot 21 = .ok (.athrow, 1) := by decide +kernel
theorem dX8_checkSlot_22 : decode cX8_checkSlot 22 = .ok (.return_, 1) := by decide +kernel
theorem dX8_bytesIn_0 : decode cX8_bytesIn 0 = .ok (.iconst 0, 1) := by decide +kernel
theorem dX8_bytesIn_1 : decode cX8_bytesIn 1 = .ok (.istore_n 1, 1) := by decide +kernel
theorem dX8_bytesIn_2 : decode cX8_bytesIn 2 = .ok (.bipush 24, 2) := by decide +kernel
theorem dX8_bytesIn_4 : decode cX8_bytesIn 4 = .ok (.istore_n 2, 1) := by decide +kernel
theorem dX8_bytesIn_5 : decode cX8_bytesIn 5 = .ok (.iload_n 2, 1) := by decide +kernel
theorem dX8_bytesIn_6 : decode cX8_bytesIn 6 = .ok (.ifCond .lt 22, 3) := by decide +kernel
theorem dX8_bytesIn_9 : decode cX8_bytesIn 9 = .ok (.iload_n 0, 1) := by decide +kernel
theorem dX8_bytesIn_10 : decode cX8_bytesIn 10 = .ok (.iload_n 2, 1) := by decide +kernel
theorem dX8_bytesIn_11 : decode cX8_bytesIn 11 = .ok (.ishr, 1) := by decide +kernel
theorem dX8_bytesIn_12 : decode cX8_bytesIn 12 = .ok (.sipush 255, 3) := by decide +kernel
theorem dX8_bytesIn_15 : decode cX8_bytesIn 15 = .ok (.iand, 1) := by decide +kernel
theorem dX8_bytesIn_16 : decode cX8_bytesIn 16 = .ok (.ifCond .eq 6, 3) := by decide +kernel
theorem dX8_bytesIn_19 : decode cX8_bytesIn 19 = .ok (.iinc 1 1, 3) := by decide +kernel
theorem dX8_bytesIn_22 : decode cX8_bytesIn 22 = .ok (.iinc 2 (-8), 3) := by decide +kernel
theorem dX8_bytesIn_25 : decode cX8_bytesIn 25 = .ok (.goto (-20), 3) := by decide +kernel
theorem dX8_bytesIn_28 : decode cX8_bytesIn 28 = .ok (.iload_n 1, 1) := by decide +kernel
theorem dX8_bytesIn_29 : decode cX8_bytesIn 29 = .ok (.ireturn, 1) := by decide +kernel
theorem dX8_tryTurnLength_0 : decode cX8_tryTurnLength 0 = .ok (.aload_n 0, 1) := by decide +kernel
theorem dX8_tryTurnLength_1 : decode cX8_tryTurnLength 1 = .ok (.getfield 26, 3) := by decide +kernel
theorem dX8_tryTurnLength_4 : decode cX8_tryTurnLength 4 = .ok (.aload_n 0, 1) := by decide +kernel
theorem dX8_tryTurnLength_5 : decode cX8_tryTurnLength 5 = .ok (.getfield 10, 3) := by decide +kernel
theorem dX8_tryTurnLength_8 : decode cX8_tryTurnLength 8 = .ok (.invokevirtual 88, 3) := by decide +kernel
theorem dX8_tryTurnLength_11 : decode cX8_tryTurnLength 11 = .ok (.iconst 0, 1) := by decide +kernel
theorem dX8_tryTurnLength_12 : decode cX8_tryTurnLength 12 = .ok (.istore_n 2, 1) := by decide +kernel
theorem dX8_tryTurnLength_13 : decode cX8_tryTurnLength 13 = .ok (.iload_n 2, 1) := by decide +kernel
theorem dX8_tryTurnLength_14 : decode cX8_tryTurnLength 14 = .ok (.aload_n 0, 1) := by decide +kernel
theorem dX8_tryTurnLength_15 : decode cX8_tryTurnLength 15 = .ok (.getfield 26, 3) := by decide +kernel
theorem dX8_tryTurnLength_18 : decode cX8_tryTurnLength 18 = .ok (.getfield 91, 3) := by decide +kernel
theorem dX8_tryTurnLength_21 : decode cX8_tryTurnLength 21 = .ok (.if_icmp .ge 27, 3) := by decide +kernel
theorem dX8_tryTurnLength_24 : decode cX8_tryTurnLength 24 = .ok (.aload_n 0, 1) := by decide +kernel
theorem dX8_tryTurnLength_25 : decode cX8_tryTurnLength 25 = .ok (.getfield 26, 3) := by decide +kernel
theorem dX8_tryTurnLength_28 : decode cX8_tryTurnLength 28 = .ok (.iload_n 2, 1) := by decide +kernel
theorem dX8_tryTurnLength_29 : decode cX8_tryTurnLength 29 = .ok (.invokevirtual 238, 3) := by decide +kernel
theorem dX8_tryTurnLength_32 : decode cX8_tryTurnLength 32 = .ok (.astore_n 3, 1) := by decide +kernel
theorem dX8_tryTurnLength_33 : decode cX8_tryTurnLength 33 = .ok (.aload_n 3, 1) := by decide +kernel
theorem dX8_tryTurnLength_34 : decode cX8_tryTurnLength 34 = .ok (.ifnull 8, 3) := by decide +kernel
theorem dX8_tryTurnLength_37 : decode cX8_tryTurnLength 37 = .ok (.aload_n 3, 1) := by decide +kernel
theorem dX8_tryTurnLength_38 : decode cX8_tryTurnLength 38 = .ok (.iload_n 1, 1) := by decide +kernel
theorem dX8_tryTurnLength_39 : decode cX8_tryTurnLength 39 = .ok (.putfield 157, 3) := by decide +kernel
theorem dX8_tryTurnLength_42 : decode cX8_tryTurnLength 42 = .ok (.iinc 2 1, 3) := by decide +kernel
theorem dX8_tryTurnLength_45 : decode cX8_tryTurnLength 45 = .ok (.goto (-32), 3) := by decide +kernel
theorem dX8_tryTurnLength_48 : decode cX8_tryTurnLength 48 = .ok (.return_, 1) := by decide +kernel
theorem dX8_trySlot_0 : decode cX8_trySlot 0 = .ok (.aload_n 0, 1) := by decide +kernel
theorem dX8_trySlot_1 : decode cX8_trySlot 1 = .ok (.getfield 26, 3) := by decide +kernel
theorem dX8_trySlot_4 : decode cX8_trySlot 4 = .ok (.aload_n 0, 1) := by decide +kernel
theorem dX8_trySlot_5 : decode cX8_trySlot 5 = .ok (.getfield 10, 3) := by decide +kernel
theorem dX8_trySlot_8 : decode cX8_trySlot 8 = .ok (.invokevirtual 88, 3) := by decide +kernel
theorem dX8_trySlot_11 : decode cX8_trySlot 11 = .ok (.aload_n 0, 1) := by decide +kernel
theorem dX8_trySlot_12 : decode cX8_trySlot 12 = .ok (.getfield 26, 3) := by decide +kernel
theorem dX8_trySlot_15 : decode cX8_trySlot 15 = .ok (.iload_n 1, 1) := by decide +kernel
theorem dX8_trySlot_16 : decode cX8_trySlot 16 = .ok (.invokevirtual 238, 3) := by decide +kernel
theorem dX8_trySlot_19 : decode cX8_trySlot 19 = .ok (.astore_n 3, 1) := by decide +kernel
theorem dX8_trySlot_20 : decode cX8_trySlot 20 = .ok (.aload_n 3, 1) := by decide +kernel
theorem dX8_trySlot_21 : decode cX8_trySlot 21 = .ok (.ifnull 15, 3) := by decide +kernel
theorem dX8_trySlot_24 : decode cX8_trySlot 24 = .ok (.aload_n 3, 1) := by decide +kernel
theorem dX8_trySlot_25 : decode cX8_trySlot 25 = .ok (.dup, 1) := by decide +kernel
theorem dX8_trySlot_26 : decode cX8_trySlot 26 = .ok (.getfield 160, 3) := by decide +kernel
theorem dX8_trySlot_29 : decode cX8_trySlot 29 = .ok (.iconst 1, 1) := by decide +kernel
theorem dX8_trySlot_30 : decode cX8_trySlot 30 = .ok (.iload_n 2, 1) := by decide +kernel
theorem dX8_trySlot_31 : decode cX8_trySlot 31 = .ok (.ishl, 1) := by decide +kernel
theorem dX8_trySlot_32 : decode cX8_trySlot 32 = .ok (.ior, 1) := by decide +kernel
theorem dX8_trySlot_33 : decode cX8_trySlot 33 = .ok (.putfield 160, 3) := by decide +kernel
theorem dX8_trySlot_36 : decode cX8_trySlot 36 = .ok (.return_, 1) := by decide +kernel
theorem dX9_init_0 : decode cX9_init 0 = .ok (.aload_n 0, 1) := by decide +kernel
theorem dX9_init_1 : decode cX9_init 1 = .ok (.invokespecial 1, 3) := by decide +kernel
theorem dX9_init_4 : decode cX9_init 4 = .ok (.aload_n 0, 1) := by decide +kernel
theorem dX9_init_5 : decode cX9_init 5 = .ok (.sipush 1190, 3) := by decide +kernel
theorem dX9_init_8 : decode cX9_init 8 = .ok (.newarray .int, 2) := by decide +kernel
theorem dX9_init_10 : decode cX9_init 10 = .ok (.putfield 7, 3) := by decide +kernel
theorem dX9_init_13 : decode cX9_init 13 = .ok (.aload_n 0, 1) := by decide +kernel
theorem dX9_init_14 : decode cX9_init 14 = .ok (.sipush 1190, 3) := by decide +kernel
theorem dX9_init_17 : decode cX9_init 17 = .ok (.newarray .int, 2) := by decide +kernel
theorem dX9_init_19 : decode cX9_init 19 = .ok (.putfield 13, 3) := by decide +kernel
theorem dX9_init_22 : decode cX9_init 22 = .ok (.aload_n 0, 1) := by decide +kernel
theorem dX9_init_23 : decode cX9_init 23 = .ok (.sipush 1190, 3) := by decide +kernel
theorem dX9_init_26 : decode cX9_init 26 = .ok (.newarray .int, 2) := by decide +kernel
theorem dX9_init_28 : decode cX9_init 28 = .ok (.putfield 16, 3) := by decide +kernel
theorem dX9_init_31 : decode cX9_init 31 = .ok (.aload_n 0, 1) := by decide +kernel
theorem dX9_init_32 : decode cX9_init 32 = .ok (.sipush 9520, 3) := by decide +kernel
theorem dX9_init_35 : decode cX9_init 35 = .ok (.newarray .int, 2) := by decide +kernel
theorem dX9_init_37 : decode cX9_init 37 = .ok (.putfield 19, 3) := by decide +kernel
theorem dX9_init_40 : decode cX9_init 40 = .ok (.aload_n 0, 1) := by decide +kernel
theorem dX9_init_41 : decode cX9_init 41 = .ok (.sipush 2380, 3) := by decide +kernel
theorem dX9_init_44 : decode cX9_init 44 = .ok (.newarray .int, 2) := by decide +kernel
theorem dX9_init_46 : decode cX9_init 46 = .ok (.putfield 22, 3) := by decide +kernel
theorem dX9_init_49 : decode cX9_init 49 = .ok (.aload_n 0, 1) := by decide +kernel
theorem dX9_init_50 : decode cX9_init 50 = .ok (.iconst 2, 1) := by decide +kernel
theorem dX9_init_51 : decode cX9_init 51 = .ok (.newarray .boolean, 2) := by decide +kernel
theorem dX9_init_53 : decode cX9_init 53 = .ok (.putfield 25, 3) := by decide +kernel
theorem dX9_init_56 : decode cX9_init 56 = .ok (.aload_n 0, 1) := by decide +kernel
theorem dX9_init_57 : decode cX9_init 57 = .ok (.sipush 600, 3) := by decide +kernel
theorem dX9_init_60 : decode cX9_init 60 = .ok (.newarray .int, 2) := by decide +kernel
theorem dX9_init_62 : decode cX9_init 62 = .ok (.putfield 29, 3) := by decide +kernel
theorem dX9_init_65 : decode cX9_init 65 = .ok (.aload_n 0, 1) := by decide +kernel
theorem dX9_init_66 : decode cX9_init 66 = .ok (.iconst (-1), 1) := by decide +kernel
theorem dX9_init_67 : decode cX9_init 67 = .ok (.putfield 32, 3) := by decide +kernel
theorem dX9_init_70 : decode cX9_init 70 = .ok (.aload_n 0, 1) := by decide +kernel
theorem dX9_init_71 : decode cX9_init 71 = .ok (.sipush 2400, 3) := by decide +kernel
theorem dX9_init_74 : decode cX9_init 74 = .ok (.newarray .int, 2) := by decide +kernel
theorem dX9_init_76 : decode cX9_init 76 = .ok (.putfield 36, 3) := by decide +kernel
theorem dX9_init_79 : decode cX9_init 79 = .ok (.aload_n 0, 1) := by decide +kernel
theorem dX9_init_80 : decode cX9_init 80 = .ok (.invokevirtual 39, 3) := by decide +kernel
theorem dX9_init_83 : decode cX9_init 83 = .ok (.aload_n 0, 1) := by decide +kernel
theorem dX9_init_84 : decode cX9_init 84 = .ok (.getfield 7, 3) := by decide +kernel
theorem dX9_init_87 : decode cX9_init 87 = .ok (.iconst 0, 1) := by decide +kernel
theorem dX9_init_88 : decode cX9_init 88 = .ok (.iconst 1, 1) := by decide +kernel
theorem dX9_init_89 : decode cX9_init 89 = .ok (.iastore, 1) := by decide +kernel
theorem dX9_init_90 : decode cX9_init 90 = .ok (.aload_n 0, 1) := by decide +kernel
theorem dX9_init_91 : decode cX9_init 91 = .ok (.getfield 7, 3) := by decide +kernel
theorem dX9_init_94 : decode cX9_init 94 = .ok (.iconst 1, 1) := by decide +kernel
theorem dX9_init_95 : decode cX9_init 95 = .ok (.iconst 1, 1) := by decide +kernel
theorem dX9_init_96 : decode cX9_init 96 = .ok (.iastore, 1) := by decide +kernel
theorem dX9_init_97 : decode cX9_init 97 = .ok (.aload_n 0, 1) := by decide +kernel
theorem dX9_init_98 : decode cX9_init 98 = .ok (.iconst 0, 1) := by decide +kernel
theorem dX9_init_99 : decode cX9_init 99 = .ok (.iconst 4, 1) := by decide +kernel
theorem dX9_init_100 : decode cX9_init 100 = .ok (.iconst 3, 1) := by decide +kernel
theorem dX9_init_101 : decode cX9_init 101 = .ok (.invokevirtual 42, 3) := by decide +kernel
theorem dX9_init_104 : decode cX9_init 104 = .ok (.aload_n 0, 1) := by decide +kernel
theorem dX9_init_105 : decode cX9_init 105 = .ok (.iconst 0, 1) := by decide +kernel
theorem dX9_init_106 : decode cX9_init 106 = .ok (.bipush 10, 2) := by decide +kernel
theorem dX9_init_108 : decode cX9_init 108 = .ok (.bipush 97, 2) := by decide +kernel
theorem dX9_init_110 : decode cX9_init 110 = .ok (.invokevirtual 42, 3) := by decide +kernel
theorem dX9_init_113 : decode cX9_init 113 = .ok (.return_, 1) := by decide +kernel
theorem dX9_begins_0 : decode cX9_begins 0 = .ok (.iconst 0, 1) := by decide +kernel
theorem dX9_begins_1 : decode cX9_begins 1 = .ok (.istore_n 1, 1) := by decide +kernel
theorem dX9_begins_2 : decode cX9_begins 2 = .ok (.iload_n 1, 1) := by decide +kernel
theorem dX9_begins_3 : decode cX9_begins 3 = .ok (.sipush 1190, 3) := by decide +kernel
theorem dX9_begins_6 : decode cX9_begins 6 = .ok (.if_icmp .ge 16, 3) := by decide +kernel
theorem dX9_begins_9 : decode cX9_begins 9 = .ok (.aload_n 0, 1) := by decide +kernel
theorem dX9_begins_10 : decode cX9_begins 10 = .ok (.getfield 7, 3) := by decide +kernel
theorem dX9_begins_13 : decode cX9_begins 13 = .ok (.iload_n 1, 1) := by decide +kernel
theorem dX9_begins_14 : decode cX9_begins 14 = .ok (.iconst 0, 1) := by decide +kernel
theorem dX9_begins_15 : decode cX9_begins 15 = .ok (.iastore, 1) := by decide +kernel
theorem dX9_begins_16 : decode cX9_begins 16 = .ok (.iinc 1 1, 3) := by decide +kernel
theorem dX9_begins_19 : decode cX9_begins 19 = .ok (.goto (-17), 3) := by decide +kernel
theorem dX9_begins_22 : decode cX9_begins 22 = .ok (.aload_n 0, 1) := by decide +kernel
theorem dX9_begins_23 : decode cX9_begins 23 = .ok (.getfield 7, 3) := by decide +kernel
theorem dX9_begins_26 : decode cX9_begins 26 = .ok (.iconst 4, 1) := by decide +kernel
theorem dX9_begins_27 : decode cX9_begins 27 = .ok (.iconst (-1), 1) := by decide +kernel
theorem dX9_begins_28 : decode cX9_begins 28 = .ok (.iastore, 1) := by decide +kernel
theorem dX9_begins_29 : decode cX9_begins 29 = .ok (.return_, 1) := by decide +kernel
theorem dX9_thrown_0 : decode cX9_thrown 0 = .ok (.aload_n 0, 1) := by decide +kernel
theorem dX9_thrown_1 : decode cX9_thrown 1 = .ok (.getfield 46, 3) := by decide +kernel
theorem dX9_thrown_4 : decode cX9_thrown 4 = .ok (.ireturn, 1) := by decide +kernel
theorem dX9_isIn_0 : decode cX9_isIn 0 = .ok (.iload_n 0, 1) := by decide +kernel
theorem dX9_isIn_1 : decode cX9_isIn 1 = .ok (.iload_n 1, 1) := by decide +kernel
theorem dX9_isIn_2 : decode cX9_isIn 2 = .ok (.if_icmp .lt 12, 3) := by decide +kernel
theorem dX9_isIn_5 : decode cX9_isIn 5 = .ok (.iload_n 0, 1) := by decide +kernel
theorem dX9_isIn_6 : decode cX9_isIn 6 = .ok (.iload_n 2, 1) := by decide +kernel
theorem dX9_isIn_7 : decode cX9_isIn 7 = .ok (.if_icmp .gt 7, 3) := by decide +kernel
theorem dX9_isIn_10 : decode cX9_isIn 10 = .ok (.iconst 1, 1) := by decide +kernel
theorem dX9_isIn_11 : decode cX9_isIn 11 = .ok (.goto 4, 3) := by decide +kernel
theorem dX9_isIn_14 : decode cX9_isIn 14 = .ok (.iconst 0, 1) := by decide +kernel
theorem dX9_isIn_15 : decode cX9_isIn 15 = .ok (.ireturn, 1) := by decide +kernel
theorem dX9_copies_0 : decode cX9_copies 0 = .ok (.iconst 0, 1) := by decide +kernel
theorem dX9_copies_1 : decode cX9_copies 1 = .ok (.istore 4, 2) := by decide +kernel
theorem dX9_copies_3 : decode cX9_copies 3 = .ok (.iload 4, 2) := by decide +kernel
theorem dX9_copies_5 : decode cX9_copies 5 = .ok (.sipush 1190, 3) := by decide +kernel
theorem dX9_copies_8 : decode cX9_copies 8 = .ok (.if_icmp .ge 21, 3) := by decide +kernel
theorem dX9_copies_11 : decode cX9_copies 11 = .ok (.aload_n 0, 1) := by decide +kernel
theorem dX9_copies_12 : decode cX9_copies 12 = .ok (.iload_n 1, 1) := by decide +kernel
theorem dX9_copies_13 : decode cX9_copies 13 = .ok (.iload 4, 2) := by decide +kernel
theorem dX9_copies_15 : decode cX9_copies 15 = .ok (.iadd, 1) := by decide +kernel
theorem dX9_copies_16 : decode cX9_copies 16 = .ok (.aload_n 2, 1) := by decide +kernel
theorem dX9_copies_17 : decode cX9_copies 17 = .ok (.iload_n 3, 1) := by decide +kernel
theorem dX9_copies_18 : decode cX9_copies 18 = .ok (.iload 4, 2) := by decide +kernel
theorem dX9_copies_20 : decode cX9_copies 20 = .ok (.iadd, 1) := by decide +kernel
theorem dX9_copies_21 : decode cX9_copies 21 = .ok (.iaload, 1) := by decide +kernel
theorem dX9_copies_22 : decode cX9_copies 22 = .ok (.iastore, 1) := by decide +kernel
theorem dX9_copies_23 : decode cX9_copies 23 = .ok (.iinc 4 1, 3) := by decide +kernel
theorem dX9_copies_26 : decode cX9_copies 26 = .ok (.goto (-23), 3) := by decide +kernel
theorem dX9_copies_29 : decode cX9_copies 29 = .ok (.return_, 1) := by decide +kernel
theorem dX9_keeps_0 : decode cX9_keeps 0 = .ok (.aload_n 0, 1) := by decide +kernel
theorem dX9_keeps_1 : decode cX9_keeps 1 = .ok (.getfield 49, 3) := by decide +kernel
theorem dX9_keeps_4 : decode cX9_keeps 4 = .ok (.bipush 8, 2) := by decide +kernel
theorem dX9_keeps_6 : decode cX9_keeps 6 = .ok (.if_icmp .ne 44, 3) := by decide +kernel
theorem dX9_keeps_9 : decode cX9_keeps 9 = .ok (.iconst 0, 1) := by decide +kernel
theorem dX9_keeps_10 : decode cX9_keeps 10 = .ok (.istore_n 2, 1) := by decide +kernel
theorem dX9_keeps_11 : decode cX9_keeps 11 = .ok (.iload_n 2, 1) := by decide +kernel
theorem dX9_keeps_12 : decode cX9_keeps 12 = .ok (.sipush 8330, 3) := by decide +kernel
theorem dX9_keeps_15 : decode cX9_keeps 15 = .ok (.if_icmp .ge 25, 3) := by decide +kernel
theorem dX9_keeps_18 : decode cX9_keeps 18 = .ok (.aload_n 0, 1) := by decide +kernel
theorem dX9_keeps_19 : decode cX9_keeps 19 = .ok (.getfield 19, 3) := by decide +kernel
theorem dX9_keeps_22 : decode cX9_keeps 22 = .ok (.iload_n 2, 1) := by decide +kernel
theorem dX9_keeps_23 : decode cX9_keeps 23 = .ok (.aload_n 0, 1) := by decide +kernel
theorem dX9_keeps_24 : decode cX9_keeps 24 = .ok (.getfield 19, 3) := by decide +kernel
theorem dX9_keeps_27 : decode cX9_keeps 27 = .ok (.iload_n 2, 1) := by decide +kernel
theorem dX9_keeps_28 : decode cX9_keeps 28 = .ok (.sipush 1190, 3) := by decide +kernel
theorem dX9_keeps_31 : decode cX9_keeps 31 = .ok (.iadd, 1) := by decide +kernel
theorem dX9_keeps_32 : decode cX9_keeps 32 = .ok (.iaload, 1) := by decide +kernel
theorem dX9_keeps_33 : decode cX9_keeps 33 = .ok (.iastore, 1) := by decide +kernel
theorem dX9_keeps_34 : decode cX9_keeps 34 = .ok (.iinc 2 1, 3) := by decide +kernel
theorem dX9_keeps_37 : decode cX9_keeps 37 = .ok (.goto (-26), 3) := by decide +kernel
theorem dX9_keeps_40 : decode cX9_keeps 40 = .ok (.aload_n 0, 1) := by decide +kernel
theorem dX9_keeps_41 : decode cX9_keeps 41 = .ok (.dup, 1) := by decide +kernel
theorem dX9_keeps_42 : decode cX9_keeps 42 = .ok (.getfield 49, 3) := by decide +kernel
theorem dX9_keeps_45 : decode cX9_keeps 45 = .ok (.iconst 1, 1) := by decide +kernel
theorem dX9_keeps_46 : decode cX9_keeps 46 = .ok (.isub, 1) := by decide +kernel
theorem dX9_keeps_47 : decode cX9_keeps 47 = .ok (.putfield 49, 3) := by decide +kernel
theorem dX9_keeps_50 : decode cX9_keeps 50 = .ok (.aload_n 0, 1) := by decide +kernel
theorem dX9_keeps_51 : decode cX9_keeps 51 = .ok (.getfield 19, 3) := by decide +kernel
theorem dX9_keeps_54 : decode cX9_keeps 54 = .ok (.sipush 1190, 3) := by decide +kernel
theorem dX9_keeps_57 : decode cX9_keeps 57 = .ok (.aload_n 0, 1) := by decide +kernel
theorem dX9_keeps_58 : decode cX9_keeps 58 = .ok (.getfield 49, 3) := by decide +kernel
theorem dX9_keeps_61 : decode cX9_keeps 61 = .ok (.imul, 1) := by decide +kernel
theorem dX9_keeps_62 : decode cX9_keeps 62 = .ok (.aload_n 1, 1) := by decide +kernel
theorem dX9_keeps_63 : decode cX9_keeps 63 = .ok (.iconst 0, 1) := by decide +kernel
theorem dX9_keeps_64 : decode cX9_keeps 64 = .ok (.invokestatic 52, 3) := by decide +kernel
theorem dX9_keeps_67 : decode cX9_keeps 67 = .ok (.aload_n 0, 1) := by decide +kernel
theorem dX9_keeps_68 : decode cX9_keeps 68 = .ok (.dup, 1) := by decide +kernel
theorem dX9_keeps_69 : decode cX9_keeps 69 = .ok (.getfield 49, 3) := by decide +kernel
theorem dX9_keeps_72 : decode cX9_keeps 72 = .ok (.iconst 1, 1) := by decide +kernel
theorem dX9_keeps_73 : decode cX9_keeps 73 = .ok (.iadd, 1) := by decide +kernel
theorem dX9_keeps_74 : decode cX9_keeps 74 = .ok (.putfield 49, 3) := by decide +kernel
theorem dX9_keeps_77 : decode cX9_keeps 77 = .ok (.return_, 1) := by decide +kernel
theorem dX9_undo_0 : decode cX9_undo 0 = .ok (.aload_n 0, 1) := by decide +kernel
theorem dX9_undo_1 : decode cX9_undo 1 = .ok (.aload_n 0, 1) := by decide +kernel
theorem dX9_undo_2 : decode cX9_undo 2 = .ok (.getfield 49, 3) := by decide +kernel
theorem dX9_undo_5 : decode cX9_undo 5 = .ok (.ifCond .ne 7, 3) := by decide +kernel
theorem dX9_undo_8 : decode cX9_undo 8 = .ok (.iconst 1, 1) := by decide +kernel
theorem dX9_undo_9 : decode cX9_undo 9 = .ok (.goto 4, 3) := by decide +kernel
theorem dX9_undo_12 : decode cX9_undo 12 = .ok (.iconst 0, 1) := by decide +kernel
theorem dX9_undo_13 : decode cX9_undo 13 = .ok (.putfield 46, 3) := by decide +kernel
theorem dX9_undo_16 : decode cX9_undo 16 = .ok (.aload_n 0, 1) := by decide +kernel
theorem dX9_undo_17 : decode cX9_undo 17 = .ok (.getfield 46, 3) := by decide +kernel
theorem dX9_undo_20 : decode cX9_undo 20 = .ok (.ifCond .le 5, 3) := by decide +kernel
theorem dX9_undo_23 : decode cX9_undo 23 = .ok (.iconst 0, 1) := by decide +kernel
theorem dX9_undo_24 : decode cX9_undo 24 = .ok (.ireturn, 1) := by decide +kernel
theorem dX9_undo_25 : decode cX9_undo 25 = .ok (.aload_n 0, 1) := by decide +kernel
theorem dX9_undo_26 : decode cX9_undo 26 = .ok (.dup, 1) := by decide +kernel
theorem dX9_undo_27 : decode cX9_undo 27 = .ok (.getfield 49, 3) := by decide +kernel
theorem dX9_undo_30 : decode cX9_undo 30 = .ok (.iconst 1, 1) := by decide +kernel
theorem dX9_undo_31 : decode cX9_undo 31 = .ok (.isub, 1) := by decide +kernel
theorem dX9_undo_32 : decode cX9_undo 32 = .ok (.putfield 49, 3) := by decide +kernel
theorem dX9_undo_35 : decode cX9_undo 35 = .ok (.aload_n 0, 1) := by decide +kernel
theorem dX9_undo_36 : decode cX9_undo 36 = .ok (.getfield 7, 3) := by decide +kernel
theorem dX9_undo_39 : decode cX9_undo 39 = .ok (.iconst 0, 1) := by decide +kernel
theorem dX9_undo_40 : decode cX9_undo 40 = .ok (.aload_n 0, 1) := by decide +kernel
theorem dX9_undo_41 : decode cX9_undo 41 = .ok (.getfield 19, 3) := by decide +kernel
theorem dX9_undo_44 : decode cX9_undo 44 = .ok (.sipush 1190, 3) := by decide +kernel
theorem dX9_undo_47 : decode cX9_undo 47 = .ok (.aload_n 0, 1) := by decide +kernel
theorem dX9_undo_48 : decode cX9_undo 48 = .ok (.getfield 49, 3) := by decide +kernel
theorem dX9_undo_51 : decode cX9_undo 51 = .ok (.imul, 1) := by decide +kernel
theorem dX9_undo_52 : decode cX9_undo 52 = .ok (.invokestatic 52, 3) := by decide +kernel
theorem dX9_undo_55 : decode cX9_undo 55 = .ok (.aload_n 0, 1) := by decide +kernel
theorem dX9_undo_56 : decode cX9_undo 56 = .ok (.getfield 49, 3) := by decide +kernel
theorem dX9_undo_59 : decode cX9_undo 59 = .ok (.ireturn, 1) := by decide +kernel
theorem dX9_save_0 : decode cX9_save 0 = .ok (.aload_n 0, 1) := by decide +kernel
theorem dX9_save_1 : decode cX9_save 1 = .ok (.iload_n 1, 1) := by decide +kernel
theorem dX9_save_2 : decode cX9_save 2 = .ok (.iconst 0, 1) := by decide +kernel
theorem dX9_save_3 : decode cX9_save 3 = .ok (.iconst 1, 1) := by decide +kernel
theorem dX9_save_4 : decode cX9_save 4 = .ok (.invokestatic 56, 3) := by decide +kernel
theorem dX9_save_7 : decode cX9_save 7 = .ok (.ifCond .eq 7, 3) := by decide +kernel
theorem dX9_save_10 : decode cX9_save 10 = .ok (.iconst 0, 1) := by decide +kernel
theorem dX9_save_11 : decode cX9_save 11 = .ok (.goto 4, 3) := by decide +kernel
theorem dX9_save_14 : decode cX9_save 14 = .ok (.iconst 1, 1) := by decide +kernel
theorem dX9_save_15 : decode cX9_save 15 = .ok (.putfield 46, 3) := by decide +kernel
theorem dX9_save_18 : decode cX9_save 18 = .ok (.aload_n 0, 1) := by decide +kernel
theorem dX9_save_19 : decode cX9_save 19 = .ok (.getfield 46, 3) := by decide +kernel
theorem dX9_save_22 : decode cX9_save 22 = .ok (.ifCond .le 4, 3) := by decide +kernel
theorem dX9_save_25 : decode cX9_save 25 = .ok (.return_, 1) := by decide +kernel
theorem dX9_save_26 : decode cX9_save 26 = .ok (.aload_n 0, 1) := by decide +kernel
theorem dX9_save_27 : decode cX9_save 27 = .ok (.getfield 22, 3) := by decide +kernel
theorem dX9_save_30 : decode cX9_save 30 = .ok (.sipush 1190, 3) := by decide +kernel
theorem dX9_save_33 : decode cX9_save 33 = .ok (.iload_n 1, 1) := by decide +kernel
theorem dX9_save_34 : decode cX9_save 34 = .ok (.imul, 1) := by decide +kernel
theorem dX9_save_35 : decode cX9_save 35 = .ok (.aload_n 0, 1) := by decide +kernel
theorem dX9_save_36 : decode cX9_save 36 = .ok (.getfield 7, 3) := by decide +kernel
theorem dX9_save_39 : decode cX9_save 39 = .ok (.iconst 0, 1) := by decide +kernel
theorem dX9_save_40 : decode cX9_save 40 = .ok (.invokestatic 52, 3) := by decide +kernel
theorem dX9_save_43 : decode cX9_save 43 = .ok (.aload_n 0, 1) := by decide +kernel
theorem dX9_save_44 : decode cX9_save 44 = .ok (.getfield 25, 3) := by decide +kernel
theorem dX9_save_47 : decode cX9_save 47 = .ok (.iload_n 1, 1) := by decide +kernel
theorem dX9_save_48 : decode cX9_save 48 = .ok (.iconst 1, 1) := by decide +kernel
theorem dX9_save_49 : decode cX9_save 49 = .ok (.bastore, 1) := by decide +kernel
theorem dX9_save_50 : decode cX9_save 50 = .ok (.return_, 1) := by decide +kernel
theorem dX9_restore_0 : decode cX9_restore 0 = .ok (.aload_n 0, 1) := by decide +kernel
theorem dX9_restore_1 : decode cX9_restore 1 = .ok (.iload_n 1, 1) := by decide +kernel
theorem dX9_restore_2 : decode cX9_restore 2 = .ok (.iconst 0, 1) := by decide +kernel
theorem dX9_restore_3 : decode cX9_restore 3 = .ok (.iconst 1, 1) := by decide +kernel
theorem dX9_restore_4 : decode cX9_restore 4 = .ok (.invokestatic 56, 3) := by decide +kernel
theorem dX9_restore_7 : decode cX9_restore 7 = .ok (.ifCond .ne 7, 3) := by decide +kernel
theorem dX9_restore_10 : decode cX9_restore 10 = .ok (.iconst 1, 1) := by decide +kernel
theorem dX9_restore_11 : decode cX9_restore 11 = .ok (.goto 17, 3) := by decide +kernel
theorem dX9_restore_14 : decode cX9_restore 14 = .ok (.aload_n 0, 1) := by decide +kernel
theorem dX9_restore_15 : decode cX9_restore 15 = .ok (.getfield 25, 3) := by decide +kernel
theorem dX9_restore_18 : decode cX9_restore 18 = .ok (.iload_n 1, 1) := by decide +kernel
theorem dX9_restore_19 : decode cX9_restore 19 = .ok (.baload, 1) := by decide +kernel
theorem dX9_restore_20 : decode cX9_restore 20 = .ok (.ifCond .eq 7, 3) := by decide +kernel
theorem dX9_restore_23 : decode cX9_restore 23 = .ok (.iconst 0, 1) := by decide +kernel
theorem dX9_restore_24 : decode cX9_restore 24 = .ok (.goto 4, 3) := by decide +kernel
theorem dX9_restore_27 : decode cX9_restore 27 = .ok (.iconst 2, 1) := by decide +kernel
theorem dX9_restore_28 : decode cX9_restore 28 = .ok (.putfield 46, 3) := by decide +kernel
theorem dX9_restore_31 : decode cX9_restore 31 = .ok (.aload_n 0, 1) := by decide +kernel
theorem dX9_restore_32 : decode cX9_restore 32 = .ok (.getfield 46, 3) := by decide +kernel
theorem dX9_restore_35 : decode cX9_restore 35 = .ok (.ifCond .le 5, 3) := by decide +kernel
theorem dX9_restore_38 : decode cX9_restore 38 = .ok (.iconst 0, 1) := by decide +kernel
theorem dX9_restore_39 : decode cX9_restore 39 = .ok (.ireturn, 1) := by decide +kernel
theorem dX9_restore_40 : decode cX9_restore 40 = .ok (.aload_n 0, 1) := by decide +kernel
theorem dX9_restore_41 : decode cX9_restore 41 = .ok (.aload_n 0, 1) := by decide +kernel
theorem dX9_restore_42 : decode cX9_restore 42 = .ok (.getfield 7, 3) := by decide +kernel
theorem dX9_restore_45 : decode cX9_restore 45 = .ok (.invokevirtual 60, 3) := by decide +kernel
theorem dX9_restore_48 : decode cX9_restore 48 = .ok (.aload_n 0, 1) := by decide +kernel
theorem dX9_restore_49 : decode cX9_restore 49 = .ok (.getfield 7, 3) := by decide +kernel
theorem dX9_restore_52 : decode cX9_restore 52 = .ok (.iconst 0, 1) := by decide +kernel
theorem dX9_restore_53 : decode cX9_restore 53 = .ok (.aload_n 0, 1) := by decide +kernel
theorem dX9_restore_54 : decode cX9_restore 54 = .ok (.getfield 22, 3) := by decide +kernel
theorem dX9_restore_57 : decode cX9_restore 57 = .ok (.sipush 1190, 3) := by decide +kernel
theorem dX9_restore_60 : decode cX9_restore 60 = .ok (.iload_n 1, 1) := by decide +kernel
theorem dX9_restore_61 : decode cX9_restore 61 = .ok (.imul, 1) := by decide +kernel
theorem dX9_restore_62 : decode cX9_restore 62 = .ok (.invokestatic 52, 3) := by decide +kernel
theorem dX9_restore_65 : decode cX9_restore 65 = .ok (.aload_n 0, 1) := by decide +kernel
theorem dX9_restore_66 : decode cX9_restore 66 = .ok (.getfield 7, 3) := by decide +kernel
theorem dX9_restore_69 : decode cX9_restore 69 = .ok (.iconst 3, 1) := by decide +kernel
theorem dX9_restore_70 : decode cX9_restore 70 = .ok (.iaload, 1) := by decide +kernel
theorem dX9_restore_71 : decode cX9_restore 71 = .ok (.ireturn, 1) := by decide +kernel
theorem dX9_byteOf_0 : decode cX9_byteOf 0 = .ok (.iload_n 0, 1) := by decide +kernel
theorem dX9_byteOf_1 : decode cX9_byteOf 1 = .ok (.iconst 4, 1) := by decide +kernel
theorem dX9_byteOf_2 : decode cX9_byteOf 2 = .ok (.if_icmp .ge 7, 3) := by decide +kernel
theorem dX9_byteOf_5 : decode cX9_byteOf 5 = .ok (.iload_n 1, 1) := by decide +kernel
theorem dX9_byteOf_6 : decode cX9_byteOf 6 = .ok (.goto 36, 3) := by decide +kernel
theorem dX9_byteOf_9 : decode cX9_byteOf 9 = .ok (.iload_n 0, 1) := by decide +kernel
theorem dX9_byteOf_10 : decode cX9_byteOf 10 = .ok (.bipush 8, 2) := by decide +kernel
theorem dX9_byteOf_12 : decode cX9_byteOf 12 = .ok (.if_icmp .ge 7, 3) := by decide +kernel
theorem dX9_byteOf_15 : decode cX9_byteOf 15 = .ok (.iload_n 2, 1) := by decide +kernel
theorem dX9_byteOf_16 : decode cX9_byteOf 16 = .ok (.goto 26, 3) := by decide +kernel
theorem dX9_byteOf_19 : decode cX9_byteOf 19 = .ok (.iload_n 0, 1) := by decide +kernel
theorem dX9_byteOf_20 : decode cX9_byteOf 20 = .ok (.bipush 12, 2) := by decide +kernel
theorem dX9_byteOf_22 : decode cX9_byteOf 22 = .ok (.if_icmp .ge 7, 3) := by decide +kernel
theorem dX9_byteOf_25 : decode cX9_byteOf 25 = .ok (.iload_n 3, 1) := by decide +kernel
theorem dX9_byteOf_26 : decode cX9_byteOf 26 = .ok (.goto 16, 3) := by decide +kernel
theorem dX9_byteOf_29 : decode cX9_byteOf 29 = .ok (.iload_n 0, 1) := by decide +kernel
theorem dX9_byteOf_30 : decode cX9_byteOf 30 = .ok (.bipush 16, 2) := by decide +kernel
theorem dX9_byteOf_32 : decode cX9_byteOf 32 = .ok (.if_icmp .ge 8, 3) := by decide +kernel
theorem dX9_byteOf_35 : decode cX9_byteOf 35 = .ok (.iload 4, 2) := by decide +kernel
theorem dX9_byteOf_37 : decode cX9_byteOf 37 = .ok (.goto 5, 3) := by decide +kernel
theorem dX9_byteOf_40 : decode cX9_byteOf 40 = .ok (.iload 5, 2) := by decide +kernel
theorem dX9_byteOf_42 : decode cX9_byteOf 42 = .ok (.istore 6, 2) := by decide +kernel
theorem dX9_byteOf_44 : decode cX9_byteOf 44 = .ok (.iload 6, 2) := by decide +kernel
theorem dX9_byteOf_46 : decode cX9_byteOf 46 = .ok (.bipush 24, 2) := by decide +kernel
theorem dX9_byteOf_48 : decode cX9_byteOf 48 = .ok (.bipush 8, 2) := by decide +kernel
theorem dX9_byteOf_50 : decode cX9_byteOf 50 = .ok (.iload_n 0, 1) := by decide +kernel
theorem dX9_byteOf_51 : decode cX9_byteOf 51 = .ok (.iconst 4, 1) := by decide +kernel
theorem dX9_byteOf_52 : decode cX9_byteOf 52 = .ok (.irem, 1) := by decide +kernel
theorem dX9_byteOf_53 : decode cX9_byteOf 53 = .ok (.imul, 1) := by decide +kernel
theorem dX9_byteOf_54 : decode cX9_byteOf 54 = .ok (.isub, 1) := by decide +kernel
theorem dX9_byteOf_55 : decode cX9_byteOf 55 = .ok (.ishr, 1) := by decide +kernel
theorem dX9_byteOf_56 : decode cX9_byteOf 56 = .ok (.sipush 255, 3) := by decide +kernel
theorem dX9_byteOf_59 : decode cX9_byteOf 59 = .ok (.iand, 1) := by decide +kernel
theorem dX9_byteOf_60 : decode cX9_byteOf 60 = .ok (.ireturn, 1) := by decide +kernel
theorem dX9_append_0 : decode cX9_append 0 = .ok (.iconst 0, 1) := by decide +kernel
theorem dX9_append_1 : decode cX9_append 1 = .ok (.istore 6, 2) := by decide +kernel
theorem dX9_append_3 : decode cX9_append 3 = .ok (.iconst 0, 1) := by decide +kernel
theorem dX9_append_4 : decode cX9_append 4 = .ok (.istore 7, 2) := by decide +kernel
theorem dX9_append_6 : decode cX9_append 6 = .ok (.iload 7, 2) := by decide +kernel
theorem dX9_append_8 : decode cX9_append 8 = .ok (.bipush 20, 2) := by decide +kernel
theorem dX9_append_10 : decode cX9_append 10 = .ok (.if_icmp .ge 34, 3) := by decide +kernel
theorem dX9_append_13 : decode cX9_append 13 = .ok (.iload 6, 2) := by decide +kernel
theorem dX9_append_15 : decode cX9_append 15 = .ok (.iload 7, 2) := by decide +kernel
theorem dX9_append_17 : decode cX9_append 17 = .ok (.iload_n 1, 1) := by decide +kernel
theorem dX9_append_18 : decode cX9_append 18 = .ok (.iload_n 2, 1) := by decide +kernel
theorem dX9_append_19 : decode cX9_append 19 = .ok (.iload_n 3, 1) := by decide +kernel
theorem dX9_append_20 : decode cX9_append 20 = .ok (.iload 4, 2) := by decide +kernel
theorem dX9_append_22 : decode cX9_append 22 = .ok (.iload 5, 2) := by decide +kernel
theorem dX9_append_24 : decode cX9_append 24 = .ok (.invokestatic 64, 3) := by decide +kernel
theorem dX9_append_27 : decode cX9_append 27 = .ok (.ifCond .ne 7, 3) := by decide +kernel
theorem dX9_append_30 : decode cX9_append 30 = .ok (.iconst 0, 1) := by decide +kernel
theorem dX9_append_31 : decode cX9_append 31 = .ok (.goto 4, 3) := by decide +kernel
theorem dX9_append_34 : decode cX9_append 34 = .ok (.iconst 1, 1) := by decide +kernel
theorem dX9_append_35 : decode cX9_append 35 = .ok (.iadd, 1) := by decide +kernel
theorem dX9_append_36 : decode cX9_append 36 = .ok (.istore 6, 2) := by decide +kernel
theorem dX9_append_38 : decode cX9_append 38 = .ok (.iinc 7 1, 3) := by decide +kernel
theorem dX9_append_41 : decode cX9_append 41 = .ok (.goto (-35), 3) := by decide +kernel
theorem dX9_append_44 : decode cX9_append 44 = .ok (.aload_n 0, 1) := by decide +kernel
theorem dX9_append_45 : decode cX9_append 45 = .ok (.aload_n 0, 1) := by decide +kernel
theorem dX9_append_46 : decode cX9_append 46 = .ok (.getfield 68, 3) := by decide +kernel
theorem dX9_append_49 : decode cX9_append 49 = .ok (.iload 6, 2) := by decide +kernel
theorem dX9_append_51 : decode cX9_append 51 = .ok (.iadd, 1) := by decide +kernel
theorem dX9_append_52 : decode cX9_append 52 = .ok (.sipush 600, 3) := by decide +kernel
theorem dX9_append_55 : decode cX9_append 55 = .ok (.if_icmp .le 7, 3) := by decide +kernel
theorem dX9_append_58 : decode cX9_append 58 = .ok (.iconst 1, 1) := by decide +kernel
theorem dX9_append_59 : decode cX9_append 59 = .ok (.goto 4, 3) := by decide +kernel
theorem dX9_append_62 : decode cX9_append 62 = .ok (.iconst 0, 1) := by decide +kernel
theorem dX9_append_63 : decode cX9_append 63 = .ok (.putfield 46, 3) := by decide +kernel
theorem dX9_append_66 : decode cX9_append 66 = .ok (.aload_n 0, 1) := by decide +kernel
theorem dX9_append_67 : decode cX9_append 67 = .ok (.getfield 46, 3) := by decide +kernel
theorem dX9_append_70 : decode cX9_append 70 = .ok (.ifCond .le 5, 3) := by decide +kernel
theorem dX9_append_73 : decode cX9_append 73 = .ok (.iconst 0, 1) := by decide +kernel
theorem dX9_append_74 : decode cX9_append 74 = .ok (.ireturn, 1) := by decide +kernel
theorem dX9_append_75 : decode cX9_append 75 = .ok (.iconst 0, 1) := by decide +kernel
theorem dX9_append_76 : decode cX9_append 76 = .ok (.istore 7, 2) := by decide +kernel
theorem dX9_append_78 : decode cX9_append 78 = .ok (.iload 7, 2) := by decide +kernel
theorem dX9_append_80 : decode cX9_append 80 = .ok (.bipush 20, 2) := by decide +kernel
theorem dX9_append_82 : decode cX9_append 82 = .ok (.if_icmp .ge 52, 3) := by decide +kernel
theorem dX9_append_85 : decode cX9_append 85 = .ok (.iload 7, 2) := by decide +kernel
theorem dX9_append_87 : decode cX9_append 87 = .ok (.iload_n 1, 1) := by decide +kernel
theorem dX9_append_88 : decode cX9_append 88 = .ok (.iload_n 2, 1) := by decide +kernel
theorem dX9_append_89 : decode cX9_append 89 = .ok (.iload_n 3, 1) := by decide +kernel
theorem dX9_append_90 : decode cX9_append 90 = .ok (.iload 4, 2) := by decide +kernel
theorem dX9_append_92 : decode cX9_append 92 = .ok (.iload 5, 2) := by decide +kernel
theorem dX9_append_94 : decode cX9_append 94 = .ok (.invokestatic 64, 3) := by decide +kernel
theorem dX9_append_97 : decode cX9_append 97 = .ok (.istore 8, 2) := by decide +kernel
theorem dX9_append_99 : decode cX9_append 99 = .ok (.iload 8, 2) := by decide +kernel
theorem dX9_append_101 : decode cX9_append 101 = .ok (.ifCond .ne 6, 3) := by decide +kernel
theorem dX9_append_104 : decode cX9_append 104 = .ok (.goto 24, 3) := by decide +kernel
theorem dX9_append_107 : decode cX9_append 107 = .ok (.aload_n 0, 1) := by decide +kernel
theorem dX9_append_108 : decode cX9_append 108 = .ok (.getfield 29, 3) := by decide +kernel
theorem dX9_append_111 : decode cX9_append 111 = .ok (.aload_n 0, 1) := by decide +kernel
theorem dX9_append_112 : decode cX9_append 112 = .ok (.getfield 68, 3) := by decide +kernel
theorem dX9_append_115 : decode cX9_append 115 = .ok (.iload 8, 2) := by decide +kernel
theorem dX9_append_117 : decode cX9_append 117 = .ok (.iastore, 1) := by decide +kernel
theorem dX9_append_118 : decode cX9_append 118 = .ok (.aload_n 0, 1) := by decide +kernel
theorem dX9_append_119 : decode cX9_append 119 = .ok (.dup, 1) := by decide +kernel
theorem dX9_append_120 : decode cX9_append 120 = .ok (.getfield 68, 3) := by decide +kernel
theorem dX9_append_123 : decode cX9_append 123 = .ok (.iconst 1, 1) := by decide +kernel
theorem dX9_append_124 : decode cX9_append 124 = .ok (.iadd, 1) := by decide +kernel
theorem dX9_append_125 : decode cX9_append 125 = .ok (.putfield 68, 3) := by decide +kernel
theorem dX9_append_128 : decode cX9_append 128 = .ok (.iinc 7 1, 3) := by decide +kernel
theorem dX9_append_131 : decode cX9_append 131 = .ok (.goto (-53), 3) := by decide +kernel
theorem dX9_append_134 : decode cX9_append 134 = .ok (.aload_n 0, 1) := by decide +kernel
theorem dX9_append_135 : decode cX9_append 135 = .ok (.getfield 68, 3) := by decide +kernel
theorem dX9_append_138 : decode cX9_append 138 = .ok (.ireturn, 1) := by decide +kernel
theorem dX9_see_0 : decode cX9_see 0 = .ok (.iload_n 1, 1) := by decide +kernel
theorem dX9_see_1 : decode cX9_see 1 = .ok (.aload_n 0, 1) := by decide +kernel
theorem dX9_see_2 : decode cX9_see 2 = .ok (.getfield 68, 3) := by decide +kernel
theorem dX9_see_5 : decode cX9_see 5 = .ok (.if_icmp .ge 12, 3) := by decide +kernel
theorem dX9_see_8 : decode cX9_see 8 = .ok (.aload_n 0, 1) := by decide +kernel
theorem dX9_see_9 : decode cX9_see 9 = .ok (.getfield 29, 3) := by decide +kernel
theorem dX9_see_12 : decode cX9_see 12 = .ok (.iload_n 1, 1) := by decide +kernel
theorem dX9_see_13 : decode cX9_see 13 = .ok (.iaload, 1) := by decide +kernel
theorem dX9_see_14 : decode cX9_see 14 = .ok (.goto 4, 3) := by decide +kernel
theorem dX9_see_17 : decode cX9_see 17 = .ok (.iconst (-1), 1) := by decide +kernel
theorem dX9_see_18 : decode cX9_see 18 = .ok (.ireturn, 1) := by decide +kernel
theorem dX9_isLetter_0 : decode cX9_isLetter 0 = .ok (.aload_n 0, 1) := by decide +kernel
theorem dX9_isLetter_1 : decode cX9_isLetter 1 = .ok (.iload_n 1, 1) := by decide +kernel
theorem dX9_isLetter_2 : decode cX9_isLetter 2 = .ok (.invokevirtual 71, 3) := by decide +kernel
theorem dX9_isLetter_5 : decode cX9_isLetter 5 = .ok (.bipush 97, 2) := by decide +kernel
theorem dX9_isLetter_7 : decode cX9_isLetter 7 = .ok (.bipush 122, 2) := by decide +kernel
theorem dX9_isLetter_9 : decode cX9_isLetter 9 = .ok (.invokestatic 56, 3) := by decide +kernel
theorem dX9_isLetter_12 : decode cX9_isLetter 12 = .ok (.ireturn, 1) := by decide +kernel
theorem dX9_isDigit_0 : decode cX9_isDigit 0 = .ok (.aload_n 0, 1) := by decide +kernel
theorem dX9_isDigit_1 : decode cX9_isDigit 1 = .ok (.iload_n 1, 1) := by decide +kernel
theorem dX9_isDigit_2 : decode cX9_isDigit 2 = .ok (.invokevirtual 71, 3) := by decide +kernel
theorem dX9_isDigit_5 : decode cX9_isDigit 5 = .ok (.bipush 48, 2) := by decide +kernel
theorem dX9_isDigit_7 : decode cX9_isDigit 7 = .ok (.bipush 57, 2) := by decide +kernel
theorem dX9_isDigit_9 : decode cX9_isDigit 9 = .ok (.invokestatic 56, 3) := by decide +kernel
theorem dX9_isDigit_12 : decode cX9_isDigit 12 = .ok (.ireturn, 1) := by decide +kernel
theorem dX9_next_0 : decode cX9_next 0 = .ok (.aload_n 0, 1) := by decide +kernel
theorem dX9_next_1 : decode cX9_next 1 = .ok (.aload_n 0, 1) := by decide +kernel
theorem dX9_next_2 : decode cX9_next 2 = .ok (.getfield 75, 3) := by decide +kernel
theorem dX9_next_5 : decode cX9_next 5 = .ok (.putfield 78, 3) := by decide +kernel
theorem dX9_next_8 : decode cX9_next 8 = .ok (.aload_n 0, 1) := by decide +kernel
theorem dX9_next_9 : decode cX9_next 9 = .ok (.aload_n 0, 1) := by decide +kernel
theorem dX9_next_10 : decode cX9_next 10 = .ok (.getfield 78, 3) := by decide +kernel
theorem dX9_next_13 : decode cX9_next 13 = .ok (.invokevirtual 71, 3) := by decide +kernel
theorem dX9_next_16 : decode cX9_next 16 = .ok (.bipush 32, 2) := by decide +kernel
theorem dX9_next_18 : decode cX9_next 18 = .ok (.if_icmp .ne 16, 3) := by decide +kernel
theorem dX9_next_21 : decode cX9_next 21 = .ok (.aload_n 0, 1) := by decide +kernel
theorem dX9_next_22 : decode cX9_next 22 = .ok (.dup, 1) := by decide +kernel
theorem dX9_next_23 : decode cX9_next 23 = .ok (.getfield 78, 3) := by decide +kernel
theorem dX9_next_26 : decode cX9_next 26 = .ok (.iconst 1, 1) := by decide +kernel
theorem dX9_next_27 : decode cX9_next 27 = .ok (.iadd, 1) := by decide +kernel
theorem dX9_next_28 : decode cX9_next 28 = .ok (.putfield 78, 3) := by decide +kernel
theorem dX9_next_31 : decode cX9_next 31 = .ok (.goto (-23), 3) := by decide +kernel
theorem dX9_next_34 : decode cX9_next 34 = .ok (.aload_n 0, 1) := by decide +kernel
theorem dX9_next_35 : decode cX9_next 35 = .ok (.aload_n 0, 1) := by decide +kernel
theorem dX9_next_36 : decode cX9_next 36 = .ok (.getfield 78, 3) := by decide +kernel
theorem dX9_next_39 : decode cX9_next 39 = .ok (.putfield 75, 3) := by decide +kernel
theorem dX9_next_42 : decode cX9_next 42 = .ok (.aload_n 0, 1) := by decide +kernel
theorem dX9_next_43 : decode cX9_next 43 = .ok (.iconst 0, 1) := by decide +kernel
theorem dX9_next_44 : decode cX9_next 44 = .ok (.putfield 81, 3) := by decide +kernel
theorem dX9_next_47 : decode cX9_next 47 = .ok (.aload_n 0, 1) := by decide +kernel
theorem dX9_next_48 : decode cX9_next 48 = .ok (.getfield 78, 3) := by decide +kernel
theorem dX9_next_51 : decode cX9_next 51 = .ok (.aload_n 0, 1) := by decide +kernel
theorem dX9_next_52 : decode cX9_next 52 = .ok (.getfield 68, 3) := by decide +kernel
theorem dX9_next_55 : decode cX9_next 55 = .ok (.if_icmp .lt 11, 3) := by decide +kernel
theorem dX9_next_58 : decode cX9_next 58 = .ok (.aload_n 0, 1) := by decide +kernel
theorem dX9_next_59 : decode cX9_next 59 = .ok (.iconst 3, 1) := by decide +kernel
theorem dX9_next_60 : decode cX9_next 60 = .ok (.putfield 84, 3) := by decide +kernel
theorem dX9_next_63 : decode cX9_next 63 = .ok (.goto 132, 3) := by decide +kernel
theorem dX9_next_66 : decode cX9_next 66 = .ok (.aload_n 0, 1) := by decide +kernel
theorem dX9_next_67 : decode cX9_next 67 = .ok (.aload_n 0, 1) := by decide +kernel
theorem dX9_next_68 : decode cX9_next 68 = .ok (.getfield 78, 3) := by decide +kernel
theorem dX9_next_71 : decode cX9_next 71 = .ok (.invokevirtual 87, 3) := by decide +kernel
theorem dX9_next_74 : decode cX9_next 74 = .ok (.ifCond .eq 35, 3) := by decide +kernel
theorem dX9_next_77 : decode cX9_next 77 = .ok (.aload_n 0, 1) := by decide +kernel
theorem dX9_next_78 : decode cX9_next 78 = .ok (.aload_n 0, 1) := by decide +kernel
theorem dX9_next_79 : decode cX9_next 79 = .ok (.getfield 75, 3) := by decide +kernel
theorem dX9_next_82 : decode cX9_next 82 = .ok (.invokevirtual 87, 3) := by decide +kernel
theorem dX9_next_85 : decode cX9_next 85 = .ok (.ifCond .eq 16, 3) := by decide +kernel
theorem dX9_next_88 : decode cX9_next 88 = .ok (.aload_n 0, 1) := by decide +kernel
theorem dX9_next_89 : decode cX9_next 89 = .ok (.dup, 1) := by decide +kernel
theorem dX9_next_90 : decode cX9_next 90 = .ok (.getfield 75, 3) := by decide +kernel
theorem dX9_next_93 : decode cX9_next 93 = .ok (.iconst 1, 1) := by decide +kernel
theorem dX9_next_94 : decode cX9_next 94 = .ok (.iadd, 1) := by decide +kernel
theorem dX9_next_95 : decode cX9_next 95 = .ok (.putfield 75, 3) := by decide +kernel
theorem dX9_next_98 : decode cX9_next 98 = .ok (.goto (-21), 3) := by decide +kernel
theorem dX9_next_101 : decode cX9_next 101 = .ok (.aload_n 0, 1) := by decide +kernel
theorem dX9_next_102 : decode cX9_next 102 = .ok (.iconst 0, 1) := by decide +kernel
theorem dX9_next_103 : decode cX9_next 103 = .ok (.putfield 84, 3) := by decide +kernel
theorem dX9_next_106 : decode cX9_next 106 = .ok (.goto 89, 3) := by decide +kernel
theorem dX9_next_109 : decode cX9_next 109 = .ok (.aload_n 0, 1) := by decide +kernel
theorem dX9_next_110 : decode cX9_next 110 = .ok (.aload_n 0, 1) := by decide +kernel
theorem dX9_next_111 : decode cX9_next 111 = .ok (.getfield 78, 3) := by decide +kernel
theorem dX9_next_114 : decode cX9_next 114 = .ok (.invokevirtual 91, 3) := by decide +kernel
theorem dX9_next_117 : decode cX9_next 117 = .ok (.ifCond .eq 63, 3) := by decide +kernel
theorem dX9_next_120 : decode cX9_next 120 = .ok (.aload_n 0, 1) := by decide +kernel
theorem dX9_next_121 : decode cX9_next 121 = .ok (.aload_n 0, 1) := by decide +kernel
theorem dX9_next_122 : decode cX9_next 122 = .ok (.getfield 75, 3) := by decide +kernel
theorem dX9_next_125 : decode cX9_next 125 = .ok (.invokevirtual 91, 3) := by decide +kernel
theorem dX9_next_128 : decode cX9_next 128 = .ok (.ifCond .eq 44, 3) := by decide +kernel
theorem dX9_next_131 : decode cX9_next 131 = .ok (.aload_n 0, 1) := by decide +kernel
theorem dX9_next_132 : decode cX9_next 132 = .ok (.ldc 94, 2) := by decide +kernel
theorem dX9_next_134 : decode cX9_next 134 = .ok (.bipush 10, 2) := by decide +kernel
theorem dX9_next_136 : decode cX9_next 136 = .ok (.aload_n 0, 1) := by decide +kernel
theorem dX9_next_137 : decode cX9_next 137 = .ok (.getfield 81, 3) := by decide +kernel
theorem dX9_next_140 : decode cX9_next 140 = .ok (.imul, 1) := by decide +kernel
theorem dX9_next_141 : decode cX9_next 141 = .ok (.aload_n 0, 1) := by decide +kernel
theorem dX9_next_142 : decode cX9_next 142 = .ok (.aload_n 0, 1) := by decide +kernel
theorem dX9_next_143 : decode cX9_next 143 = .ok (.getfield 75, 3) := by decide +kernel
theorem dX9_next_146 : decode cX9_next 146 = .ok (.invokevirtual 71, 3) := by decide +kernel
theorem dX9_next_149 : decode cX9_next 149 = .ok (.iadd, 1) := by decide +kernel
theorem dX9_next_150 : decode cX9_next 150 = .ok (.bipush 48, 2) := by decide +kernel
theorem dX9_next_152 : decode cX9_next 152 = .ok (.isub, 1) := by decide +kernel
theorem dX9_next_153 : decode cX9_next 153 = .ok (.invokestatic 95, 3) := by decide +kernel
theorem dX9_next_156 : decode cX9_next 156 = .ok (.putfield 81, 3) := by decide +kernel
theorem dX9_next_159 : decode cX9_next 159 = .ok (.aload_n 0, 1) := by decide +kernel
theorem dX9_next_160 : decode cX9_next 160 = .ok (.dup, 1) := by decide +kernel
theorem dX9_next_161 : decode cX9_next 161 = .ok (.getfield 75, 3) := by decide +kernel
theorem dX9_next_164 : decode cX9_next 164 = .ok (.iconst 1, 1) := by decide +kernel
theorem dX9_next_165 : decode cX9_next 165 = .ok (.iadd, 1) := by decide +kernel
theorem dX9_next_166 : decode cX9_next 166 = .ok (.putfield 75, 3) := by decide +kernel
theorem dX9_next_169 : decode cX9_next 169 = .ok (.goto (-49), 3) := by decide +kernel
theorem dX9_next_172 : decode cX9_next 172 = .ok (.aload_n 0, 1) := by decide +kernel
theorem dX9_next_173 : decode cX9_next 173 = .ok (.iconst 1, 1) := by decide +kernel
theorem dX9_next_174 : decode cX9_next 174 = .ok (.putfield 84, 3) := by decide +kernel
theorem dX9_next_177 : decode cX9_next 177 = .ok (.goto 18, 3) := by decide +kernel
theorem dX9_next_180 : decode cX9_next 180 = .ok (.aload_n 0, 1) := by decide +kernel
theorem dX9_next_181 : decode cX9_next 181 = .ok (.dup, 1) := by decide +kernel
theorem dX9_next_182 : decode cX9_next 182 = .ok (.getfield 75, 3) := by decide +kernel
theorem dX9_next_185 : decode cX9_next 185 = .ok (.iconst 1, 1) := by decide +kernel
theorem dX9_next_186 : decode cX9_next 186 = .ok (.iadd, 1) := by decide +kernel
theorem dX9_next_187 : decode cX9_next 187 = .ok (.putfield 75, 3) := by decide +kernel
theorem dX9_next_190 : decode cX9_next 190 = .ok (.aload_n 0, 1) := by decide +kernel
theorem dX9_next_191 : decode cX9_next 191 = .ok (.iconst 2, 1) := by decide +kernel
theorem dX9_next_192 : decode cX9_next 192 = .ok (.putfield 84, 3) := by decide +kernel
theorem dX9_next_195 : decode cX9_next 195 = .ok (.return_, 1) := by decide +kernel
theorem dX9_isWord_0 : decode cX9_isWord 0 = .ok (.aload_n 0, 1) := by decide +kernel
theorem dX9_isWord_1 : decode cX9_isWord 1 = .ok (.getfield 101, 3) := by decide +kernel
theorem dX9_isWord_4 : decode cX9_isWord 4 = .ok (.ifCond .ne 26, 3) := by decide +kernel
theorem dX9_isWord_7 : decode cX9_isWord 7 = .ok (.aload_n 0, 1) := by decide +kernel
theorem dX9_isWord_8 : decode cX9_isWord 8 = .ok (.getfield 84, 3) := by decide +kernel
theorem dX9_isWord_11 : decode cX9_isWord 11 = .ok (.ifCond .ne 19, 3) := by decide +kernel
theorem dX9_isWord_14 : decode cX9_isWord 14 = .ok (.aload_n 0, 1) := by decide +kernel
theorem dX9_isWord_15 : decode cX9_isWord 15 = .ok (.getfield 75, 3) := by decide +kernel
theorem dX9_isWord_18 : decode cX9_isWord 18 = .ok (.aload_n 0, 1) := by decide +kernel
theorem dX9_isWord_19 : decode cX9_isWord 19 = .ok (.getfield 78, 3) := by decide +kernel
theorem dX9_isWord_22 : decode cX9_isWord 22 = .ok (.isub, 1) := by decide +kernel
theorem dX9_isWord_23 : decode cX9_isWord 23 = .ok (.aload_n 1, 1) := by decide +kernel
theorem dX9_isWord_24 : decode cX9_isWord 24 = .ok (.invokevirtual 104, 3) := by decide +kernel
theorem dX9_isWord_27 : decode cX9_isWord 27 = .ok (.if_icmp .eq 5, 3) := by decide +kernel
theorem dX9_isWord_30 : decode cX9_isWord 30 = .ok (.iconst 0, 1) := by decide +kernel
theorem dX9_isWord_31 : decode cX9_isWord 31 = .ok (.ireturn, 1) := by decide +kernel
theorem dX9_isWord_32 : decode cX9_isWord 32 = .ok (.iconst 0, 1) := by decide +kernel
theorem dX9_isWord_33 : decode cX9_isWord 33 = .ok (.istore_n 2, 1) := by decide +kernel
theorem dX9_isWord_34 : decode cX9_isWord 34 = .ok (.iload_n 2, 1) := by decide +kernel
theorem dX9_isWord_35 : decode cX9_isWord 35 = .ok (.aload_n 1, 1) := by decide +kernel
theorem dX9_isWord_36 : decode cX9_isWord 36 = .ok (.invokevirtual 104, 3) := by decide +kernel
theorem dX9_isWord_39 : decode cX9_isWord 39 = .ok (.if_icmp .ge 30, 3) := by decide +kernel
theorem dX9_isWord_42 : decode cX9_isWord 42 = .ok (.aload_n 0, 1) := by decide +kernel
theorem dX9_isWord_43 : decode cX9_isWord 43 = .ok (.getfield 29, 3) := by decide +kernel
theorem dX9_isWord_46 : decode cX9_isWord 46 = .ok (.aload_n 0, 1) := by decide +kernel
theorem dX9_isWord_47 : decode cX9_isWord 47 = .ok (.getfield 78, 3) := by decide +kernel
theorem dX9_isWord_50 : decode cX9_isWord 50 = .ok (.iload_n 2, 1) := by decide +kernel
theorem dX9_isWord_51 : decode cX9_isWord 51 = .ok (.iadd, 1) := by decide +kernel
theorem dX9_isWord_52 : decode cX9_isWord 52 = .ok (.iaload, 1) := by decide +kernel
theorem dX9_isWord_53 : decode cX9_isWord 53 = .ok (.aload_n 1, 1) := by decide +kernel
theorem dX9_isWord_54 : decode cX9_isWord 54 = .ok (.iload_n 2, 1) := by decide +kernel
theorem dX9_isWord_55 : decode cX9_isWord 55 = .ok (.invokevirtual 110, 3) := by decide +kernel
theorem dX9_isWord_58 : decode cX9_isWord 58 = .ok (.if_icmp .eq 5, 3) := by decide +kernel
theorem dX9_isWord_61 : decode cX9_isWord 61 = .ok (.iconst 0, 1) := by decide +kernel
theorem dX9_isWord_62 : decode cX9_isWord 62 = .ok (.ireturn, 1) := by decide +kernel
theorem dX9_isWord_63 : decode cX9_isWord 63 = .ok (.iinc 2 1, 3) := by decide +kernel
theorem dX9_isWord_66 : decode cX9_isWord 66 = .ok (.goto (-32), 3) := by decide +kernel
theorem dX9_isWord_69 : decode cX9_isWord 69 = .ok (.iconst 1, 1) := by decide +kernel
theorem dX9_isWord_70 : decode cX9_isWord 70 = .ok (.ireturn, 1) := by decide +kernel
theorem dX9_isSign_0 : decode cX9_isSign 0 = .ok (.aload_n 0, 1) := by decide +kernel
theorem dX9_isSign_1 : decode cX9_isSign 1 = .ok (.getfield 101, 3) := by decide +kernel
theorem dX9_isSign_4 : decode cX9_isSign 4 = .ok (.ifCond .ne 27, 3) := by decide +kernel
theorem dX9_isSign_7 : decode cX9_isSign 7 = .ok (.aload_n 0, 1) := by decide +kernel
theorem dX9_isSign_8 : decode cX9_isSign 8 = .ok (.getfield 84, 3) := by decide +kernel
theorem dX9_isSign_11 : decode cX9_isSign 11 = .ok (.iconst 2, 1) := by decide +kernel
theorem dX9_isSign_12 : decode cX9_isSign 12 = .ok (.if_icmp .ne 19, 3) := by decide +kernel
theorem dX9_isSign_15 : decode cX9_isSign 15 = .ok (.aload_n 0, 1) := by decide +kernel
theorem dX9_isSign_16 : decode cX9_isSign 16 = .ok (.aload_n 0, 1) := by decide +kernel
theorem dX9_isSign_17 : decode cX9_isSign 17 = .ok (.getfield 78, 3) := by decide +kernel
theorem dX9_isSign_20 : decode cX9_isSign 20 = .ok (.invokevirtual 71, 3) := by decide +kernel
theorem dX9_isSign_23 : decode cX9_isSign 23 = .ok (.iload_n 1, 1) := by decide +kernel
theorem dX9_isSign_24 : decode cX9_isSign 24 = .ok (.if_icmp .ne 7, 3) := by decide +kernel
theorem dX9_isSign_27 : decode cX9_isSign 27 = .ok (.iconst 1, 1) := by decide +kernel
theorem dX9_isSign_28 : decode cX9_isSign 28 = .ok (.goto 4, 3) := by decide +kernel
theorem dX9_isSign_31 : decode cX9_isSign 31 = .ok (.iconst 0, 1) := by decide +kernel
theorem dX9_isSign_32 : decode cX9_isSign 32 = .ok (.ireturn, 1) := by decide +kernel
theorem dX9_fails_0 : decode cX9_fails 0 = .ok (.aload_n 0, 1) := by decide +kernel
theorem dX9_fails_1 : decode cX9_fails 1 = .ok (.getfield 101, 3) := by decide +kernel
theorem dX9_fails_4 : decode cX9_fails 4 = .ok (.ifCond .eq 4, 3) := by decide +kernel
theorem dX9_fails_7 : decode cX9_fails 7 = .ok (.return_, 1) := by decide +kernel
theorem dX9_fails_8 : decode cX9_fails 8 = .ok (.aload_n 0, 1) := by decide +kernel
theorem dX9_fails_9 : decode cX9_fails 9 = .ok (.iload_n 1, 1) := by decide +kernel
theorem dX9_fails_10 : decode cX9_fails 10 = .ok (.putfield 101, 3) := by decide +kernel
theorem dX9_fails_13 : decode cX9_fails 13 = .ok (.aload_n 0, 1) := by decide +kernel
theorem dX9_fails_14 : decode cX9_fails 14 = .ok (.aload_n 0, 1) := by decide +kernel
theorem dX9_fails_15 : decode cX9_fails 15 = .ok (.getfield 78, 3) := by decide +kernel
theorem dX9_fails_18 : decode cX9_fails 18 = .ok (.putfield 114, 3) := by decide +kernel
theorem dX9_fails_21 : decode cX9_fails 21 = .ok (.return_, 1) := by decide +kernel
theorem dX9_must_0 : decode cX9_must 0 = .ok (.iload_n 1, 1) := by decide +kernel
theorem dX9_must_1 : decode cX9_must 1 = .ok (.ifCond .ne 9, 3) := by decide +kernel
theorem dX9_must_4 : decode cX9_must 4 = .ok (.aload_n 0, 1) := by decide +kernel
theorem dX9_must_5 : decode cX9_must 5 = .ok (.bipush (-2), 2) := by decide +kernel
theorem dX9_must_7 : decode cX9_must 7 = .ok (.invokevirtual 117, 3) := by decide +kernel
theorem dX9_must_10 : decode cX9_must 10 = .ok (.aload_n 0, 1) := by decide +kernel
theorem dX9_must_11 : decode cX9_must 11 = .ok (.getfield 101, 3) := by decide +kernel
theorem dX9_must_14 : decode cX9_must 14 = .ok (.ifCond .ne 7, 3) := by decide +kernel
theorem dX9_must_17 : decode cX9_must 17 = .ok (.aload_n 0, 1) := by decide +kernel
theorem dX9_must_18 : decode cX9_must 18 = .ok (.invokevirtual 121, 3) := by decide +kernel
theorem dX9_must_21 : decode cX9_must 21 = .ok (.return_, 1) := by decide +kernel
theorem dX9_stands_0 : decode cX9_stands 0 = .ok (.aload_n 0, 1) := by decide +kernel
theorem dX9_stands_1 : decode cX9_stands 1 = .ok (.getfield 101, 3) := by decide +kernel
theorem dX9_stands_4 : decode cX9_stands 4 = .ok (.ifCond .ne 17, 3) := by decide +kernel
theorem dX9_stands_7 : decode cX9_stands 7 = .ok (.aload_n 0, 1) := by decide +kernel
theorem dX9_stands_8 : decode cX9_stands 8 = .ok (.getfield 84, 3) := by decide +kernel
theorem dX9_stands_11 : decode cX9_stands 11 = .ok (.iconst 1, 1) := by decide +kernel
theorem dX9_stands_12 : decode cX9_stands 12 = .ok (.if_icmp .eq 9, 3) := by decide +kernel
theorem dX9_stands_15 : decode cX9_stands 15 = .ok (.aload_n 0, 1) := by decide +kernel
theorem dX9_stands_16 : decode cX9_stands 16 = .ok (.bipush (-2), 2) := by decide +kernel
theorem dX9_stands_18 : decode cX9_stands 18 = .ok (.invokevirtual 117, 3) := by decide +kernel
theorem dX9_stands_21 : decode cX9_stands 21 = .ok (.aload_n 0, 1) := by decide +kernel
theorem dX9_stands_22 : decode cX9_stands 22 = .ok (.getfield 101, 3) := by decide +kernel
theorem dX9_stands_25 : decode cX9_stands 25 = .ok (.ifCond .ne 21, 3) := by decide +kernel
theorem dX9_stands_28 : decode cX9_stands 28 = .ok (.aload_n 0, 1) := by decide +kernel
theorem dX9_stands_29 : decode cX9_stands 29 = .ok (.getfield 81, 3) := by decide +kernel
theorem dX9_stands_32 : decode cX9_stands 32 = .ok (.iload_n 1, 1) := by decide +kernel
theorem dX9_stands_33 : decode cX9_stands 33 = .ok (.iload_n 2, 1) := by decide +kernel
theorem dX9_stands_34 : decode cX9_stands 34 = .ok (.invokestatic 56, 3) := by decide +kernel
theorem dX9_stands_37 : decode cX9_stands 37 = .ok (.ifCond .ne 9, 3) := by decide +kernel
theorem dX9_stands_40 : decode cX9_stands 40 = .ok (.aload_n 0, 1) := by decide +kernel
theorem dX9_stands_41 : decode cX9_stands 41 = .ok (.bipush (-3), 2) := by decide +kernel
theorem dX9_stands_43 : decode cX9_stands 43 = .ok (.invokevirtual 117, 3) := by decide +kernel
theorem dX9_stands_46 : decode cX9_stands 46 = .ok (.aload_n 0, 1) := by decide +kernel
theorem dX9_stands_47 : decode cX9_stands 47 = .ok (.getfield 101, 3) := by decide +kernel
theorem dX9_stands_50 : decode cX9_stands 50 = .ok (.ifCond .ne 10, 3) := by decide +kernel
theorem dX9_stands_53 : decode cX9_stands 53 = .ok (.aload_n 0, 1) := by decide +kernel
theorem dX9_stands_54 : decode cX9_stands 54 = .ok (.getfield 81, 3) := by decide +kernel
theorem dX9_stands_57 : decode cX9_stands 57 = .ok (.goto 4, 3) := by decide +kernel
theorem dX9_stands_60 : decode cX9_stands 60 = .ok (.iconst 0, 1) := by decide +kernel
theorem dX9_stands_61 : decode cX9_stands 61 = .ok (.ireturn, 1) := by decide +kernel
theorem dX9_takes_0 : decode cX9_takes 0 = .ok (.aload_n 0, 1) := by decide +kernel
theorem dX9_takes_1 : decode cX9_takes 1 = .ok (.iload_n 1, 1) := by decide +kernel
theorem dX9_takes_2 : decode cX9_takes 2 = .ok (.iload_n 2, 1) := by decide +kernel
theorem dX9_takes_3 : decode cX9_takes 3 = .ok (.invokevirtual 124, 3) := by decide +kernel
theorem dX9_takes_6 : decode cX9_takes 6 = .ok (.istore_n 3, 1) := by decide +kernel
theorem dX9_takes_7 : decode cX9_takes 7 = .ok (.aload_n 0, 1) := by decide +kernel
theorem dX9_takes_8 : decode cX9_takes 8 = .ok (.getfield 101, 3) := by decide +kernel
theorem dX9_takes_11 : decode cX9_takes 11 = .ok (.ifCond .ne 7, 3) := by decide +kernel
theorem dX9_takes_14 : decode cX9_takes 14 = .ok (.aload_n 0, 1) := by decide +kernel
theorem dX9_takes_15 : decode cX9_takes 15 = .ok (.invokevirtual 121, 3) := by decide +kernel
theorem dX9_takes_18 : decode cX9_takes 18 = .ok (.iload_n 3, 1) := by decide +kernel
theorem dX9_takes_19 : decode cX9_takes 19 = .ok (.ireturn, 1) := by decide +kernel
theorem dX9_takesValue_0 : decode cX9_takesValue 0 = .ok (.aload_n 0, 1) := by decide +kernel
theorem dX9_takesValue_1 : decode cX9_takesValue 1 = .ok (.bipush 45, 2) := by decide +kernel
theorem dX9_takesValue_3 : decode cX9_takesValue 3 = .ok (.invokevirtual 127, 3) := by decide +kernel
theorem dX9_takesValue_6 : decode cX9_takesValue 6 = .ok (.istore_n 1, 1) := by decide +kernel
theorem dX9_takesValue_7 : decode cX9_takesValue 7 = .ok (.iload_n 1, 1) := by decide +kernel
theorem dX9_takesValue_8 : decode cX9_takesValue 8 = .ok (.ifCond .eq 7, 3) := by decide +kernel
theorem dX9_takesValue_11 : decode cX9_takesValue 11 = .ok (.aload_n 0, 1) := by decide +kernel
theorem dX9_takesValue_12 : decode cX9_takesValue 12 = .ok (.invokevirtual 121, 3) := by decide +kernel
theorem dX9_takesValue_15 : decode cX9_takesValue 15 = .ok (.aload_n 0, 1) := by decide +kernel
theorem dX9_takesValue_16 : decode cX9_takesValue 16 = .ok (.iconst 0, 1) := by decide +kernel
theorem dX9_takesValue_17 : decode cX9_takesValue 17 = .ok (.ldc 131, 2) := by decide +kernel
theorem dX9_takesValue_19 : decode cX9_takesValue 19 = .ok (.invokevirtual 132, 3) := by decide +kernel
theorem dX9_takesValue_22 : decode cX9_takesValue 22 = .ok (.istore_n 2, 1) := by decide +kernel
theorem dX9_takesValue_23 : decode cX9_takesValue 23 = .ok (.iload_n 1, 1) := by decide +kernel
theorem dX9_takesValue_24 : decode cX9_takesValue 24 = .ok (.ifCond .eq 8, 3) := by decide +kernel
theorem dX9_takesValue_27 : decode cX9_takesValue 27 = .ok (.iload_n 2, 1) := by decide +kernel
theorem dX9_takesValue_28 : decode cX9_takesValue 28 = .ok (.ineg, 1) := by decide +kernel
theorem dX9_takesValue_29 : decode cX9_takesValue 29 = .ok (.goto 4, 3) := by decide +kernel
theorem dX9_takesValue_32 : decode cX9_takesValue 32 = .ok (.iload_n 2, 1) := by decide +kernel
theorem dX9_takesValue_33 : decode cX9_takesValue 33 = .ok (.ireturn, 1) := by decide +kernel
theorem dX9_mustName_0 : decode cX9_mustName 0 = .ok (.aload_n 0, 1) := by decide +kernel
theorem dX9_mustName_1 : decode cX9_mustName 1 = .ok (.getfield 101, 3) := by decide +kernel
theorem dX9_mustName_4 : decode cX9_mustName 4 = .ok (.ifCond .ne 30, 3) := by decide +kernel
theorem dX9_mustName_7 : decode cX9_mustName 7 = .ok (.aload_n 0, 1) := by decide +kernel
theorem dX9_mustName_8 : decode cX9_mustName 8 = .ok (.getfield 84, 3) := by decide +kernel
theorem dX9_mustName_11 : decode cX9_mustName 11 = .ok (.ifCond .ne 17, 3) := by decide +kernel
theorem dX9_mustName_14 : decode cX9_mustName 14 = .ok (.aload_n 0, 1) := by decide +kernel
theorem dX9_mustName_15 : decode cX9_mustName 15 = .ok (.getfield 75, 3) := by decide +kernel
theorem dX9_mustName_18 : decode cX9_mustName 18 = .ok (.aload_n 0, 1) := by decide +kernel
theorem dX9_mustName_19 : decode cX9_mustName 19 = .ok (.getfield 78, 3) := by decide +kernel
theorem dX9_mustName_22 : decode cX9_mustName 22 = .ok (.isub, 1) := by decide +kernel
theorem dX9_mustName_23 : decode cX9_mustName 23 = .ok (.bipush 8, 2) := by decide +kernel
theorem dX9_mustName_25 : decode cX9_mustName 25 = .ok (.if_icmp .le 9, 3) := by decide +kernel
theorem dX9_mustName_28 : decode cX9_mustName 28 = .ok (.aload_n 0, 1) := by decide +kernel
theorem dX9_mustName_29 : decode cX9_mustName 29 = .ok (.bipush (-2), 2) := by decide +kernel
theorem dX9_mustName_31 : decode cX9_mustName 31 = .ok (.invokevirtual 117, 3) := by decide +kernel
theorem dX9_mustName_34 : decode cX9_mustName 34 = .ok (.return_, 1) := by decide +kernel
theorem dX9_named_0 : decode cX9_named 0 = .ok (.iconst 0, 1) := by decide +kernel
theorem dX9_named_1 : decode cX9_named 1 = .ok (.istore_n 1, 1) := by decide +kernel
theorem dX9_named_2 : decode cX9_named 2 = .ok (.iload_n 1, 1) := by decide +kernel
theorem dX9_named_3 : decode cX9_named 3 = .ok (.aload_n 0, 1) := by decide +kernel
theorem dX9_named_4 : decode cX9_named 4 = .ok (.getfield 7, 3) := by decide +kernel
theorem dX9_named_7 : decode cX9_named 7 = .ok (.iconst 1, 1) := by decide +kernel
theorem dX9_named_8 : decode cX9_named 8 = .ok (.iaload, 1) := by decide +kernel
theorem dX9_named_9 : decode cX9_named 9 = .ok (.if_icmp .ge 88, 3) := by decide +kernel
theorem dX9_named_12 : decode cX9_named 12 = .ok (.aload_n 0, 1) := by decide +kernel
theorem dX9_named_13 : decode cX9_named 13 = .ok (.getfield 101, 3) := by decide +kernel
theorem dX9_named_16 : decode cX9_named 16 = .ok (.ifCond .ne 81, 3) := by decide +kernel
theorem dX9_named_19 : decode cX9_named 19 = .ok (.iconst 1, 1) := by decide +kernel
theorem dX9_named_20 : decode cX9_named 20 = .ok (.istore_n 2, 1) := by decide +kernel
theorem dX9_named_21 : decode cX9_named 21 = .ok (.iconst 0, 1) := by decide +kernel
theorem dX9_named_22 : decode cX9_named 22 = .ok (.istore_n 3, 1) := by decide +kernel
theorem dX9_named_23 : decode cX9_named 23 = .ok (.iload_n 3, 1) := by decide +kernel
theorem dX9_named_24 : decode cX9_named 24 = .ok (.bipush 8, 2) := by decide +kernel
theorem dX9_named_26 : decode cX9_named 26 = .ok (.if_icmp .ge 59, 3) := by decide +kernel
theorem dX9_named_29 : decode cX9_named 29 = .ok (.iload_n 2, 1) := by decide +kernel
theorem dX9_named_30 : decode cX9_named 30 = .ok (.ifCond .eq 47, 3) := by decide +kernel
theorem dX9_named_33 : decode cX9_named 33 = .ok (.aload_n 0, 1) := by decide +kernel
theorem dX9_named_34 : decode cX9_named 34 = .ok (.iload_n 1, 1) := by decide +kernel
theorem dX9_named_35 : decode cX9_named 35 = .ok (.bipush 10, 2) := by decide +kernel
theorem dX9_named_37 : decode cX9_named 37 = .ok (.iload_n 3, 1) := by decide +kernel
theorem dX9_named_38 : decode cX9_named 38 = .ok (.iadd, 1) := by decide +kernel
theorem dX9_named_39 : decode cX9_named 39 = .ok (.invokevirtual 135, 3) := by decide +kernel
theorem dX9_named_42 : decode cX9_named 42 = .ok (.aload_n 0, 1) := by decide +kernel
theorem dX9_named_43 : decode cX9_named 43 = .ok (.getfield 78, 3) := by decide +kernel
theorem dX9_named_46 : decode cX9_named 46 = .ok (.iload_n 3, 1) := by decide +kernel
theorem dX9_named_47 : decode cX9_named 47 = .ok (.iadd, 1) := by decide +kernel
theorem dX9_named_48 : decode cX9_named 48 = .ok (.aload_n 0, 1) := by decide +kernel
theorem dX9_named_49 : decode cX9_named 49 = .ok (.getfield 75, 3) := by decide +kernel
theorem dX9_named_52 : decode cX9_named 52 = .ok (.if_icmp .ge 17, 3) := by decide +kernel
theorem dX9_named_55 : decode cX9_named 55 = .ok (.aload_n 0, 1) := by decide +kernel
theorem dX9_named_56 : decode cX9_named 56 = .ok (.getfield 29, 3) := by decide +kernel
theorem dX9_named_59 : decode cX9_named 59 = .ok (.aload_n 0, 1) := by decide +kernel
theorem dX9_named_60 : decode cX9_named 60 = .ok (.getfield 78, 3) := by decide +kernel
theorem dX9_named_63 : decode cX9_named 63 = .ok (.iload_n 3, 1) := by decide +kernel
theorem dX9_named_64 : decode cX9_named 64 = .ok (.iadd, 1) := by decide +kernel
theorem dX9_named_65 : decode cX9_named 65 = .ok (.iaload, 1) := by decide +kernel
theorem dX9_named_66 : decode cX9_named 66 = .ok (.goto 4, 3) := by decide +kernel
theorem dX9_named_69 : decode cX9_named 69 = .ok (.iconst 0, 1) := by decide +kernel
theorem dX9_named_70 : decode cX9_named 70 = .ok (.if_icmp .ne 7, 3) := by decide +kernel
theorem dX9_named_73 : decode cX9_named 73 = .ok (.iconst 1, 1) := by decide +kernel
theorem dX9_named_74 : decode cX9_named 74 = .ok (.goto 4, 3) := by decide +kernel
theorem dX9_named_77 : decode cX9_named 77 = .ok (.iconst 0, 1) := by decide +kernel
theorem dX9_named_78 : decode cX9_named 78 = .ok (.istore_n 2, 1) := by decide +kernel
theorem dX9_named_79 : decode cX9_named 79 = .ok (.iinc 3 1, 3) := by decide +kernel
theorem dX9_named_82 : decode cX9_named 82 = .ok (.goto (-59), 3) := by decide +kernel
theorem dX9_named_85 : decode cX9_named 85 = .ok (.iload_n 2, 1) := by decide +kernel
theorem dX9_named_86 : decode cX9_named 86 = .ok (.ifCond .eq 5, 3) := by decide +kernel
theorem dX9_named_89 : decode cX9_named 89 = .ok (.iload_n 1, 1) := by decide +kernel
theorem dX9_named_90 : decode cX9_named 90 = .ok (.ireturn, 1) := by decide +kernel
theorem dX9_named_91 : decode cX9_named 91 = .ok (.iinc 1 1, 3) := by decide +kernel
theorem dX9_named_94 : decode cX9_named 94 = .ok (.goto (-92), 3) := by decide +kernel
theorem dX9_named_97 : decode cX9_named 97 = .ok (.iconst (-1), 1) := by decide +kernel
theorem dX9_named_98 : decode cX9_named 98 = .ok (.ireturn, 1) := by decide +kernel
theorem dX9_wordOf_0 : decode cX9_wordOf 0 = .ok (.iload_n 0, 1) := by decide +kernel
theorem dX9_wordOf_1 : decode cX9_wordOf 1 = .ok (.tableswitch 106 0 12 #[67, 70, 73, 76, 79, 82, 85, 88, 91, 94, 97, 100, 103], 67) := by decide +kernel
theorem dX9_wordOf_68 : decode cX9_wordOf 68 = .ok (.ldc 138, 2) := by decide +kernel
theorem dX9_wordOf_70 : decode cX9_wordOf 70 = .ok (.areturn, 1) := by decide +kernel
theorem dX9_wordOf_71 : decode cX9_wordOf 71 = .ok (.ldc 140, 2) := by decide +kernel
theorem dX9_wordOf_73 : decode cX9_wordOf 73 = .ok (.areturn, 1) := by decide +kernel
theorem dX9_wordOf_74 : decode cX9_wordOf 74 = .ok (.ldc 142, 2) := by decide +kernel
theorem dX9_wordOf_76 : decode cX9_wordOf 76 = .ok (.areturn, 1) := by decide +kernel
theorem dX9_wordOf_77 : decode cX9_wordOf 77 = .ok (.ldc 144, 2) := by decide +kernel
theorem dX9_wordOf_79 : decode cX9_wordOf 79 = .ok (.areturn, 1) := by decide +kernel
theorem dX9_wordOf_80 : decode cX9_wordOf 80 = .ok (.ldc 146, 2) := by decide +kernel
theorem dX9_wordOf_82 : decode cX9_wordOf 82 = .ok (.areturn, 1) := by decide +kernel
theorem dX9_wordOf_83 : decode cX9_wordOf 83 = .ok (.ldc 148, 2) := by decide +kernel
theorem dX9_wordOf_85 : decode cX9_wordOf 85 = .ok (.areturn, 1) := by decide +kernel
theorem dX9_wordOf_86 : decode cX9_wordOf 86 = .ok (.ldc 150, 2) := by decide +kernel
theorem dX9_wordOf_88 : decode cX9_wordOf 88 = .ok (.areturn, 1) := by decide +kernel
theorem dX9_wordOf_89 : decode cX9_wordOf 89 = .ok (.ldc 152, 2) := by decide +kernel
theorem dX9_wordOf_91 : decode cX9_wordOf 91 = .ok (.areturn, 1) := by decide +kernel
theorem dX9_wordOf_92 : decode cX9_wordOf 92 = .ok (.ldc 154, 2) := by decide +kernel
theorem dX9_wordOf_94 : decode cX9_wordOf 94 = .ok (.areturn, 1) := by decide +kernel
theorem dX9_wordOf_95 : decode cX9_wordOf 95 = .ok (.ldc 156, 2) := by decide +kernel
theorem dX9_wordOf_97 : decode cX9_wordOf 97 = .ok (.areturn, 1) := by decide +kernel
theorem dX9_wordOf_98 : decode cX9_wordOf 98 = .ok (.ldc 158, 2) := by decide +kernel
theorem dX9_wordOf_100 : decode cX9_wordOf 100 = .ok (.areturn, 1) := by decide +kernel
theorem dX9_wordOf_101 : decode cX9_wordOf 101 = .ok (.ldc 160, 2) := by decide +kernel
theorem dX9_wordOf_103 : decode cX9_wordOf 103 = .ok (.areturn, 1) := by decide +kernel
theorem dX9_wordOf_104 : decode cX9_wordOf 104 = .ok (.ldc 162, 2) := by decide +kernel
theorem dX9_wordOf_106 : decode cX9_wordOf 106 = .ok (.areturn, 1) := by decide +kernel
theorem dX9_wordOf_107 : decode cX9_wordOf 107 = .ok (.ldc 164, 2) := by decide +kernel
theorem dX9_wordOf_109 : decode cX9_wordOf 109 = .ok (.areturn, 1) := by decide +kernel
theorem dX9_codeHere_0 : decode cX9_codeHere 0 = .ok (.iconst 0, 1) := by decide +kernel
theorem dX9_codeHere_1 : decode cX9_codeHere 1 = .ok (.istore_n 1, 1) := by decide +kernel
theorem dX9_codeHere_2 : decode cX9_codeHere 2 = .ok (.iload_n 1, 1) := by decide +kernel
theorem dX9_codeHere_3 : decode cX9_codeHere 3 = .ok (.bipush 13, 2) := by decide +kernel
theorem dX9_codeHere_5 : decode cX9_codeHere 5 = .ok (.if_icmp .gt 22, 3) := by decide +kernel
theorem dX9_codeHere_8 : decode cX9_codeHere 8 = .ok (.aload_n 0, 1) := by decide +kernel
theorem dX9_codeHere_9 : decode cX9_codeHere 9 = .ok (.iload_n 1, 1) := by decide +kernel
theorem dX9_codeHere_10 : decode cX9_codeHere 10 = .ok (.invokestatic 166, 3) := by decide +kernel
theorem dX9_codeHere_13 : decode cX9_codeHere 13 = .ok (.invokevirtual 170, 3) := by decide +kernel
theorem dX9_codeHere_16 : decode cX9_codeHere 16 = .ok (.ifCond .eq 5, 3) := by decide +kernel
theorem dX9_codeHere_19 : decode cX9_codeHere 19 = .ok (.iload_n 1, 1) := by decide +kernel
theorem dX9_codeHere_20 : decode cX9_codeHere 20 = .ok (.ireturn, 1) := by decide +kernel
theorem dX9_codeHere_21 : decode cX9_codeHere 21 = .ok (.iinc 1 1, 3) := by decide +kernel
theorem dX9_codeHere_24 : decode cX9_codeHere 24 = .ok (.goto (-22), 3) := by decide +kernel
theorem dX9_codeHere_27 : decode cX9_codeHere 27 = .ok (.iconst (-1), 1) := by decide +kernel
theorem dX9_codeHere_28 : decode cX9_codeHere 28 = .ok (.ireturn, 1) := by decide +kernel
theorem dX9_isOfSlot_0 : decode cX9_isOfSlot 0 = .ok (.iload_n 0, 1) := by decide +kernel
theorem dX9_isOfSlot_1 : decode cX9_isOfSlot 1 = .ok (.bipush 8, 2) := by decide +kernel
theorem dX9_isOfSlot_3 : decode cX9_isOfSlot 3 = .ok (.bipush 10, 2) := by decide +kernel
theorem dX9_isOfSlot_5 : decode cX9_isOfSlot 5 = .ok (.invokestatic 56, 3) := by decide +kernel
theorem dX9_isOfSlot_8 : decode cX9_isOfSlot 8 = .ok (.ireturn, 1) := by decide +kernel
theorem dX9_readsCommand_0 : decode cX9_readsCommand 0 = .ok (.aload_n 0, 1) := by decide +kernel
theorem dX9_readsCommand_1 : decode cX9_readsCommand 1 = .ok (.iload_n 1, 1) := by decide +kernel
theorem dX9_readsCommand_2 : decode cX9_readsCommand 2 = .ok (.iconst 3, 1) := by decide +kernel
theorem dX9_readsCommand_3 : decode cX9_readsCommand 3 = .ok (.invokevirtual 135, 3) := by decide +kernel
theorem dX9_readsCommand_6 : decode cX9_readsCommand 6 = .ok (.istore_n 3, 1) := by decide +kernel
theorem dX9_readsCommand_7 : decode cX9_readsCommand 7 = .ok (.iload_n 3, 1) := by decide +kernel
theorem dX9_readsCommand_8 : decode cX9_readsCommand 8 = .ok (.bipush 24, 2) := by decide +kernel
theorem dX9_readsCommand_10 : decode cX9_readsCommand 10 = .ok (.if_icmp .ne 9, 3) := by decide +kernel
theorem dX9_readsCommand_13 : decode cX9_readsCommand 13 = .ok (.aload_n 0, 1) := by decide +kernel
theorem dX9_readsCommand_14 : decode cX9_readsCommand 14 = .ok (.bipush (-6), 2) := by decide +kernel
theorem dX9_readsCommand_16 : decode cX9_readsCommand 16 = .ok (.invokevirtual 117, 3) := by decide +kernel
theorem dX9_readsCommand_19 : decode cX9_readsCommand 19 = .ok (.aload_n 0, 1) := by decide +kernel
theorem dX9_readsCommand_20 : decode cX9_readsCommand 20 = .ok (.iconst 1, 1) := by decide +kernel
theorem dX9_readsCommand_21 : decode cX9_readsCommand 21 = .ok (.invokevirtual 174, 3) := by decide +kernel
theorem dX9_readsCommand_24 : decode cX9_readsCommand 24 = .ok (.iload_n 2, 1) := by decide +kernel
theorem dX9_readsCommand_25 : decode cX9_readsCommand 25 = .ok (.ifCond .ne 10, 3) := by decide +kernel
theorem dX9_readsCommand_28 : decode cX9_readsCommand 28 = .ok (.aload_n 0, 1) := by decide +kernel
theorem dX9_readsCommand_29 : decode cX9_readsCommand 29 = .ok (.invokevirtual 178, 3) := by decide +kernel
theorem dX9_readsCommand_32 : decode cX9_readsCommand 32 = .ok (.goto 49, 3) := by decide +kernel
theorem dX9_readsCommand_35 : decode cX9_readsCommand 35 = .ok (.iload_n 2, 1) := by decide +kernel
theorem dX9_readsCommand_36 : decode cX9_readsCommand 36 = .ok (.invokestatic 181, 3) := by decide +kernel
theorem dX9_readsCommand_39 : decode cX9_readsCommand 39 = .ok (.ifCond .eq 19, 3) := by decide +kernel
theorem dX9_readsCommand_42 : decode cX9_readsCommand 42 = .ok (.aload_n 0, 1) := by decide +kernel
theorem dX9_readsCommand_43 : decode cX9_readsCommand 43 = .ok (.iconst 0, 1) := by decide +kernel
theorem dX9_readsCommand_44 : decode cX9_readsCommand 44 = .ok (.aload_n 0, 1) := by decide +kernel
theorem dX9_readsCommand_45 : decode cX9_readsCommand 45 = .ok (.getfield 7, 3) := by decide +kernel
theorem dX9_readsCommand_48 : decode cX9_readsCommand 48 = .ok (.iconst 0, 1) := by decide +kernel
theorem dX9_readsCommand_49 : decode cX9_readsCommand 49 = .ok (.iaload, 1) := by decide +kernel
theorem dX9_readsCommand_50 : decode cX9_readsCommand 50 = .ok (.iconst 1, 1) := by decide +kernel
theorem dX9_readsCommand_51 : decode cX9_readsCommand 51 = .ok (.isub, 1) := by decide +kernel
theorem dX9_readsCommand_52 : decode cX9_readsCommand 52 = .ok (.invokevirtual 132, 3) := by decide +kernel
theorem dX9_readsCommand_55 : decode cX9_readsCommand 55 = .ok (.goto 26, 3) := by decide +kernel
theorem dX9_readsCommand_58 : decode cX9_readsCommand 58 = .ok (.iload_n 2, 1) := by decide +kernel
theorem dX9_readsCommand_59 : decode cX9_readsCommand 59 = .ok (.bipush 11, 2) := by decide +kernel
theorem dX9_readsCommand_61 : decode cX9_readsCommand 61 = .ok (.if_icmp .eq 9, 3) := by decide +kernel
theorem dX9_readsCommand_64 : decode cX9_readsCommand 64 = .ok (.iload_n 2, 1) := by decide +kernel
theorem dX9_readsCommand_65 : decode cX9_readsCommand 65 = .ok (.bipush 12, 2) := by decide +kernel
theorem dX9_readsCommand_67 : decode cX9_readsCommand 67 = .ok (.if_icmp .ne 13, 3) := by decide +kernel
theorem dX9_readsCommand_70 : decode cX9_readsCommand 70 = .ok (.aload_n 0, 1) := by decide +kernel
theorem dX9_readsCommand_71 : decode cX9_readsCommand 71 = .ok (.iconst 0, 1) := by decide +kernel
theorem dX9_readsCommand_72 : decode cX9_readsCommand 72 = .ok (.bipush 24, 2) := by decide +kernel
theorem dX9_readsCommand_74 : decode cX9_readsCommand 74 = .ok (.invokevirtual 132, 3) := by decide +kernel
theorem dX9_readsCommand_77 : decode cX9_readsCommand 77 = .ok (.goto 4, 3) := by decide +kernel
theorem dX9_readsCommand_80 : decode cX9_readsCommand 80 = .ok (.iconst 0, 1) := by decide +kernel
theorem dX9_readsCommand_81 : decode cX9_readsCommand 81 = .ok (.istore 4, 2) := by decide +kernel
theorem dX9_readsCommand_83 : decode cX9_readsCommand 83 = .ok (.aload_n 0, 1) := by decide +kernel
theorem dX9_readsCommand_84 : decode cX9_readsCommand 84 = .ok (.getfield 101, 3) := by decide +kernel
theorem dX9_readsCommand_87 : decode cX9_readsCommand 87 = .ok (.ifCond .eq 4, 3) := by decide +kernel
theorem dX9_readsCommand_90 : decode cX9_readsCommand 90 = .ok (.return_, 1) := by decide +kernel
theorem dX9_readsCommand_91 : decode cX9_readsCommand 91 = .ok (.aload_n 0, 1) := by decide +kernel
theorem dX9_readsCommand_92 : decode cX9_readsCommand 92 = .ok (.iload_n 1, 1) := by decide +kernel
theorem dX9_readsCommand_93 : decode cX9_readsCommand 93 = .ok (.bipush 18, 2) := by decide +kernel
theorem dX9_readsCommand_95 : decode cX9_readsCommand 95 = .ok (.iload_n 3, 1) := by decide +kernel
theorem dX9_readsCommand_96 : decode cX9_readsCommand 96 = .ok (.iadd, 1) := by decide +kernel
theorem dX9_readsCommand_97 : decode cX9_readsCommand 97 = .ok (.iload_n 2, 1) := by decide +kernel
theorem dX9_readsCommand_98 : decode cX9_readsCommand 98 = .ok (.invokevirtual 42, 3) := by decide +kernel
theorem dX9_readsCommand_101 : decode cX9_readsCommand 101 = .ok (.aload_n 0, 1) := by decide +kernel
theorem dX9_readsCommand_102 : decode cX9_readsCommand 102 = .ok (.iload_n 1, 1) := by decide +kernel
theorem dX9_readsCommand_103 : decode cX9_readsCommand 103 = .ok (.bipush 42, 2) := by decide +kernel
theorem dX9_readsCommand_105 : decode cX9_readsCommand 105 = .ok (.iload_n 3, 1) := by decide +kernel
theorem dX9_readsCommand_106 : decode cX9_readsCommand 106 = .ok (.iadd, 1) := by decide +kernel
theorem dX9_readsCommand_107 : decode cX9_readsCommand 107 = .ok (.iload 4, 2) := by decide +kernel
theorem dX9_readsCommand_109 : decode cX9_readsCommand 109 = .ok (.invokevirtual 42, 3) := by decide +kernel
theorem dX9_readsCommand_112 : decode cX9_readsCommand 112 = .ok (.aload_n 0, 1) := by decide +kernel
theorem dX9_readsCommand_113 : decode cX9_readsCommand 113 = .ok (.iload_n 1, 1) := by decide +kernel
theorem dX9_readsCommand_114 : decode cX9_readsCommand 114 = .ok (.iconst 3, 1) := by decide +kernel
theorem dX9_readsCommand_115 : decode cX9_readsCommand 115 = .ok (.iload_n 3, 1) := by decide +kernel
theorem dX9_readsCommand_116 : decode cX9_readsCommand 116 = .ok (.iconst 1, 1) := by decide +kernel
theorem dX9_readsCommand_117 : decode cX9_readsCommand 117 = .ok (.iadd, 1) := by decide +kernel
theorem dX9_readsCommand_118 : decode cX9_readsCommand 118 = .ok (.invokevirtual 42, 3) := by decide +kernel
theorem dX9_readsCommand_121 : decode cX9_readsCommand 121 = .ok (.return_, 1) := by decide +kernel
theorem dX9_readsProcess_0 : decode cX9_readsProcess 0 = .ok (.aload_n 0, 1) := by decide +kernel
theorem dX9_readsProcess_1 : decode cX9_readsProcess 1 = .ok (.getfield 7, 3) := by decide +kernel
theorem dX9_readsProcess_4 : decode cX9_readsProcess 4 = .ok (.iconst 1, 1) := by decide +kernel
theorem dX9_readsProcess_5 : decode cX9_readsProcess 5 = .ok (.iaload, 1) := by decide +kernel
theorem dX9_readsProcess_6 : decode cX9_readsProcess 6 = .ok (.istore_n 1, 1) := by decide +kernel
theorem dX9_readsProcess_7 : decode cX9_readsProcess 7 = .ok (.iload_n 1, 1) := by decide +kernel
theorem dX9_readsProcess_8 : decode cX9_readsProcess 8 = .ok (.bipush 8, 2) := by decide +kernel
theorem dX9_readsProcess_10 : decode cX9_readsProcess 10 = .ok (.if_icmp .ne 9, 3) := by decide +kernel
theorem dX9_readsProcess_13 : decode cX9_readsProcess 13 = .ok (.aload_n 0, 1) := by decide +kernel
theorem dX9_readsProcess_14 : decode cX9_readsProcess 14 = .ok (.bipush (-6), 2) := by decide +kernel
theorem dX9_readsProcess_16 : decode cX9_readsProcess 16 = .ok (.invokevirtual 117, 3) := by decide +kernel
theorem dX9_readsProcess_19 : decode cX9_readsProcess 19 = .ok (.aload_n 0, 1) := by decide +kernel
theorem dX9_readsProcess_20 : decode cX9_readsProcess 20 = .ok (.aload_n 0, 1) := by decide +kernel
theorem dX9_readsProcess_21 : decode cX9_readsProcess 21 = .ok (.ldc 184, 2) := by decide +kernel
theorem dX9_readsProcess_23 : decode cX9_readsProcess 23 = .ok (.invokevirtual 170, 3) := by decide +kernel
theorem dX9_readsProcess_26 : decode cX9_readsProcess 26 = .ok (.invokevirtual 174, 3) := by decide +kernel
theorem dX9_readsProcess_29 : decode cX9_readsProcess 29 = .ok (.aload_n 0, 1) := by decide +kernel
theorem dX9_readsProcess_30 : decode cX9_readsProcess 30 = .ok (.invokevirtual 186, 3) := by decide +kernel
theorem dX9_readsProcess_33 : decode cX9_readsProcess 33 = .ok (.aload_n 0, 1) := by decide +kernel
theorem dX9_readsProcess_34 : decode cX9_readsProcess 34 = .ok (.invokevirtual 189, 3) := by decide +kernel
theorem dX9_readsProcess_37 : decode cX9_readsProcess 37 = .ok (.iconst (-1), 1) := by decide +kernel
theorem dX9_readsProcess_38 : decode cX9_readsProcess 38 = .ok (.if_icmp .eq 9, 3) := by decide +kernel
theorem dX9_readsProcess_41 : decode cX9_readsProcess 41 = .ok (.aload_n 0, 1) := by decide +kernel
theorem dX9_readsProcess_42 : decode cX9_readsProcess 42 = .ok (.bipush (-5), 2) := by decide +kernel
theorem dX9_readsProcess_44 : decode cX9_readsProcess 44 = .ok (.invokevirtual 117, 3) := by decide +kernel
theorem dX9_readsProcess_47 : decode cX9_readsProcess 47 = .ok (.aload_n 0, 1) := by decide +kernel
theorem dX9_readsProcess_48 : decode cX9_readsProcess 48 = .ok (.getfield 101, 3) := by decide +kernel
theorem dX9_readsProcess_51 : decode cX9_readsProcess 51 = .ok (.ifCond .eq 4, 3) := by decide +kernel
theorem dX9_readsProcess_54 : decode cX9_readsProcess 54 = .ok (.return_, 1) := by decide +kernel
theorem dX9_readsProcess_55 : decode cX9_readsProcess 55 = .ok (.iconst 0, 1) := by decide +kernel
theorem dX9_readsProcess_56 : decode cX9_readsProcess 56 = .ok (.istore_n 2, 1) := by decide +kernel
theorem dX9_readsProcess_57 : decode cX9_readsProcess 57 = .ok (.iload_n 2, 1) := by decide +kernel
theorem dX9_readsProcess_58 : decode cX9_readsProcess 58 = .ok (.bipush 8, 2) := by decide +kernel
theorem dX9_readsProcess_60 : decode cX9_readsProcess 60 = .ok (.if_icmp .ge 46, 3) := by decide +kernel
theorem dX9_readsProcess_63 : decode cX9_readsProcess 63 = .ok (.aload_n 0, 1) := by decide +kernel
theorem dX9_readsProcess_64 : decode cX9_readsProcess 64 = .ok (.iload_n 1, 1) := by decide +kernel
theorem dX9_readsProcess_65 : decode cX9_readsProcess 65 = .ok (.bipush 10, 2) := by decide +kernel
theorem dX9_readsProcess_67 : decode cX9_readsProcess 67 = .ok (.iload_n 2, 1) := by decide +kernel
theorem dX9_readsProcess_68 : decode cX9_readsProcess 68 = .ok (.iadd, 1) := by decide +kernel
theorem dX9_readsProcess_69 : decode cX9_readsProcess 69 = .ok (.aload_n 0, 1) := by decide +kernel
theorem dX9_readsProcess_70 : decode cX9_readsProcess 70 = .ok (.getfield 78, 3) := by decide +kernel
theorem dX9_readsProcess_73 : decode cX9_readsProcess 73 = .ok (.iload_n 2, 1) := by decide +kernel
theorem dX9_readsProcess_74 : decode cX9_readsProcess 74 = .ok (.iadd, 1) := by decide +kernel
theorem dX9_readsProcess_75 : decode cX9_readsProcess 75 = .ok (.aload_n 0, 1) := by decide +kernel
theorem dX9_readsProcess_76 : decode cX9_readsProcess 76 = .ok (.getfield 75, 3) := by decide +kernel
theorem dX9_readsProcess_79 : decode cX9_readsProcess 79 = .ok (.if_icmp .ge 17, 3) := by decide +kernel
theorem dX9_readsProcess_82 : decode cX9_readsProcess 82 = .ok (.aload_n 0, 1) := by decide +kernel
theorem dX9_readsProcess_83 : decode cX9_readsProcess 83 = .ok (.getfield 29, 3) := by decide +kernel
theorem dX9_readsProcess_86 : decode cX9_readsProcess 86 = .ok (.aload_n 0, 1) := by decide +kernel
theorem dX9_readsProcess_87 : decode cX9_readsProcess 87 = .ok (.getfield 78, 3) := by decide +kernel
theorem dX9_readsProcess_90 : decode cX9_readsProcess 90 = .ok (.iload_n 2, 1) := by decide +kernel
theorem dX9_readsProcess_91 : decode cX9_readsProcess 91 = .ok (.iadd, 1) := by decide +kernel
theorem dX9_readsProcess_92 : decode cX9_readsProcess 92 = .ok (.iaload, 1) := by decide +kernel
theorem dX9_readsProcess_93 : decode cX9_readsProcess 93 = .ok (.goto 4, 3) := by decide +kernel
theorem dX9_readsProcess_96 : decode cX9_readsProcess 96 = .ok (.iconst 0, 1) := by decide +kernel
theorem dX9_readsProcess_97 : decode cX9_readsProcess 97 = .ok (.invokevirtual 42, 3) := by decide +kernel
theorem dX9_readsProcess_100 : decode cX9_readsProcess 100 = .ok (.iinc 2 1, 3) := by decide +kernel
theorem dX9_readsProcess_103 : decode cX9_readsProcess 103 = .ok (.goto (-46), 3) := by decide +kernel
theorem dX9_readsProcess_106 : decode cX9_readsProcess 106 = .ok (.aload_n 0, 1) := by decide +kernel
theorem dX9_readsProcess_107 : decode cX9_readsProcess 107 = .ok (.invokevirtual 121, 3) := by decide +kernel
theorem dX9_readsProcess_110 : decode cX9_readsProcess 110 = .ok (.aload_n 0, 1) := by decide +kernel
theorem dX9_readsProcess_111 : decode cX9_readsProcess 111 = .ok (.iload_n 1, 1) := by decide +kernel
theorem dX9_readsProcess_112 : decode cX9_readsProcess 112 = .ok (.iconst 4, 1) := by decide +kernel
theorem dX9_readsProcess_113 : decode cX9_readsProcess 113 = .ok (.iconst 3, 1) := by decide +kernel
theorem dX9_readsProcess_114 : decode cX9_readsProcess 114 = .ok (.invokevirtual 42, 3) := by decide +kernel
theorem dX9_readsProcess_117 : decode cX9_readsProcess 117 = .ok (.aload_n 0, 1) := by decide +kernel
theorem dX9_readsProcess_118 : decode cX9_readsProcess 118 = .ok (.ldc 192, 2) := by decide +kernel
theorem dX9_readsProcess_120 : decode cX9_readsProcess 120 = .ok (.invokevirtual 170, 3) := by decide +kernel
theorem dX9_readsProcess_123 : decode cX9_readsProcess 123 = .ok (.ifCond .eq 20, 3) := by decide +kernel
theorem dX9_readsProcess_126 : decode cX9_readsProcess 126 = .ok (.aload_n 0, 1) := by decide +kernel
theorem dX9_readsProcess_127 : decode cX9_readsProcess 127 = .ok (.invokevirtual 121, 3) := by decide +kernel
theorem dX9_readsProcess_130 : decode cX9_readsProcess 130 = .ok (.aload_n 0, 1) := by decide +kernel
theorem dX9_readsProcess_131 : decode cX9_readsProcess 131 = .ok (.iload_n 1, 1) := by decide +kernel
theorem dX9_readsProcess_132 : decode cX9_readsProcess 132 = .ok (.iconst 4, 1) := by decide +kernel
theorem dX9_readsProcess_133 : decode cX9_readsProcess 133 = .ok (.aload_n 0, 1) := by decide +kernel
theorem dX9_readsProcess_134 : decode cX9_readsProcess 134 = .ok (.iconst 1, 1) := by decide +kernel
theorem dX9_readsProcess_135 : decode cX9_readsProcess 135 = .ok (.bipush 9, 2) := by decide +kernel
theorem dX9_readsProcess_137 : decode cX9_readsProcess 137 = .ok (.invokevirtual 132, 3) := by decide +kernel
theorem dX9_readsProcess_140 : decode cX9_readsProcess 140 = .ok (.invokevirtual 42, 3) := by decide +kernel
theorem dX9_readsProcess_143 : decode cX9_readsProcess 143 = .ok (.aload_n 0, 1) := by decide +kernel
theorem dX9_readsProcess_144 : decode cX9_readsProcess 144 = .ok (.ldc 194, 2) := by decide +kernel
theorem dX9_readsProcess_146 : decode cX9_readsProcess 146 = .ok (.invokevirtual 170, 3) := by decide +kernel
theorem dX9_readsProcess_149 : decode cX9_readsProcess 149 = .ok (.ifCond .eq 12, 3) := by decide +kernel
theorem dX9_readsProcess_152 : decode cX9_readsProcess 152 = .ok (.aload_n 0, 1) := by decide +kernel
theorem dX9_readsProcess_153 : decode cX9_readsProcess 153 = .ok (.invokevirtual 121, 3) := by decide +kernel
theorem dX9_readsProcess_156 : decode cX9_readsProcess 156 = .ok (.aload_n 0, 1) := by decide +kernel
theorem dX9_readsProcess_157 : decode cX9_readsProcess 157 = .ok (.iload_n 1, 1) := by decide +kernel
theorem dX9_readsProcess_158 : decode cX9_readsProcess 158 = .ok (.invokevirtual 196, 3) := by decide +kernel
theorem dX9_readsProcess_161 : decode cX9_readsProcess 161 = .ok (.aload_n 0, 1) := by decide +kernel
theorem dX9_readsProcess_162 : decode cX9_readsProcess 162 = .ok (.aload_n 0, 1) := by decide +kernel
theorem dX9_readsProcess_163 : decode cX9_readsProcess 163 = .ok (.bipush 58, 2) := by decide +kernel
theorem dX9_readsProcess_165 : decode cX9_readsProcess 165 = .ok (.invokevirtual 127, 3) := by decide +kernel
theorem dX9_readsProcess_168 : decode cX9_readsProcess 168 = .ok (.invokevirtual 174, 3) := by decide +kernel
theorem dX9_readsProcess_171 : decode cX9_readsProcess 171 = .ok (.aload_n 0, 1) := by decide +kernel
theorem dX9_readsProcess_172 : decode cX9_readsProcess 172 = .ok (.invokevirtual 199, 3) := by decide +kernel
theorem dX9_readsProcess_175 : decode cX9_readsProcess 175 = .ok (.istore_n 2, 1) := by decide +kernel
theorem dX9_readsProcess_176 : decode cX9_readsProcess 176 = .ok (.iload_n 2, 1) := by decide +kernel
theorem dX9_readsProcess_177 : decode cX9_readsProcess 177 = .ok (.iconst (-1), 1) := by decide +kernel
theorem dX9_readsProcess_178 : decode cX9_readsProcess 178 = .ok (.if_icmp .eq 17, 3) := by decide +kernel
theorem dX9_readsProcess_181 : decode cX9_readsProcess 181 = .ok (.aload_n 0, 1) := by decide +kernel
theorem dX9_readsProcess_182 : decode cX9_readsProcess 182 = .ok (.iload_n 1, 1) := by decide +kernel
theorem dX9_readsProcess_183 : decode cX9_readsProcess 183 = .ok (.iload_n 2, 1) := by decide +kernel
theorem dX9_readsProcess_184 : decode cX9_readsProcess 184 = .ok (.invokevirtual 202, 3) := by decide +kernel
theorem dX9_readsProcess_187 : decode cX9_readsProcess 187 = .ok (.aload_n 0, 1) := by decide +kernel
theorem dX9_readsProcess_188 : decode cX9_readsProcess 188 = .ok (.invokevirtual 199, 3) := by decide +kernel
theorem dX9_readsProcess_191 : decode cX9_readsProcess 191 = .ok (.istore_n 2, 1) := by decide +kernel
theorem dX9_readsProcess_192 : decode cX9_readsProcess 192 = .ok (.goto (-16), 3) := by decide +kernel
theorem dX9_readsProcess_195 : decode cX9_readsProcess 195 = .ok (.aload_n 0, 1) := by decide +kernel
theorem dX9_readsProcess_196 : decode cX9_readsProcess 196 = .ok (.aload_n 0, 1) := by decide +kernel
theorem dX9_readsProcess_197 : decode cX9_readsProcess 197 = .ok (.bipush 59, 2) := by decide +kernel
theorem dX9_readsProcess_199 : decode cX9_readsProcess 199 = .ok (.invokevirtual 127, 3) := by decide +kernel
theorem dX9_readsProcess_202 : decode cX9_readsProcess 202 = .ok (.invokevirtual 174, 3) := by decide +kernel
theorem dX9_readsProcess_205 : decode cX9_readsProcess 205 = .ok (.aload_n 0, 1) := by decide +kernel
theorem dX9_readsProcess_206 : decode cX9_readsProcess 206 = .ok (.getfield 7, 3) := by decide +kernel
theorem dX9_readsProcess_209 : decode cX9_readsProcess 209 = .ok (.iconst 1, 1) := by decide +kernel
theorem dX9_readsProcess_210 : decode cX9_readsProcess 210 = .ok (.dup2, 1) := by decide +kernel
theorem dX9_readsProcess_211 : decode cX9_readsProcess 211 = .ok (.iaload, 1) := by decide +kernel
theorem dX9_readsProcess_212 : decode cX9_readsProcess 212 = .ok (.iconst 1, 1) := by decide +kernel
theorem dX9_readsProcess_213 : decode cX9_readsProcess 213 = .ok (.iadd, 1) := by decide +kernel
theorem dX9_readsProcess_214 : decode cX9_readsProcess 214 = .ok (.iastore, 1) := by decide +kernel
theorem dX9_readsProcess_215 : decode cX9_readsProcess 215 = .ok (.return_, 1) := by decide +kernel
theorem dX9_readsSlots_0 : decode cX9_readsSlots 0 = .ok (.aload_n 0, 1) := by decide +kernel
theorem dX9_readsSlots_1 : decode cX9_readsSlots 1 = .ok (.iconst 0, 1) := by decide +kernel
theorem dX9_readsSlots_2 : decode cX9_readsSlots 2 = .ok (.aload_n 0, 1) := by decide +kernel
theorem dX9_readsSlots_3 : decode cX9_readsSlots 3 = .ok (.getfield 7, 3) := by decide +kernel
theorem dX9_readsSlots_6 : decode cX9_readsSlots 6 = .ok (.iconst 0, 1) := by decide +kernel
theorem dX9_readsSlots_7 : decode cX9_readsSlots 7 = .ok (.iaload, 1) := by decide +kernel
theorem dX9_readsSlots_8 : decode cX9_readsSlots 8 = .ok (.iconst 1, 1) := by decide +kernel
theorem dX9_readsSlots_9 : decode cX9_readsSlots 9 = .ok (.isub, 1) := by decide +kernel
theorem dX9_readsSlots_10 : decode cX9_readsSlots 10 = .ok (.invokevirtual 124, 3) := by decide +kernel
theorem dX9_readsSlots_13 : decode cX9_readsSlots 13 = .ok (.istore_n 2, 1) := by decide +kernel
theorem dX9_readsSlots_14 : decode cX9_readsSlots 14 = .ok (.aload_n 0, 1) := by decide +kernel
theorem dX9_readsSlots_15 : decode cX9_readsSlots 15 = .ok (.getfield 101, 3) := by decide +kernel
theorem dX9_readsSlots_18 : decode cX9_readsSlots 18 = .ok (.ifCond .ne 18, 3) := by decide +kernel
theorem dX9_readsSlots_21 : decode cX9_readsSlots 21 = .ok (.aload_n 0, 1) := by decide +kernel
theorem dX9_readsSlots_22 : decode cX9_readsSlots 22 = .ok (.iload_n 1, 1) := by decide +kernel
theorem dX9_readsSlots_23 : decode cX9_readsSlots 23 = .ok (.iload_n 2, 1) := by decide +kernel
theorem dX9_readsSlots_24 : decode cX9_readsSlots 24 = .ok (.invokevirtual 206, 3) := by decide +kernel
theorem dX9_readsSlots_27 : decode cX9_readsSlots 27 = .ok (.ifCond .eq 9, 3) := by decide +kernel
theorem dX9_readsSlots_30 : decode cX9_readsSlots 30 = .ok (.aload_n 0, 1) := by decide +kernel
theorem dX9_readsSlots_31 : decode cX9_readsSlots 31 = .ok (.bipush (-5), 2) := by decide +kernel
theorem dX9_readsSlots_33 : decode cX9_readsSlots 33 = .ok (.invokevirtual 117, 3) := by decide +kernel
theorem dX9_readsSlots_36 : decode cX9_readsSlots 36 = .ok (.aload_n 0, 1) := by decide +kernel
theorem dX9_readsSlots_37 : decode cX9_readsSlots 37 = .ok (.getfield 101, 3) := by decide +kernel
theorem dX9_readsSlots_40 : decode cX9_readsSlots 40 = .ok (.ifCond .eq 4, 3) := by decide +kernel
theorem dX9_readsSlots_43 : decode cX9_readsSlots 43 = .ok (.return_, 1) := by decide +kernel
theorem dX9_readsSlots_44 : decode cX9_readsSlots 44 = .ok (.aload_n 0, 1) := by decide +kernel
theorem dX9_readsSlots_45 : decode cX9_readsSlots 45 = .ok (.iload_n 1, 1) := by decide +kernel
theorem dX9_readsSlots_46 : decode cX9_readsSlots 46 = .ok (.iconst 5, 1) := by decide +kernel
theorem dX9_readsSlots_47 : decode cX9_readsSlots 47 = .ok (.aload_n 0, 1) := by decide +kernel
theorem dX9_readsSlots_48 : decode cX9_readsSlots 48 = .ok (.iload_n 1, 1) := by decide +kernel
theorem dX9_readsSlots_49 : decode cX9_readsSlots 49 = .ok (.iconst 5, 1) := by decide +kernel
theorem dX9_readsSlots_50 : decode cX9_readsSlots 50 = .ok (.invokevirtual 135, 3) := by decide +kernel
theorem dX9_readsSlots_53 : decode cX9_readsSlots 53 = .ok (.iconst 1, 1) := by decide +kernel
theorem dX9_readsSlots_54 : decode cX9_readsSlots 54 = .ok (.iload_n 2, 1) := by decide +kernel
theorem dX9_readsSlots_55 : decode cX9_readsSlots 55 = .ok (.ishl, 1) := by decide +kernel
theorem dX9_readsSlots_56 : decode cX9_readsSlots 56 = .ok (.ior, 1) := by decide +kernel
theorem dX9_readsSlots_57 : decode cX9_readsSlots 57 = .ok (.invokevirtual 42, 3) := by decide +kernel
theorem dX9_readsSlots_60 : decode cX9_readsSlots 60 = .ok (.aload_n 0, 1) := by decide +kernel
theorem dX9_readsSlots_61 : decode cX9_readsSlots 61 = .ok (.invokevirtual 121, 3) := by decide +kernel
theorem dX9_readsSlots_64 : decode cX9_readsSlots 64 = .ok (.aload_n 0, 1) := by decide +kernel
theorem dX9_readsSlots_65 : decode cX9_readsSlots 65 = .ok (.getfield 84, 3) := by decide +kernel
theorem dX9_readsSlots_68 : decode cX9_readsSlots 68 = .ok (.iconst 1, 1) := by decide +kernel
theorem dX9_readsSlots_69 : decode cX9_readsSlots 69 = .ok (.if_icmp .eq (-69), 3) := by decide +kernel
theorem dX9_readsSlots_72 : decode cX9_readsSlots 72 = .ok (.return_, 1) := by decide +kernel
theorem dX9_readsStack_0 : decode cX9_readsStack 0 = .ok (.aload_n 0, 1) := by decide +kernel
theorem dX9_readsStack_1 : decode cX9_readsStack 1 = .ok (.getfield 7, 3) := by decide +kernel
theorem dX9_readsStack_4 : decode cX9_readsStack 4 = .ok (.iconst 2, 1) := by decide +kernel
theorem dX9_readsStack_5 : decode cX9_readsStack 5 = .ok (.iaload, 1) := by decide +kernel
theorem dX9_readsStack_6 : decode cX9_readsStack 6 = .ok (.istore_n 1, 1) := by decide +kernel
theorem dX9_readsStack_7 : decode cX9_readsStack 7 = .ok (.iload_n 1, 1) := by decide +kernel
theorem dX9_readsStack_8 : decode cX9_readsStack 8 = .ok (.bipush 12, 2) := by decide +kernel
theorem dX9_readsStack_10 : decode cX9_readsStack 10 = .ok (.if_icmp .ne 9, 3) := by decide +kernel
theorem dX9_readsStack_13 : decode cX9_readsStack 13 = .ok (.aload_n 0, 1) := by decide +kernel
theorem dX9_readsStack_14 : decode cX9_readsStack 14 = .ok (.bipush (-6), 2) := by decide +kernel
theorem dX9_readsStack_16 : decode cX9_readsStack 16 = .ok (.invokevirtual 117, 3) := by decide +kernel
theorem dX9_readsStack_19 : decode cX9_readsStack 19 = .ok (.aload_n 0, 1) := by decide +kernel
theorem dX9_readsStack_20 : decode cX9_readsStack 20 = .ok (.iconst 1, 1) := by decide +kernel
theorem dX9_readsStack_21 : decode cX9_readsStack 21 = .ok (.invokevirtual 174, 3) := by decide +kernel
theorem dX9_readsStack_24 : decode cX9_readsStack 24 = .ok (.aload_n 0, 1) := by decide +kernel
theorem dX9_readsStack_25 : decode cX9_readsStack 25 = .ok (.iconst 1, 1) := by decide +kernel
theorem dX9_readsStack_26 : decode cX9_readsStack 26 = .ok (.bipush 16, 2) := by decide +kernel
theorem dX9_readsStack_28 : decode cX9_readsStack 28 = .ok (.invokevirtual 132, 3) := by decide +kernel
theorem dX9_readsStack_31 : decode cX9_readsStack 31 = .ok (.istore_n 2, 1) := by decide +kernel
theorem dX9_readsStack_32 : decode cX9_readsStack 32 = .ok (.iconst (-1), 1) := by decide +kernel
theorem dX9_readsStack_33 : decode cX9_readsStack 33 = .ok (.istore_n 3, 1) := by decide +kernel
theorem dX9_readsStack_34 : decode cX9_readsStack 34 = .ok (.iconst (-1), 1) := by decide +kernel
theorem dX9_readsStack_35 : decode cX9_readsStack 35 = .ok (.istore 4, 2) := by decide +kernel
theorem dX9_readsStack_37 : decode cX9_readsStack 37 = .ok (.aload_n 0, 1) := by decide +kernel
theorem dX9_readsStack_38 : decode cX9_readsStack 38 = .ok (.ldc 210, 2) := by decide +kernel
theorem dX9_readsStack_40 : decode cX9_readsStack 40 = .ok (.invokevirtual 170, 3) := by decide +kernel
theorem dX9_readsStack_43 : decode cX9_readsStack 43 = .ok (.ifCond .eq 52, 3) := by decide +kernel
theorem dX9_readsStack_46 : decode cX9_readsStack 46 = .ok (.aload_n 0, 1) := by decide +kernel
theorem dX9_readsStack_47 : decode cX9_readsStack 47 = .ok (.invokevirtual 121, 3) := by decide +kernel
theorem dX9_readsStack_50 : decode cX9_readsStack 50 = .ok (.aload_n 0, 1) := by decide +kernel
theorem dX9_readsStack_51 : decode cX9_readsStack 51 = .ok (.invokevirtual 186, 3) := by decide +kernel
theorem dX9_readsStack_54 : decode cX9_readsStack 54 = .ok (.aload_n 0, 1) := by decide +kernel
theorem dX9_readsStack_55 : decode cX9_readsStack 55 = .ok (.invokevirtual 189, 3) := by decide +kernel
theorem dX9_readsStack_58 : decode cX9_readsStack 58 = .ok (.istore_n 3, 1) := by decide +kernel
theorem dX9_readsStack_59 : decode cX9_readsStack 59 = .ok (.iload_n 3, 1) := by decide +kernel
theorem dX9_readsStack_60 : decode cX9_readsStack 60 = .ok (.iconst (-1), 1) := by decide +kernel
theorem dX9_readsStack_61 : decode cX9_readsStack 61 = .ok (.if_icmp .ne 9, 3) := by decide +kernel
theorem dX9_readsStack_64 : decode cX9_readsStack 64 = .ok (.aload_n 0, 1) := by decide +kernel
theorem dX9_readsStack_65 : decode cX9_readsStack 65 = .ok (.bipush (-4), 2) := by decide +kernel
theorem dX9_readsStack_67 : decode cX9_readsStack 67 = .ok (.invokevirtual 117, 3) := by decide +kernel
theorem dX9_readsStack_70 : decode cX9_readsStack 70 = .ok (.aload_n 0, 1) := by decide +kernel
theorem dX9_readsStack_71 : decode cX9_readsStack 71 = .ok (.getfield 101, 3) := by decide +kernel
theorem dX9_readsStack_74 : decode cX9_readsStack 74 = .ok (.ifCond .ne 69, 3) := by decide +kernel
theorem dX9_readsStack_77 : decode cX9_readsStack 77 = .ok (.aload_n 0, 1) := by decide +kernel
theorem dX9_readsStack_78 : decode cX9_readsStack 78 = .ok (.iload_n 3, 1) := by decide +kernel
theorem dX9_readsStack_79 : decode cX9_readsStack 79 = .ok (.invokevirtual 212, 3) := by decide +kernel
theorem dX9_readsStack_82 : decode cX9_readsStack 82 = .ok (.iconst (-1), 1) := by decide +kernel
theorem dX9_readsStack_83 : decode cX9_readsStack 83 = .ok (.if_icmp .eq 60, 3) := by decide +kernel
theorem dX9_readsStack_86 : decode cX9_readsStack 86 = .ok (.aload_n 0, 1) := by decide +kernel
theorem dX9_readsStack_87 : decode cX9_readsStack 87 = .ok (.bipush (-5), 2) := by decide +kernel
theorem dX9_readsStack_89 : decode cX9_readsStack 89 = .ok (.invokevirtual 117, 3) := by decide +kernel
theorem dX9_readsStack_92 : decode cX9_readsStack 92 = .ok (.goto 51, 3) := by decide +kernel
theorem dX9_readsStack_95 : decode cX9_readsStack 95 = .ok (.aload_n 0, 1) := by decide +kernel
theorem dX9_readsStack_96 : decode cX9_readsStack 96 = .ok (.aload_n 0, 1) := by decide +kernel
theorem dX9_readsStack_97 : decode cX9_readsStack 97 = .ok (.ldc 215, 2) := by decide +kernel
theorem dX9_readsStack_99 : decode cX9_readsStack 99 = .ok (.invokevirtual 170, 3) := by decide +kernel
theorem dX9_readsStack_102 : decode cX9_readsStack 102 = .ok (.invokevirtual 174, 3) := by decide +kernel
theorem dX9_readsStack_105 : decode cX9_readsStack 105 = .ok (.aload_n 0, 1) := by decide +kernel
theorem dX9_readsStack_106 : decode cX9_readsStack 106 = .ok (.iconst 0, 1) := by decide +kernel
theorem dX9_readsStack_107 : decode cX9_readsStack 107 = .ok (.aload_n 0, 1) := by decide +kernel
theorem dX9_readsStack_108 : decode cX9_readsStack 108 = .ok (.getfield 7, 3) := by decide +kernel
theorem dX9_readsStack_111 : decode cX9_readsStack 111 = .ok (.iconst 0, 1) := by decide +kernel
theorem dX9_readsStack_112 : decode cX9_readsStack 112 = .ok (.iaload, 1) := by decide +kernel
theorem dX9_readsStack_113 : decode cX9_readsStack 113 = .ok (.iconst 1, 1) := by decide +kernel
theorem dX9_readsStack_114 : decode cX9_readsStack 114 = .ok (.isub, 1) := by decide +kernel
theorem dX9_readsStack_115 : decode cX9_readsStack 115 = .ok (.invokevirtual 124, 3) := by decide +kernel
theorem dX9_readsStack_118 : decode cX9_readsStack 118 = .ok (.istore 4, 2) := by decide +kernel
theorem dX9_readsStack_120 : decode cX9_readsStack 120 = .ok (.aload_n 0, 1) := by decide +kernel
theorem dX9_readsStack_121 : decode cX9_readsStack 121 = .ok (.getfield 101, 3) := by decide +kernel
theorem dX9_readsStack_124 : decode cX9_readsStack 124 = .ok (.ifCond .ne 19, 3) := by decide +kernel
theorem dX9_readsStack_127 : decode cX9_readsStack 127 = .ok (.aload_n 0, 1) := by decide +kernel
theorem dX9_readsStack_128 : decode cX9_readsStack 128 = .ok (.iload 4, 2) := by decide +kernel
theorem dX9_readsStack_130 : decode cX9_readsStack 130 = .ok (.invokevirtual 216, 3) := by decide +kernel
theorem dX9_readsStack_133 : decode cX9_readsStack 133 = .ok (.iconst (-1), 1) := by decide +kernel
theorem dX9_readsStack_134 : decode cX9_readsStack 134 = .ok (.if_icmp .eq 9, 3) := by decide +kernel
theorem dX9_readsStack_137 : decode cX9_readsStack 137 = .ok (.aload_n 0, 1) := by decide +kernel
theorem dX9_readsStack_138 : decode cX9_readsStack 138 = .ok (.bipush (-5), 2) := by decide +kernel
theorem dX9_readsStack_140 : decode cX9_readsStack 140 = .ok (.invokevirtual 117, 3) := by decide +kernel
theorem dX9_readsStack_143 : decode cX9_readsStack 143 = .ok (.aload_n 0, 1) := by decide +kernel
theorem dX9_readsStack_144 : decode cX9_readsStack 144 = .ok (.iconst 1, 1) := by decide +kernel
theorem dX9_readsStack_145 : decode cX9_readsStack 145 = .ok (.invokevirtual 174, 3) := by decide +kernel
theorem dX9_readsStack_148 : decode cX9_readsStack 148 = .ok (.aload_n 0, 1) := by decide +kernel
theorem dX9_readsStack_149 : decode cX9_readsStack 149 = .ok (.getfield 101, 3) := by decide +kernel
theorem dX9_readsStack_152 : decode cX9_readsStack 152 = .ok (.ifCond .eq 4, 3) := by decide +kernel
theorem dX9_readsStack_155 : decode cX9_readsStack 155 = .ok (.return_, 1) := by decide +kernel
theorem dX9_readsStack_156 : decode cX9_readsStack 156 = .ok (.aload_n 0, 1) := by decide +kernel
theorem dX9_readsStack_157 : decode cX9_readsStack 157 = .ok (.iload_n 1, 1) := by decide +kernel
theorem dX9_readsStack_158 : decode cX9_readsStack 158 = .ok (.iconst 0, 1) := by decide +kernel
theorem dX9_readsStack_159 : decode cX9_readsStack 159 = .ok (.iload_n 2, 1) := by decide +kernel
theorem dX9_readsStack_160 : decode cX9_readsStack 160 = .ok (.invokevirtual 219, 3) := by decide +kernel
theorem dX9_readsStack_163 : decode cX9_readsStack 163 = .ok (.aload_n 0, 1) := by decide +kernel
theorem dX9_readsStack_164 : decode cX9_readsStack 164 = .ok (.iload_n 1, 1) := by decide +kernel
theorem dX9_readsStack_165 : decode cX9_readsStack 165 = .ok (.iconst 2, 1) := by decide +kernel
theorem dX9_readsStack_166 : decode cX9_readsStack 166 = .ok (.iload_n 3, 1) := by decide +kernel
theorem dX9_readsStack_167 : decode cX9_readsStack 167 = .ok (.invokevirtual 219, 3) := by decide +kernel
theorem dX9_readsStack_170 : decode cX9_readsStack 170 = .ok (.aload_n 0, 1) := by decide +kernel
theorem dX9_readsStack_171 : decode cX9_readsStack 171 = .ok (.iload_n 1, 1) := by decide +kernel
theorem dX9_readsStack_172 : decode cX9_readsStack 172 = .ok (.iconst 3, 1) := by decide +kernel
theorem dX9_readsStack_173 : decode cX9_readsStack 173 = .ok (.iload 4, 2) := by decide +kernel
theorem dX9_readsStack_175 : decode cX9_readsStack 175 = .ok (.invokevirtual 219, 3) := by decide +kernel
theorem dX9_readsStack_178 : decode cX9_readsStack 178 = .ok (.iconst 0, 1) := by decide +kernel
theorem dX9_readsStack_179 : decode cX9_readsStack 179 = .ok (.istore 5, 2) := by decide +kernel
theorem dX9_readsStack_181 : decode cX9_readsStack 181 = .ok (.aload_n 0, 1) := by decide +kernel
theorem dX9_readsStack_182 : decode cX9_readsStack 182 = .ok (.getfield 101, 3) := by decide +kernel
theorem dX9_readsStack_185 : decode cX9_readsStack 185 = .ok (.ifCond .ne 63, 3) := by decide +kernel
theorem dX9_readsStack_188 : decode cX9_readsStack 188 = .ok (.aload_n 0, 1) := by decide +kernel
theorem dX9_readsStack_189 : decode cX9_readsStack 189 = .ok (.getfield 84, 3) := by decide +kernel
theorem dX9_readsStack_192 : decode cX9_readsStack 192 = .ok (.iconst 1, 1) := by decide +kernel
theorem dX9_readsStack_193 : decode cX9_readsStack 193 = .ok (.if_icmp .eq 12, 3) := by decide +kernel
theorem dX9_readsStack_196 : decode cX9_readsStack 196 = .ok (.aload_n 0, 1) := by decide +kernel
theorem dX9_readsStack_197 : decode cX9_readsStack 197 = .ok (.bipush 45, 2) := by decide +kernel
theorem dX9_readsStack_199 : decode cX9_readsStack 199 = .ok (.invokevirtual 127, 3) := by decide +kernel
theorem dX9_readsStack_202 : decode cX9_readsStack 202 = .ok (.ifCond .eq 46, 3) := by decide +kernel
theorem dX9_readsStack_205 : decode cX9_readsStack 205 = .ok (.iload 5, 2) := by decide +kernel
theorem dX9_readsStack_207 : decode cX9_readsStack 207 = .ok (.iload_n 2, 1) := by decide +kernel
theorem dX9_readsStack_208 : decode cX9_readsStack 208 = .ok (.if_icmp .ne 9, 3) := by decide +kernel
theorem dX9_readsStack_211 : decode cX9_readsStack 211 = .ok (.aload_n 0, 1) := by decide +kernel
theorem dX9_readsStack_212 : decode cX9_readsStack 212 = .ok (.bipush (-6), 2) := by decide +kernel
theorem dX9_readsStack_214 : decode cX9_readsStack 214 = .ok (.invokevirtual 117, 3) := by decide +kernel
theorem dX9_readsStack_217 : decode cX9_readsStack 217 = .ok (.aload_n 0, 1) := by decide +kernel
theorem dX9_readsStack_218 : decode cX9_readsStack 218 = .ok (.invokevirtual 178, 3) := by decide +kernel
theorem dX9_readsStack_221 : decode cX9_readsStack 221 = .ok (.istore 6, 2) := by decide +kernel
theorem dX9_readsStack_223 : decode cX9_readsStack 223 = .ok (.aload_n 0, 1) := by decide +kernel
theorem dX9_readsStack_224 : decode cX9_readsStack 224 = .ok (.getfield 101, 3) := by decide +kernel
theorem dX9_readsStack_227 : decode cX9_readsStack 227 = .ok (.ifCond .eq 4, 3) := by decide +kernel
theorem dX9_readsStack_230 : decode cX9_readsStack 230 = .ok (.return_, 1) := by decide +kernel
theorem dX9_readsStack_231 : decode cX9_readsStack 231 = .ok (.aload_n 0, 1) := by decide +kernel
theorem dX9_readsStack_232 : decode cX9_readsStack 232 = .ok (.iload_n 1, 1) := by decide +kernel
theorem dX9_readsStack_233 : decode cX9_readsStack 233 = .ok (.iconst 5, 1) := by decide +kernel
theorem dX9_readsStack_234 : decode cX9_readsStack 234 = .ok (.iload 5, 2) := by decide +kernel
theorem dX9_readsStack_236 : decode cX9_readsStack 236 = .ok (.iadd, 1) := by decide +kernel
theorem dX9_readsStack_237 : decode cX9_readsStack 237 = .ok (.iload 6, 2) := by decide +kernel
theorem dX9_readsStack_239 : decode cX9_readsStack 239 = .ok (.invokevirtual 219, 3) := by decide +kernel
theorem dX9_readsStack_242 : decode cX9_readsStack 242 = .ok (.iinc 5 1, 3) := by decide +kernel
theorem dX9_readsStack_245 : decode cX9_readsStack 245 = .ok (.goto (-64), 3) := by decide +kernel
theorem dX9_readsStack_248 : decode cX9_readsStack 248 = .ok (.aload_n 0, 1) := by decide +kernel
theorem dX9_readsStack_249 : decode cX9_readsStack 249 = .ok (.iload_n 1, 1) := by decide +kernel
theorem dX9_readsStack_250 : decode cX9_readsStack 250 = .ok (.iconst 1, 1) := by decide +kernel
theorem dX9_readsStack_251 : decode cX9_readsStack 251 = .ok (.iload 5, 2) := by decide +kernel
theorem dX9_readsStack_253 : decode cX9_readsStack 253 = .ok (.invokevirtual 219, 3) := by decide +kernel
theorem dX9_readsStack_256 : decode cX9_readsStack 256 = .ok (.aload_n 0, 1) := by decide +kernel
theorem dX9_readsStack_257 : decode cX9_readsStack 257 = .ok (.aload_n 0, 1) := by decide +kernel
theorem dX9_readsStack_258 : decode cX9_readsStack 258 = .ok (.bipush 59, 2) := by decide +kernel
theorem dX9_readsStack_260 : decode cX9_readsStack 260 = .ok (.invokevirtual 127, 3) := by decide +kernel
theorem dX9_readsStack_263 : decode cX9_readsStack 263 = .ok (.invokevirtual 174, 3) := by decide +kernel
theorem dX9_readsStack_266 : decode cX9_readsStack 266 = .ok (.aload_n 0, 1) := by decide +kernel
theorem dX9_readsStack_267 : decode cX9_readsStack 267 = .ok (.getfield 7, 3) := by decide +kernel
theorem dX9_readsStack_270 : decode cX9_readsStack 270 = .ok (.iconst 2, 1) := by decide +kernel
theorem dX9_readsStack_271 : decode cX9_readsStack 271 = .ok (.dup2, 1) := by decide +kernel
theorem dX9_readsStack_272 : decode cX9_readsStack 272 = .ok (.iaload, 1) := by decide +kernel
theorem dX9_readsStack_273 : decode cX9_readsStack 273 = .ok (.iconst 1, 1) := by decide +kernel
theorem dX9_readsStack_274 : decode cX9_readsStack 274 = .ok (.iadd, 1) := by decide +kernel
theorem dX9_readsStack_275 : decode cX9_readsStack 275 = .ok (.iastore, 1) := by decide +kernel
theorem dX9_readsStack_276 : decode cX9_readsStack 276 = .ok (.return_, 1) := by decide +kernel
theorem dX9_load_0 : decode cX9_load 0 = .ok (.aload_n 0, 1) := by decide +kernel
theorem dX9_load_1 : decode cX9_load 1 = .ok (.iconst 0, 1) := by decide +kernel
theorem dX9_load_2 : decode cX9_load 2 = .ok (.putfield 46, 3) := by decide +kernel
theorem dX9_load_5 : decode cX9_load 5 = .ok (.aload_n 0, 1) := by decide +kernel
theorem dX9_load_6 : decode cX9_load 6 = .ok (.iconst 0, 1) := by decide +kernel
theorem dX9_load_7 : decode cX9_load 7 = .ok (.putfield 75, 3) := by decide +kernel
theorem dX9_load_10 : decode cX9_load 10 = .ok (.aload_n 0, 1) := by decide +kernel
theorem dX9_load_11 : decode cX9_load 11 = .ok (.iconst 0, 1) := by decide +kernel
theorem dX9_load_12 : decode cX9_load 12 = .ok (.putfield 101, 3) := by decide +kernel
theorem dX9_load_15 : decode cX9_load 15 = .ok (.aload_n 0, 1) := by decide +kernel
theorem dX9_load_16 : decode cX9_load 16 = .ok (.getfield 13, 3) := by decide +kernel
theorem dX9_load_19 : decode cX9_load 19 = .ok (.iconst 0, 1) := by decide +kernel
theorem dX9_load_20 : decode cX9_load 20 = .ok (.aload_n 0, 1) := by decide +kernel
theorem dX9_load_21 : decode cX9_load 21 = .ok (.getfield 7, 3) := by decide +kernel
theorem dX9_load_24 : decode cX9_load 24 = .ok (.iconst 0, 1) := by decide +kernel
theorem dX9_load_25 : decode cX9_load 25 = .ok (.invokestatic 52, 3) := by decide +kernel
theorem dX9_load_28 : decode cX9_load 28 = .ok (.aload_n 0, 1) := by decide +kernel
theorem dX9_load_29 : decode cX9_load 29 = .ok (.invokevirtual 39, 3) := by decide +kernel
theorem dX9_load_32 : decode cX9_load 32 = .ok (.aload_n 0, 1) := by decide +kernel
theorem dX9_load_33 : decode cX9_load 33 = .ok (.invokevirtual 121, 3) := by decide +kernel
theorem dX9_load_36 : decode cX9_load 36 = .ok (.aload_n 0, 1) := by decide +kernel
theorem dX9_load_37 : decode cX9_load 37 = .ok (.aload_n 0, 1) := by decide +kernel
theorem dX9_load_38 : decode cX9_load 38 = .ok (.ldc 222, 2) := by decide +kernel
theorem dX9_load_40 : decode cX9_load 40 = .ok (.invokevirtual 170, 3) := by decide +kernel
theorem dX9_load_43 : decode cX9_load 43 = .ok (.invokevirtual 174, 3) := by decide +kernel
theorem dX9_load_46 : decode cX9_load 46 = .ok (.aload_n 0, 1) := by decide +kernel
theorem dX9_load_47 : decode cX9_load 47 = .ok (.getfield 7, 3) := by decide +kernel
theorem dX9_load_50 : decode cX9_load 50 = .ok (.iconst 0, 1) := by decide +kernel
theorem dX9_load_51 : decode cX9_load 51 = .ok (.aload_n 0, 1) := by decide +kernel
theorem dX9_load_52 : decode cX9_load 52 = .ok (.iconst 1, 1) := by decide +kernel
theorem dX9_load_53 : decode cX9_load 53 = .ok (.iconst 4, 1) := by decide +kernel
theorem dX9_load_54 : decode cX9_load 54 = .ok (.invokevirtual 132, 3) := by decide +kernel
theorem dX9_load_57 : decode cX9_load 57 = .ok (.iastore, 1) := by decide +kernel
theorem dX9_load_58 : decode cX9_load 58 = .ok (.aload_n 0, 1) := by decide +kernel
theorem dX9_load_59 : decode cX9_load 59 = .ok (.aload_n 0, 1) := by decide +kernel
theorem dX9_load_60 : decode cX9_load 60 = .ok (.bipush 59, 2) := by decide +kernel
theorem dX9_load_62 : decode cX9_load 62 = .ok (.invokevirtual 127, 3) := by decide +kernel
theorem dX9_load_65 : decode cX9_load 65 = .ok (.invokevirtual 174, 3) := by decide +kernel
theorem dX9_load_68 : decode cX9_load 68 = .ok (.aload_n 0, 1) := by decide +kernel
theorem dX9_load_69 : decode cX9_load 69 = .ok (.invokevirtual 224, 3) := by decide +kernel
theorem dX9_load_72 : decode cX9_load 72 = .ok (.aload_n 0, 1) := by decide +kernel
theorem dX9_load_73 : decode cX9_load 73 = .ok (.ldc 184, 2) := by decide +kernel
theorem dX9_load_75 : decode cX9_load 75 = .ok (.invokevirtual 170, 3) := by decide +kernel
theorem dX9_load_78 : decode cX9_load 78 = .ok (.ifCond .eq 10, 3) := by decide +kernel
theorem dX9_load_81 : decode cX9_load 81 = .ok (.aload_n 0, 1) := by decide +kernel
theorem dX9_load_82 : decode cX9_load 82 = .ok (.invokevirtual 224, 3) := by decide +kernel
theorem dX9_load_85 : decode cX9_load 85 = .ok (.goto (-13), 3) := by decide +kernel
theorem dX9_load_88 : decode cX9_load 88 = .ok (.aload_n 0, 1) := by decide +kernel
theorem dX9_load_89 : decode cX9_load 89 = .ok (.ldc 227, 2) := by decide +kernel
theorem dX9_load_91 : decode cX9_load 91 = .ok (.invokevirtual 170, 3) := by decide +kernel
theorem dX9_load_94 : decode cX9_load 94 = .ok (.ifCond .eq 10, 3) := by decide +kernel
theorem dX9_load_97 : decode cX9_load 97 = .ok (.aload_n 0, 1) := by decide +kernel
theorem dX9_load_98 : decode cX9_load 98 = .ok (.invokevirtual 229, 3) := by decide +kernel
theorem dX9_load_101 : decode cX9_load 101 = .ok (.goto (-13), 3) := by decide +kernel
theorem dX9_load_104 : decode cX9_load 104 = .ok (.aload_n 0, 1) := by decide +kernel
theorem dX9_load_105 : decode cX9_load 105 = .ok (.getfield 101, 3) := by decide +kernel
theorem dX9_load_108 : decode cX9_load 108 = .ok (.ifCond .ne 17, 3) := by decide +kernel
theorem dX9_load_111 : decode cX9_load 111 = .ok (.aload_n 0, 1) := by decide +kernel
theorem dX9_load_112 : decode cX9_load 112 = .ok (.getfield 84, 3) := by decide +kernel
theorem dX9_load_115 : decode cX9_load 115 = .ok (.iconst 3, 1) := by decide +kernel
theorem dX9_load_116 : decode cX9_load 116 = .ok (.if_icmp .eq 9, 3) := by decide +kernel
theorem dX9_load_119 : decode cX9_load 119 = .ok (.aload_n 0, 1) := by decide +kernel
theorem dX9_load_120 : decode cX9_load 120 = .ok (.bipush (-2), 2) := by decide +kernel
theorem dX9_load_122 : decode cX9_load 122 = .ok (.invokevirtual 117, 3) := by decide +kernel
theorem dX9_load_125 : decode cX9_load 125 = .ok (.aload_n 0, 1) := by decide +kernel
theorem dX9_load_126 : decode cX9_load 126 = .ok (.aload_n 0, 1) := by decide +kernel
theorem dX9_load_127 : decode cX9_load 127 = .ok (.getfield 101, 3) := by decide +kernel
theorem dX9_load_130 : decode cX9_load 130 = .ok (.ifCond .ne 7, 3) := by decide +kernel
theorem dX9_load_133 : decode cX9_load 133 = .ok (.iconst (-1), 1) := by decide +kernel

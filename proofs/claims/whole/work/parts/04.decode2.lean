theorem dX9_load_134 : decode cX9_load 134 = .ok (.goto 7, 3) := by decide +kernel
theorem dX9_load_137 : decode cX9_load 137 = .ok (.aload_n 0, 1) := by decide +kernel
theorem dX9_load_138 : decode cX9_load 138 = .ok (.getfield 114, 3) := by decide +kernel
theorem dX9_load_141 : decode cX9_load 141 = .ok (.putfield 32, 3) := by decide +kernel
theorem dX9_load_144 : decode cX9_load 144 = .ok (.aload_n 0, 1) := by decide +kernel
theorem dX9_load_145 : decode cX9_load 145 = .ok (.iconst 0, 1) := by decide +kernel
theorem dX9_load_146 : decode cX9_load 146 = .ok (.putfield 68, 3) := by decide +kernel
theorem dX9_load_149 : decode cX9_load 149 = .ok (.aload_n 0, 1) := by decide +kernel
theorem dX9_load_150 : decode cX9_load 150 = .ok (.getfield 101, 3) := by decide +kernel
theorem dX9_load_153 : decode cX9_load 153 = .ok (.ifCond .eq 16, 3) := by decide +kernel
theorem dX9_load_156 : decode cX9_load 156 = .ok (.aload_n 0, 1) := by decide +kernel
theorem dX9_load_157 : decode cX9_load 157 = .ok (.getfield 7, 3) := by decide +kernel
theorem dX9_load_160 : decode cX9_load 160 = .ok (.iconst 0, 1) := by decide +kernel
theorem dX9_load_161 : decode cX9_load 161 = .ok (.aload_n 0, 1) := by decide +kernel
theorem dX9_load_162 : decode cX9_load 162 = .ok (.getfield 13, 3) := by decide +kernel
theorem dX9_load_165 : decode cX9_load 165 = .ok (.iconst 0, 1) := by decide +kernel
theorem dX9_load_166 : decode cX9_load 166 = .ok (.invokestatic 52, 3) := by decide +kernel
theorem dX9_load_169 : decode cX9_load 169 = .ok (.aload_n 0, 1) := by decide +kernel
theorem dX9_load_170 : decode cX9_load 170 = .ok (.getfield 101, 3) := by decide +kernel
theorem dX9_load_173 : decode cX9_load 173 = .ok (.ifCond .eq 8, 3) := by decide +kernel
theorem dX9_load_176 : decode cX9_load 176 = .ok (.aload_n 0, 1) := by decide +kernel
theorem dX9_load_177 : decode cX9_load 177 = .ok (.getfield 101, 3) := by decide +kernel
theorem dX9_load_180 : decode cX9_load 180 = .ok (.ireturn, 1) := by decide +kernel
theorem dX9_load_181 : decode cX9_load 181 = .ok (.aload_n 0, 1) := by decide +kernel
theorem dX9_load_182 : decode cX9_load 182 = .ok (.aload_n 0, 1) := by decide +kernel
theorem dX9_load_183 : decode cX9_load 183 = .ok (.getfield 13, 3) := by decide +kernel
theorem dX9_load_186 : decode cX9_load 186 = .ok (.invokevirtual 60, 3) := by decide +kernel
theorem dX9_load_189 : decode cX9_load 189 = .ok (.aload_n 0, 1) := by decide +kernel
theorem dX9_load_190 : decode cX9_load 190 = .ok (.getfield 7, 3) := by decide +kernel
theorem dX9_load_193 : decode cX9_load 193 = .ok (.iconst 1, 1) := by decide +kernel
theorem dX9_load_194 : decode cX9_load 194 = .ok (.iaload, 1) := by decide +kernel
theorem dX9_load_195 : decode cX9_load 195 = .ok (.ireturn, 1) := by decide +kernel
theorem dX9_errorPosition_0 : decode cX9_errorPosition 0 = .ok (.aload_n 0, 1) := by decide +kernel
theorem dX9_errorPosition_1 : decode cX9_errorPosition 1 = .ok (.iconst 0, 1) := by decide +kernel
theorem dX9_errorPosition_2 : decode cX9_errorPosition 2 = .ok (.putfield 46, 3) := by decide +kernel
theorem dX9_errorPosition_5 : decode cX9_errorPosition 5 = .ok (.aload_n 0, 1) := by decide +kernel
theorem dX9_errorPosition_6 : decode cX9_errorPosition 6 = .ok (.getfield 32, 3) := by decide +kernel
theorem dX9_errorPosition_9 : decode cX9_errorPosition 9 = .ok (.ireturn, 1) := by decide +kernel
theorem dX9_of_0 : decode cX9_of 0 = .ok (.aload_n 0, 1) := by decide +kernel
theorem dX9_of_1 : decode cX9_of 1 = .ok (.getfield 7, 3) := by decide +kernel
theorem dX9_of_4 : decode cX9_of 4 = .ok (.bipush 6, 2) := by decide +kernel
theorem dX9_of_6 : decode cX9_of 6 = .ok (.bipush 86, 2) := by decide +kernel
theorem dX9_of_8 : decode cX9_of 8 = .ok (.iload_n 1, 1) := by decide +kernel
theorem dX9_of_9 : decode cX9_of 9 = .ok (.imul, 1) := by decide +kernel
theorem dX9_of_10 : decode cX9_of 10 = .ok (.iadd, 1) := by decide +kernel
theorem dX9_of_11 : decode cX9_of 11 = .ok (.iload_n 2, 1) := by decide +kernel
theorem dX9_of_12 : decode cX9_of 12 = .ok (.iadd, 1) := by decide +kernel
theorem dX9_of_13 : decode cX9_of 13 = .ok (.iaload, 1) := by decide +kernel
theorem dX9_of_14 : decode cX9_of 14 = .ok (.ireturn, 1) := by decide +kernel
theorem dX9_sets_0 : decode cX9_sets 0 = .ok (.aload_n 0, 1) := by decide +kernel
theorem dX9_sets_1 : decode cX9_sets 1 = .ok (.getfield 7, 3) := by decide +kernel
theorem dX9_sets_4 : decode cX9_sets 4 = .ok (.bipush 6, 2) := by decide +kernel
theorem dX9_sets_6 : decode cX9_sets 6 = .ok (.bipush 86, 2) := by decide +kernel
theorem dX9_sets_8 : decode cX9_sets 8 = .ok (.iload_n 1, 1) := by decide +kernel
theorem dX9_sets_9 : decode cX9_sets 9 = .ok (.imul, 1) := by decide +kernel
theorem dX9_sets_10 : decode cX9_sets 10 = .ok (.iadd, 1) := by decide +kernel
theorem dX9_sets_11 : decode cX9_sets 11 = .ok (.iload_n 2, 1) := by decide +kernel
theorem dX9_sets_12 : decode cX9_sets 12 = .ok (.iadd, 1) := by decide +kernel
theorem dX9_sets_13 : decode cX9_sets 13 = .ok (.iload_n 3, 1) := by decide +kernel
theorem dX9_sets_14 : decode cX9_sets 14 = .ok (.iastore, 1) := by decide +kernel
theorem dX9_sets_15 : decode cX9_sets 15 = .ok (.return_, 1) := by decide +kernel
theorem dX9_ofStack_0 : decode cX9_ofStack 0 = .ok (.aload_n 0, 1) := by decide +kernel
theorem dX9_ofStack_1 : decode cX9_ofStack 1 = .ok (.getfield 7, 3) := by decide +kernel
theorem dX9_ofStack_4 : decode cX9_ofStack 4 = .ok (.sipush 694, 3) := by decide +kernel
theorem dX9_ofStack_7 : decode cX9_ofStack 7 = .ok (.bipush 21, 2) := by decide +kernel
theorem dX9_ofStack_9 : decode cX9_ofStack 9 = .ok (.iload_n 1, 1) := by decide +kernel
theorem dX9_ofStack_10 : decode cX9_ofStack 10 = .ok (.imul, 1) := by decide +kernel
theorem dX9_ofStack_11 : decode cX9_ofStack 11 = .ok (.iadd, 1) := by decide +kernel
theorem dX9_ofStack_12 : decode cX9_ofStack 12 = .ok (.iload_n 2, 1) := by decide +kernel
theorem dX9_ofStack_13 : decode cX9_ofStack 13 = .ok (.iadd, 1) := by decide +kernel
theorem dX9_ofStack_14 : decode cX9_ofStack 14 = .ok (.iaload, 1) := by decide +kernel
theorem dX9_ofStack_15 : decode cX9_ofStack 15 = .ok (.ireturn, 1) := by decide +kernel
theorem dX9_puts_0 : decode cX9_puts 0 = .ok (.aload_n 0, 1) := by decide +kernel
theorem dX9_puts_1 : decode cX9_puts 1 = .ok (.getfield 7, 3) := by decide +kernel
theorem dX9_puts_4 : decode cX9_puts 4 = .ok (.sipush 694, 3) := by decide +kernel
theorem dX9_puts_7 : decode cX9_puts 7 = .ok (.bipush 21, 2) := by decide +kernel
theorem dX9_puts_9 : decode cX9_puts 9 = .ok (.iload_n 1, 1) := by decide +kernel
theorem dX9_puts_10 : decode cX9_puts 10 = .ok (.imul, 1) := by decide +kernel
theorem dX9_puts_11 : decode cX9_puts 11 = .ok (.iadd, 1) := by decide +kernel
theorem dX9_puts_12 : decode cX9_puts 12 = .ok (.iload_n 2, 1) := by decide +kernel
theorem dX9_puts_13 : decode cX9_puts 13 = .ok (.iadd, 1) := by decide +kernel
theorem dX9_puts_14 : decode cX9_puts 14 = .ok (.iload_n 3, 1) := by decide +kernel
theorem dX9_puts_15 : decode cX9_puts 15 = .ok (.iastore, 1) := by decide +kernel
theorem dX9_puts_16 : decode cX9_puts 16 = .ok (.return_, 1) := by decide +kernel
theorem dX9_isProcess_0 : decode cX9_isProcess 0 = .ok (.iload_n 1, 1) := by decide +kernel
theorem dX9_isProcess_1 : decode cX9_isProcess 1 = .ok (.iconst 0, 1) := by decide +kernel
theorem dX9_isProcess_2 : decode cX9_isProcess 2 = .ok (.aload_n 0, 1) := by decide +kernel
theorem dX9_isProcess_3 : decode cX9_isProcess 3 = .ok (.getfield 7, 3) := by decide +kernel
theorem dX9_isProcess_6 : decode cX9_isProcess 6 = .ok (.iconst 1, 1) := by decide +kernel
theorem dX9_isProcess_7 : decode cX9_isProcess 7 = .ok (.iaload, 1) := by decide +kernel
theorem dX9_isProcess_8 : decode cX9_isProcess 8 = .ok (.iconst 1, 1) := by decide +kernel
theorem dX9_isProcess_9 : decode cX9_isProcess 9 = .ok (.isub, 1) := by decide +kernel
theorem dX9_isProcess_10 : decode cX9_isProcess 10 = .ok (.invokestatic 56, 3) := by decide +kernel
theorem dX9_isProcess_13 : decode cX9_isProcess 13 = .ok (.ireturn, 1) := by decide +kernel
theorem dX9_isStack_0 : decode cX9_isStack 0 = .ok (.iload_n 1, 1) := by decide +kernel
theorem dX9_isStack_1 : decode cX9_isStack 1 = .ok (.iconst 0, 1) := by decide +kernel
theorem dX9_isStack_2 : decode cX9_isStack 2 = .ok (.aload_n 0, 1) := by decide +kernel
theorem dX9_isStack_3 : decode cX9_isStack 3 = .ok (.getfield 7, 3) := by decide +kernel
theorem dX9_isStack_6 : decode cX9_isStack 6 = .ok (.iconst 2, 1) := by decide +kernel
theorem dX9_isStack_7 : decode cX9_isStack 7 = .ok (.iaload, 1) := by decide +kernel
theorem dX9_isStack_8 : decode cX9_isStack 8 = .ok (.iconst 1, 1) := by decide +kernel
theorem dX9_isStack_9 : decode cX9_isStack 9 = .ok (.isub, 1) := by decide +kernel
theorem dX9_isStack_10 : decode cX9_isStack 10 = .ok (.invokestatic 56, 3) := by decide +kernel
theorem dX9_isStack_13 : decode cX9_isStack 13 = .ok (.ireturn, 1) := by decide +kernel
theorem dX9_isSlot_0 : decode cX9_isSlot 0 = .ok (.iload_n 1, 1) := by decide +kernel
theorem dX9_isSlot_1 : decode cX9_isSlot 1 = .ok (.iconst 0, 1) := by decide +kernel
theorem dX9_isSlot_2 : decode cX9_isSlot 2 = .ok (.aload_n 0, 1) := by decide +kernel
theorem dX9_isSlot_3 : decode cX9_isSlot 3 = .ok (.getfield 7, 3) := by decide +kernel
theorem dX9_isSlot_6 : decode cX9_isSlot 6 = .ok (.iconst 0, 1) := by decide +kernel
theorem dX9_isSlot_7 : decode cX9_isSlot 7 = .ok (.iaload, 1) := by decide +kernel
theorem dX9_isSlot_8 : decode cX9_isSlot 8 = .ok (.iconst 1, 1) := by decide +kernel
theorem dX9_isSlot_9 : decode cX9_isSlot 9 = .ok (.isub, 1) := by decide +kernel
theorem dX9_isSlot_10 : decode cX9_isSlot 10 = .ok (.invokestatic 56, 3) := by decide +kernel
theorem dX9_isSlot_13 : decode cX9_isSlot 13 = .ok (.ireturn, 1) := by decide +kernel
theorem dX9_inHand_0 : decode cX9_inHand 0 = .ok (.iconst 0, 1) := by decide +kernel
theorem dX9_inHand_1 : decode cX9_inHand 1 = .ok (.istore_n 2, 1) := by decide +kernel
theorem dX9_inHand_2 : decode cX9_inHand 2 = .ok (.iload_n 2, 1) := by decide +kernel
theorem dX9_inHand_3 : decode cX9_inHand 3 = .ok (.aload_n 0, 1) := by decide +kernel
theorem dX9_inHand_4 : decode cX9_inHand 4 = .ok (.getfield 7, 3) := by decide +kernel
theorem dX9_inHand_7 : decode cX9_inHand 7 = .ok (.iconst 2, 1) := by decide +kernel
theorem dX9_inHand_8 : decode cX9_inHand 8 = .ok (.iaload, 1) := by decide +kernel
theorem dX9_inHand_9 : decode cX9_inHand 9 = .ok (.if_icmp .ge 21, 3) := by decide +kernel
theorem dX9_inHand_12 : decode cX9_inHand 12 = .ok (.aload_n 0, 1) := by decide +kernel
theorem dX9_inHand_13 : decode cX9_inHand 13 = .ok (.iload_n 2, 1) := by decide +kernel
theorem dX9_inHand_14 : decode cX9_inHand 14 = .ok (.iconst 2, 1) := by decide +kernel
theorem dX9_inHand_15 : decode cX9_inHand 15 = .ok (.invokevirtual 232, 3) := by decide +kernel
theorem dX9_inHand_18 : decode cX9_inHand 18 = .ok (.iload_n 1, 1) := by decide +kernel
theorem dX9_inHand_19 : decode cX9_inHand 19 = .ok (.if_icmp .ne 5, 3) := by decide +kernel
theorem dX9_inHand_22 : decode cX9_inHand 22 = .ok (.iload_n 2, 1) := by decide +kernel
theorem dX9_inHand_23 : decode cX9_inHand 23 = .ok (.ireturn, 1) := by decide +kernel
theorem dX9_inHand_24 : decode cX9_inHand 24 = .ok (.iinc 2 1, 3) := by decide +kernel
theorem dX9_inHand_27 : decode cX9_inHand 27 = .ok (.goto (-25), 3) := by decide +kernel
theorem dX9_inHand_30 : decode cX9_inHand 30 = .ok (.iconst (-1), 1) := by decide +kernel
theorem dX9_inHand_31 : decode cX9_inHand 31 = .ok (.ireturn, 1) := by decide +kernel
theorem dX9_onSlot_0 : decode cX9_onSlot 0 = .ok (.iconst 0, 1) := by decide +kernel
theorem dX9_onSlot_1 : decode cX9_onSlot 1 = .ok (.istore_n 2, 1) := by decide +kernel
theorem dX9_onSlot_2 : decode cX9_onSlot 2 = .ok (.iload_n 2, 1) := by decide +kernel
theorem dX9_onSlot_3 : decode cX9_onSlot 3 = .ok (.aload_n 0, 1) := by decide +kernel
theorem dX9_onSlot_4 : decode cX9_onSlot 4 = .ok (.getfield 7, 3) := by decide +kernel
theorem dX9_onSlot_7 : decode cX9_onSlot 7 = .ok (.iconst 2, 1) := by decide +kernel
theorem dX9_onSlot_8 : decode cX9_onSlot 8 = .ok (.iaload, 1) := by decide +kernel
theorem dX9_onSlot_9 : decode cX9_onSlot 9 = .ok (.if_icmp .ge 21, 3) := by decide +kernel
theorem dX9_onSlot_12 : decode cX9_onSlot 12 = .ok (.aload_n 0, 1) := by decide +kernel
theorem dX9_onSlot_13 : decode cX9_onSlot 13 = .ok (.iload_n 2, 1) := by decide +kernel
theorem dX9_onSlot_14 : decode cX9_onSlot 14 = .ok (.iconst 3, 1) := by decide +kernel
theorem dX9_onSlot_15 : decode cX9_onSlot 15 = .ok (.invokevirtual 232, 3) := by decide +kernel
theorem dX9_onSlot_18 : decode cX9_onSlot 18 = .ok (.iload_n 1, 1) := by decide +kernel
theorem dX9_onSlot_19 : decode cX9_onSlot 19 = .ok (.if_icmp .ne 5, 3) := by decide +kernel
theorem dX9_onSlot_22 : decode cX9_onSlot 22 = .ok (.iload_n 2, 1) := by decide +kernel
theorem dX9_onSlot_23 : decode cX9_onSlot 23 = .ok (.ireturn, 1) := by decide +kernel
theorem dX9_onSlot_24 : decode cX9_onSlot 24 = .ok (.iinc 2 1, 3) := by decide +kernel
theorem dX9_onSlot_27 : decode cX9_onSlot 27 = .ok (.goto (-25), 3) := by decide +kernel
theorem dX9_onSlot_30 : decode cX9_onSlot 30 = .ok (.iconst (-1), 1) := by decide +kernel
theorem dX9_onSlot_31 : decode cX9_onSlot 31 = .ok (.ireturn, 1) := by decide +kernel
theorem dX9_mayUse_0 : decode cX9_mayUse 0 = .ok (.aload_n 0, 1) := by decide +kernel
theorem dX9_mayUse_1 : decode cX9_mayUse 1 = .ok (.iload_n 1, 1) := by decide +kernel
theorem dX9_mayUse_2 : decode cX9_mayUse 2 = .ok (.iconst 5, 1) := by decide +kernel
theorem dX9_mayUse_3 : decode cX9_mayUse 3 = .ok (.invokevirtual 135, 3) := by decide +kernel
theorem dX9_mayUse_6 : decode cX9_mayUse 6 = .ok (.iload_n 2, 1) := by decide +kernel
theorem dX9_mayUse_7 : decode cX9_mayUse 7 = .ok (.ishr, 1) := by decide +kernel
theorem dX9_mayUse_8 : decode cX9_mayUse 8 = .ok (.iconst 1, 1) := by decide +kernel
theorem dX9_mayUse_9 : decode cX9_mayUse 9 = .ok (.iand, 1) := by decide +kernel
theorem dX9_mayUse_10 : decode cX9_mayUse 10 = .ok (.iconst 1, 1) := by decide +kernel
theorem dX9_mayUse_11 : decode cX9_mayUse 11 = .ok (.if_icmp .ne 7, 3) := by decide +kernel
theorem dX9_mayUse_14 : decode cX9_mayUse 14 = .ok (.iconst 1, 1) := by decide +kernel
theorem dX9_mayUse_15 : decode cX9_mayUse 15 = .ok (.goto 4, 3) := by decide +kernel
theorem dX9_mayUse_18 : decode cX9_mayUse 18 = .ok (.iconst 0, 1) := by decide +kernel
theorem dX9_mayUse_19 : decode cX9_mayUse 19 = .ok (.ireturn, 1) := by decide +kernel
theorem dX9_isReady_0 : decode cX9_isReady 0 = .ok (.aload_n 0, 1) := by decide +kernel
theorem dX9_isReady_1 : decode cX9_isReady 1 = .ok (.iload_n 1, 1) := by decide +kernel
theorem dX9_isReady_2 : decode cX9_isReady 2 = .ok (.iconst 0, 1) := by decide +kernel
theorem dX9_isReady_3 : decode cX9_isReady 3 = .ok (.invokevirtual 135, 3) := by decide +kernel
theorem dX9_isReady_6 : decode cX9_isReady 6 = .ok (.ifCond .ne 7, 3) := by decide +kernel
theorem dX9_isReady_9 : decode cX9_isReady 9 = .ok (.iconst 1, 1) := by decide +kernel
theorem dX9_isReady_10 : decode cX9_isReady 10 = .ok (.goto 4, 3) := by decide +kernel
theorem dX9_isReady_13 : decode cX9_isReady 13 = .ok (.iconst 0, 1) := by decide +kernel
theorem dX9_isReady_14 : decode cX9_isReady 14 = .ok (.ireturn, 1) := by decide +kernel
theorem dX9_countOf_0 : decode cX9_countOf 0 = .ok (.iconst 0, 1) := by decide +kernel
theorem dX9_countOf_1 : decode cX9_countOf 1 = .ok (.istore_n 2, 1) := by decide +kernel
theorem dX9_countOf_2 : decode cX9_countOf 2 = .ok (.iconst 0, 1) := by decide +kernel
theorem dX9_countOf_3 : decode cX9_countOf 3 = .ok (.istore_n 3, 1) := by decide +kernel
theorem dX9_countOf_4 : decode cX9_countOf 4 = .ok (.iload_n 3, 1) := by decide +kernel
theorem dX9_countOf_5 : decode cX9_countOf 5 = .ok (.aload_n 0, 1) := by decide +kernel
theorem dX9_countOf_6 : decode cX9_countOf 6 = .ok (.getfield 7, 3) := by decide +kernel
theorem dX9_countOf_9 : decode cX9_countOf 9 = .ok (.iconst 1, 1) := by decide +kernel
theorem dX9_countOf_10 : decode cX9_countOf 10 = .ok (.iaload, 1) := by decide +kernel
theorem dX9_countOf_11 : decode cX9_countOf 11 = .ok (.if_icmp .ge 27, 3) := by decide +kernel
theorem dX9_countOf_14 : decode cX9_countOf 14 = .ok (.iload_n 2, 1) := by decide +kernel
theorem dX9_countOf_15 : decode cX9_countOf 15 = .ok (.aload_n 0, 1) := by decide +kernel
theorem dX9_countOf_16 : decode cX9_countOf 16 = .ok (.iload_n 3, 1) := by decide +kernel
theorem dX9_countOf_17 : decode cX9_countOf 17 = .ok (.iconst 0, 1) := by decide +kernel
theorem dX9_countOf_18 : decode cX9_countOf 18 = .ok (.invokevirtual 135, 3) := by decide +kernel
theorem dX9_countOf_21 : decode cX9_countOf 21 = .ok (.iload_n 1, 1) := by decide +kernel
theorem dX9_countOf_22 : decode cX9_countOf 22 = .ok (.if_icmp .ne 7, 3) := by decide +kernel
theorem dX9_countOf_25 : decode cX9_countOf 25 = .ok (.iconst 1, 1) := by decide +kernel
theorem dX9_countOf_26 : decode cX9_countOf 26 = .ok (.goto 4, 3) := by decide +kernel
theorem dX9_countOf_29 : decode cX9_countOf 29 = .ok (.iconst 0, 1) := by decide +kernel
theorem dX9_countOf_30 : decode cX9_countOf 30 = .ok (.iadd, 1) := by decide +kernel
theorem dX9_countOf_31 : decode cX9_countOf 31 = .ok (.istore_n 2, 1) := by decide +kernel
theorem dX9_countOf_32 : decode cX9_countOf 32 = .ok (.iinc 3 1, 3) := by decide +kernel
theorem dX9_countOf_35 : decode cX9_countOf 35 = .ok (.goto (-31), 3) := by decide +kernel
theorem dX9_countOf_38 : decode cX9_countOf 38 = .ok (.iload_n 2, 1) := by decide +kernel
theorem dX9_countOf_39 : decode cX9_countOf 39 = .ok (.ireturn, 1) := by decide +kernel
theorem dX9_sumOf_0 : decode cX9_sumOf 0 = .ok (.iconst 0, 1) := by decide +kernel
theorem dX9_sumOf_1 : decode cX9_sumOf 1 = .ok (.istore_n 2, 1) := by decide +kernel
theorem dX9_sumOf_2 : decode cX9_sumOf 2 = .ok (.iconst 0, 1) := by decide +kernel
theorem dX9_sumOf_3 : decode cX9_sumOf 3 = .ok (.istore_n 3, 1) := by decide +kernel
theorem dX9_sumOf_4 : decode cX9_sumOf 4 = .ok (.iload_n 3, 1) := by decide +kernel
theorem dX9_sumOf_5 : decode cX9_sumOf 5 = .ok (.aload_n 0, 1) := by decide +kernel
theorem dX9_sumOf_6 : decode cX9_sumOf 6 = .ok (.getfield 7, 3) := by decide +kernel
theorem dX9_sumOf_9 : decode cX9_sumOf 9 = .ok (.iconst 1, 1) := by decide +kernel
theorem dX9_sumOf_10 : decode cX9_sumOf 10 = .ok (.iaload, 1) := by decide +kernel
theorem dX9_sumOf_11 : decode cX9_sumOf 11 = .ok (.if_icmp .ge 18, 3) := by decide +kernel
theorem dX9_sumOf_14 : decode cX9_sumOf 14 = .ok (.iload_n 2, 1) := by decide +kernel
theorem dX9_sumOf_15 : decode cX9_sumOf 15 = .ok (.aload_n 0, 1) := by decide +kernel
theorem dX9_sumOf_16 : decode cX9_sumOf 16 = .ok (.iload_n 3, 1) := by decide +kernel
theorem dX9_sumOf_17 : decode cX9_sumOf 17 = .ok (.iload_n 1, 1) := by decide +kernel
theorem dX9_sumOf_18 : decode cX9_sumOf 18 = .ok (.invokevirtual 135, 3) := by decide +kernel
theorem dX9_sumOf_21 : decode cX9_sumOf 21 = .ok (.iadd, 1) := by decide +kernel
theorem dX9_sumOf_22 : decode cX9_sumOf 22 = .ok (.istore_n 2, 1) := by decide +kernel
theorem dX9_sumOf_23 : decode cX9_sumOf 23 = .ok (.iinc 3 1, 3) := by decide +kernel
theorem dX9_sumOf_26 : decode cX9_sumOf 26 = .ok (.goto (-22), 3) := by decide +kernel
theorem dX9_sumOf_29 : decode cX9_sumOf 29 = .ok (.iload_n 2, 1) := by decide +kernel
theorem dX9_sumOf_30 : decode cX9_sumOf 30 = .ok (.ireturn, 1) := by decide +kernel
theorem dX9_neededBy_0 : decode cX9_neededBy 0 = .ok (.iload_n 0, 1) := by decide +kernel
theorem dX9_neededBy_1 : decode cX9_neededBy 1 = .ok (.tableswitch 67 1 12 #[63, 63, 65, 65, 65, 65, 63, 67, 67, 67, 67, 63], 63) := by decide +kernel
theorem dX9_neededBy_64 : decode cX9_neededBy 64 = .ok (.iconst 1, 1) := by decide +kernel
theorem dX9_neededBy_65 : decode cX9_neededBy 65 = .ok (.ireturn, 1) := by decide +kernel
theorem dX9_neededBy_66 : decode cX9_neededBy 66 = .ok (.iconst 2, 1) := by decide +kernel
theorem dX9_neededBy_67 : decode cX9_neededBy 67 = .ok (.ireturn, 1) := by decide +kernel
theorem dX9_neededBy_68 : decode cX9_neededBy 68 = .ok (.iconst 0, 1) := by decide +kernel
theorem dX9_neededBy_69 : decode cX9_neededBy 69 = .ok (.ireturn, 1) := by decide +kernel
theorem dX9_isSum_0 : decode cX9_isSum 0 = .ok (.iload_n 0, 1) := by decide +kernel
theorem dX9_isSum_1 : decode cX9_isSum 1 = .ok (.iconst 4, 1) := by decide +kernel
theorem dX9_isSum_2 : decode cX9_isSum 2 = .ok (.bipush 6, 2) := by decide +kernel
theorem dX9_isSum_4 : decode cX9_isSum 4 = .ok (.invokestatic 56, 3) := by decide +kernel
theorem dX9_isSum_7 : decode cX9_isSum 7 = .ok (.ireturn, 1) := by decide +kernel
theorem dX9_numberOf_0 : decode cX9_numberOf 0 = .ok (.aload_n 0, 1) := by decide +kernel
theorem dX9_numberOf_1 : decode cX9_numberOf 1 = .ok (.iload_n 1, 1) := by decide +kernel
theorem dX9_numberOf_2 : decode cX9_numberOf 2 = .ok (.iconst 5, 1) := by decide +kernel
theorem dX9_numberOf_3 : decode cX9_numberOf 3 = .ok (.aload_n 0, 1) := by decide +kernel
theorem dX9_numberOf_4 : decode cX9_numberOf 4 = .ok (.iload_n 1, 1) := by decide +kernel
theorem dX9_numberOf_5 : decode cX9_numberOf 5 = .ok (.iconst 1, 1) := by decide +kernel
theorem dX9_numberOf_6 : decode cX9_numberOf 6 = .ok (.invokevirtual 232, 3) := by decide +kernel
theorem dX9_numberOf_9 : decode cX9_numberOf 9 = .ok (.iadd, 1) := by decide +kernel
theorem dX9_numberOf_10 : decode cX9_numberOf 10 = .ok (.iconst 1, 1) := by decide +kernel
theorem dX9_numberOf_11 : decode cX9_numberOf 11 = .ok (.isub, 1) := by decide +kernel
theorem dX9_numberOf_12 : decode cX9_numberOf 12 = .ok (.iload_n 2, 1) := by decide +kernel
theorem dX9_numberOf_13 : decode cX9_numberOf 13 = .ok (.isub, 1) := by decide +kernel
theorem dX9_numberOf_14 : decode cX9_numberOf 14 = .ok (.invokevirtual 232, 3) := by decide +kernel
theorem dX9_numberOf_17 : decode cX9_numberOf 17 = .ok (.ireturn, 1) := by decide +kernel
theorem dX9_resultOf_0 : decode cX9_resultOf 0 = .ok (.aload_n 0, 1) := by decide +kernel
theorem dX9_resultOf_1 : decode cX9_resultOf 1 = .ok (.iload_n 1, 1) := by decide +kernel
theorem dX9_resultOf_2 : decode cX9_resultOf 2 = .ok (.iconst 1, 1) := by decide +kernel
theorem dX9_resultOf_3 : decode cX9_resultOf 3 = .ok (.invokevirtual 235, 3) := by decide +kernel
theorem dX9_resultOf_6 : decode cX9_resultOf 6 = .ok (.i2l, 1) := by decide +kernel
theorem dX9_resultOf_7 : decode cX9_resultOf 7 = .ok (.lstore_n 3, 1) := by decide +kernel
theorem dX9_resultOf_8 : decode cX9_resultOf 8 = .ok (.aload_n 0, 1) := by decide +kernel
theorem dX9_resultOf_9 : decode cX9_resultOf 9 = .ok (.iload_n 1, 1) := by decide +kernel
theorem dX9_resultOf_10 : decode cX9_resultOf 10 = .ok (.iconst 0, 1) := by decide +kernel
theorem dX9_resultOf_11 : decode cX9_resultOf 11 = .ok (.invokevirtual 235, 3) := by decide +kernel
theorem dX9_resultOf_14 : decode cX9_resultOf 14 = .ok (.i2l, 1) := by decide +kernel
theorem dX9_resultOf_15 : decode cX9_resultOf 15 = .ok (.lstore 5, 2) := by decide +kernel
theorem dX9_resultOf_17 : decode cX9_resultOf 17 = .ok (.iload_n 2, 1) := by decide +kernel
theorem dX9_resultOf_18 : decode cX9_resultOf 18 = .ok (.iconst 4, 1) := by decide +kernel
theorem dX9_resultOf_19 : decode cX9_resultOf 19 = .ok (.if_icmp .ne 10, 3) := by decide +kernel
theorem dX9_resultOf_22 : decode cX9_resultOf 22 = .ok (.lload_n 3, 1) := by decide +kernel
theorem dX9_resultOf_23 : decode cX9_resultOf 23 = .ok (.lload 5, 2) := by decide +kernel
theorem dX9_resultOf_25 : decode cX9_resultOf 25 = .ok (.ladd, 1) := by decide +kernel
theorem dX9_resultOf_26 : decode cX9_resultOf 26 = .ok (.goto 19, 3) := by decide +kernel
theorem dX9_resultOf_29 : decode cX9_resultOf 29 = .ok (.iload_n 2, 1) := by decide +kernel
theorem dX9_resultOf_30 : decode cX9_resultOf 30 = .ok (.iconst 5, 1) := by decide +kernel
theorem dX9_resultOf_31 : decode cX9_resultOf 31 = .ok (.if_icmp .ne 10, 3) := by decide +kernel
theorem dX9_resultOf_34 : decode cX9_resultOf 34 = .ok (.lload_n 3, 1) := by decide +kernel
theorem dX9_resultOf_35 : decode cX9_resultOf 35 = .ok (.lload 5, 2) := by decide +kernel
theorem dX9_resultOf_37 : decode cX9_resultOf 37 = .ok (.lsub, 1) := by decide +kernel
theorem dX9_resultOf_38 : decode cX9_resultOf 38 = .ok (.goto 7, 3) := by decide +kernel
theorem dX9_resultOf_41 : decode cX9_resultOf 41 = .ok (.lload_n 3, 1) := by decide +kernel
theorem dX9_resultOf_42 : decode cX9_resultOf 42 = .ok (.lload 5, 2) := by decide +kernel
theorem dX9_resultOf_44 : decode cX9_resultOf 44 = .ok (.lmul, 1) := by decide +kernel
theorem dX9_resultOf_45 : decode cX9_resultOf 45 = .ok (.lreturn, 1) := by decide +kernel
theorem dX9_faultOf_0 : decode cX9_faultOf 0 = .ok (.aload_n 0, 1) := by decide +kernel
theorem dX9_faultOf_1 : decode cX9_faultOf 1 = .ok (.iload_n 1, 1) := by decide +kernel
theorem dX9_faultOf_2 : decode cX9_faultOf 2 = .ok (.bipush 18, 2) := by decide +kernel
theorem dX9_faultOf_4 : decode cX9_faultOf 4 = .ok (.aload_n 0, 1) := by decide +kernel
theorem dX9_faultOf_5 : decode cX9_faultOf 5 = .ok (.iload_n 1, 1) := by decide +kernel
theorem dX9_faultOf_6 : decode cX9_faultOf 6 = .ok (.iconst 2, 1) := by decide +kernel
theorem dX9_faultOf_7 : decode cX9_faultOf 7 = .ok (.invokevirtual 135, 3) := by decide +kernel
theorem dX9_faultOf_10 : decode cX9_faultOf 10 = .ok (.iadd, 1) := by decide +kernel
theorem dX9_faultOf_11 : decode cX9_faultOf 11 = .ok (.invokevirtual 135, 3) := by decide +kernel
theorem dX9_faultOf_14 : decode cX9_faultOf 14 = .ok (.istore_n 2, 1) := by decide +kernel
theorem dX9_faultOf_15 : decode cX9_faultOf 15 = .ok (.aload_n 0, 1) := by decide +kernel
theorem dX9_faultOf_16 : decode cX9_faultOf 16 = .ok (.iload_n 1, 1) := by decide +kernel
theorem dX9_faultOf_17 : decode cX9_faultOf 17 = .ok (.invokevirtual 212, 3) := by decide +kernel
theorem dX9_faultOf_20 : decode cX9_faultOf 20 = .ok (.istore_n 3, 1) := by decide +kernel
theorem dX9_faultOf_21 : decode cX9_faultOf 21 = .ok (.iload_n 2, 1) := by decide +kernel
theorem dX9_faultOf_22 : decode cX9_faultOf 22 = .ok (.bipush 9, 2) := by decide +kernel
theorem dX9_faultOf_24 : decode cX9_faultOf 24 = .ok (.if_icmp .eq 19, 3) := by decide +kernel
theorem dX9_faultOf_27 : decode cX9_faultOf 27 = .ok (.iload_n 2, 1) := by decide +kernel
theorem dX9_faultOf_28 : decode cX9_faultOf 28 = .ok (.bipush 11, 2) := by decide +kernel
theorem dX9_faultOf_30 : decode cX9_faultOf 30 = .ok (.if_icmp .eq 13, 3) := by decide +kernel
theorem dX9_faultOf_33 : decode cX9_faultOf 33 = .ok (.iload_n 2, 1) := by decide +kernel
theorem dX9_faultOf_34 : decode cX9_faultOf 34 = .ok (.bipush 13, 2) := by decide +kernel
theorem dX9_faultOf_36 : decode cX9_faultOf 36 = .ok (.if_icmp .eq 7, 3) := by decide +kernel
theorem dX9_faultOf_39 : decode cX9_faultOf 39 = .ok (.iconst 1, 1) := by decide +kernel
theorem dX9_faultOf_40 : decode cX9_faultOf 40 = .ok (.goto 4, 3) := by decide +kernel
theorem dX9_faultOf_43 : decode cX9_faultOf 43 = .ok (.iconst 0, 1) := by decide +kernel
theorem dX9_faultOf_44 : decode cX9_faultOf 44 = .ok (.istore 4, 2) := by decide +kernel
theorem dX9_faultOf_46 : decode cX9_faultOf 46 = .ok (.iload 4, 2) := by decide +kernel
theorem dX9_faultOf_48 : decode cX9_faultOf 48 = .ok (.ifCond .eq 10, 3) := by decide +kernel
theorem dX9_faultOf_51 : decode cX9_faultOf 51 = .ok (.iload_n 3, 1) := by decide +kernel
theorem dX9_faultOf_52 : decode cX9_faultOf 52 = .ok (.iconst (-1), 1) := by decide +kernel
theorem dX9_faultOf_53 : decode cX9_faultOf 53 = .ok (.if_icmp .ne 5, 3) := by decide +kernel
theorem dX9_faultOf_56 : decode cX9_faultOf 56 = .ok (.iconst 1, 1) := by decide +kernel
theorem dX9_faultOf_57 : decode cX9_faultOf 57 = .ok (.ireturn, 1) := by decide +kernel
theorem dX9_faultOf_58 : decode cX9_faultOf 58 = .ok (.iload_n 2, 1) := by decide +kernel
theorem dX9_faultOf_59 : decode cX9_faultOf 59 = .ok (.invokestatic 181, 3) := by decide +kernel
theorem dX9_faultOf_62 : decode cX9_faultOf 62 = .ok (.ifCond .eq 27, 3) := by decide +kernel
theorem dX9_faultOf_65 : decode cX9_faultOf 65 = .ok (.aload_n 0, 1) := by decide +kernel
theorem dX9_faultOf_66 : decode cX9_faultOf 66 = .ok (.iload_n 1, 1) := by decide +kernel
theorem dX9_faultOf_67 : decode cX9_faultOf 67 = .ok (.aload_n 0, 1) := by decide +kernel
theorem dX9_faultOf_68 : decode cX9_faultOf 68 = .ok (.iload_n 1, 1) := by decide +kernel
theorem dX9_faultOf_69 : decode cX9_faultOf 69 = .ok (.bipush 42, 2) := by decide +kernel
theorem dX9_faultOf_71 : decode cX9_faultOf 71 = .ok (.aload_n 0, 1) := by decide +kernel
theorem dX9_faultOf_72 : decode cX9_faultOf 72 = .ok (.iload_n 1, 1) := by decide +kernel
theorem dX9_faultOf_73 : decode cX9_faultOf 73 = .ok (.iconst 2, 1) := by decide +kernel
theorem dX9_faultOf_74 : decode cX9_faultOf 74 = .ok (.invokevirtual 135, 3) := by decide +kernel
theorem dX9_faultOf_77 : decode cX9_faultOf 77 = .ok (.iadd, 1) := by decide +kernel
theorem dX9_faultOf_78 : decode cX9_faultOf 78 = .ok (.invokevirtual 135, 3) := by decide +kernel
theorem dX9_faultOf_81 : decode cX9_faultOf 81 = .ok (.invokevirtual 206, 3) := by decide +kernel
theorem dX9_faultOf_84 : decode cX9_faultOf 84 = .ok (.ifCond .ne 5, 3) := by decide +kernel
theorem dX9_faultOf_87 : decode cX9_faultOf 87 = .ok (.iconst 2, 1) := by decide +kernel
theorem dX9_faultOf_88 : decode cX9_faultOf 88 = .ok (.ireturn, 1) := by decide +kernel
theorem dX9_faultOf_89 : decode cX9_faultOf 89 = .ok (.iload_n 2, 1) := by decide +kernel
theorem dX9_faultOf_90 : decode cX9_faultOf 90 = .ok (.bipush 9, 2) := by decide +kernel
theorem dX9_faultOf_92 : decode cX9_faultOf 92 = .ok (.if_icmp .ne 10, 3) := by decide +kernel
theorem dX9_faultOf_95 : decode cX9_faultOf 95 = .ok (.iload_n 3, 1) := by decide +kernel
theorem dX9_faultOf_96 : decode cX9_faultOf 96 = .ok (.iconst (-1), 1) := by decide +kernel
theorem dX9_faultOf_97 : decode cX9_faultOf 97 = .ok (.if_icmp .eq 5, 3) := by decide +kernel
theorem dX9_faultOf_100 : decode cX9_faultOf 100 = .ok (.iconst 3, 1) := by decide +kernel
theorem dX9_faultOf_101 : decode cX9_faultOf 101 = .ok (.ireturn, 1) := by decide +kernel
theorem dX9_faultOf_102 : decode cX9_faultOf 102 = .ok (.iload_n 2, 1) := by decide +kernel
theorem dX9_faultOf_103 : decode cX9_faultOf 103 = .ok (.invokestatic 238, 3) := by decide +kernel
theorem dX9_faultOf_106 : decode cX9_faultOf 106 = .ok (.ifCond .le 18, 3) := by decide +kernel
theorem dX9_faultOf_109 : decode cX9_faultOf 109 = .ok (.aload_n 0, 1) := by decide +kernel
theorem dX9_faultOf_110 : decode cX9_faultOf 110 = .ok (.iload_n 3, 1) := by decide +kernel
theorem dX9_faultOf_111 : decode cX9_faultOf 111 = .ok (.iconst 1, 1) := by decide +kernel
theorem dX9_faultOf_112 : decode cX9_faultOf 112 = .ok (.invokevirtual 232, 3) := by decide +kernel
theorem dX9_faultOf_115 : decode cX9_faultOf 115 = .ok (.iload_n 2, 1) := by decide +kernel
theorem dX9_faultOf_116 : decode cX9_faultOf 116 = .ok (.invokestatic 238, 3) := by decide +kernel
theorem dX9_faultOf_119 : decode cX9_faultOf 119 = .ok (.if_icmp .ge 5, 3) := by decide +kernel
theorem dX9_faultOf_122 : decode cX9_faultOf 122 = .ok (.iconst 4, 1) := by decide +kernel
theorem dX9_faultOf_123 : decode cX9_faultOf 123 = .ok (.ireturn, 1) := by decide +kernel
theorem dX9_faultOf_124 : decode cX9_faultOf 124 = .ok (.iload_n 2, 1) := by decide +kernel
theorem dX9_faultOf_125 : decode cX9_faultOf 125 = .ok (.ifCond .eq 8, 3) := by decide +kernel
theorem dX9_faultOf_128 : decode cX9_faultOf 128 = .ok (.iload_n 2, 1) := by decide +kernel
theorem dX9_faultOf_129 : decode cX9_faultOf 129 = .ok (.iconst 2, 1) := by decide +kernel
theorem dX9_faultOf_130 : decode cX9_faultOf 130 = .ok (.if_icmp .ne 20, 3) := by decide +kernel
theorem dX9_faultOf_133 : decode cX9_faultOf 133 = .ok (.aload_n 0, 1) := by decide +kernel
theorem dX9_faultOf_134 : decode cX9_faultOf 134 = .ok (.iload_n 3, 1) := by decide +kernel
theorem dX9_faultOf_135 : decode cX9_faultOf 135 = .ok (.iconst 1, 1) := by decide +kernel
theorem dX9_faultOf_136 : decode cX9_faultOf 136 = .ok (.invokevirtual 232, 3) := by decide +kernel
theorem dX9_faultOf_139 : decode cX9_faultOf 139 = .ok (.aload_n 0, 1) := by decide +kernel
theorem dX9_faultOf_140 : decode cX9_faultOf 140 = .ok (.iload_n 3, 1) := by decide +kernel
theorem dX9_faultOf_141 : decode cX9_faultOf 141 = .ok (.iconst 0, 1) := by decide +kernel
theorem dX9_faultOf_142 : decode cX9_faultOf 142 = .ok (.invokevirtual 232, 3) := by decide +kernel
theorem dX9_faultOf_145 : decode cX9_faultOf 145 = .ok (.if_icmp .ne 5, 3) := by decide +kernel
theorem dX9_faultOf_148 : decode cX9_faultOf 148 = .ok (.iconst 5, 1) := by decide +kernel
theorem dX9_faultOf_149 : decode cX9_faultOf 149 = .ok (.ireturn, 1) := by decide +kernel
theorem dX9_faultOf_150 : decode cX9_faultOf 150 = .ok (.iload_n 2, 1) := by decide +kernel
theorem dX9_faultOf_151 : decode cX9_faultOf 151 = .ok (.invokestatic 241, 3) := by decide +kernel
theorem dX9_faultOf_154 : decode cX9_faultOf 154 = .ok (.ifCond .ne 5, 3) := by decide +kernel
theorem dX9_faultOf_157 : decode cX9_faultOf 157 = .ok (.iconst 0, 1) := by decide +kernel
theorem dX9_faultOf_158 : decode cX9_faultOf 158 = .ok (.ireturn, 1) := by decide +kernel
theorem dX9_faultOf_159 : decode cX9_faultOf 159 = .ok (.aload_n 0, 1) := by decide +kernel
theorem dX9_faultOf_160 : decode cX9_faultOf 160 = .ok (.iload_n 3, 1) := by decide +kernel
theorem dX9_faultOf_161 : decode cX9_faultOf 161 = .ok (.iload_n 2, 1) := by decide +kernel
theorem dX9_faultOf_162 : decode cX9_faultOf 162 = .ok (.invokevirtual 244, 3) := by decide +kernel
theorem dX9_faultOf_165 : decode cX9_faultOf 165 = .ok (.lstore 5, 2) := by decide +kernel
theorem dX9_faultOf_167 : decode cX9_faultOf 167 = .ok (.lload 5, 2) := by decide +kernel
theorem dX9_faultOf_169 : decode cX9_faultOf 169 = .ok (.ldc2_w 248, 3) := by decide +kernel
theorem dX9_faultOf_172 : decode cX9_faultOf 172 = .ok (.lcmp, 1) := by decide +kernel
theorem dX9_faultOf_173 : decode cX9_faultOf 173 = .ok (.ifCond .lt 12, 3) := by decide +kernel
theorem dX9_faultOf_176 : decode cX9_faultOf 176 = .ok (.lload 5, 2) := by decide +kernel
theorem dX9_faultOf_178 : decode cX9_faultOf 178 = .ok (.ldc2_w 250, 3) := by decide +kernel
theorem dX9_faultOf_181 : decode cX9_faultOf 181 = .ok (.lcmp, 1) := by decide +kernel
theorem dX9_faultOf_182 : decode cX9_faultOf 182 = .ok (.ifCond .le 8, 3) := by decide +kernel
theorem dX9_faultOf_185 : decode cX9_faultOf 185 = .ok (.bipush 6, 2) := by decide +kernel
theorem dX9_faultOf_187 : decode cX9_faultOf 187 = .ok (.goto 4, 3) := by decide +kernel
theorem dX9_faultOf_190 : decode cX9_faultOf 190 = .ok (.iconst 0, 1) := by decide +kernel
theorem dX9_faultOf_191 : decode cX9_faultOf 191 = .ok (.ireturn, 1) := by decide +kernel
theorem dX9_blockOf_0 : decode cX9_blockOf 0 = .ok (.aload_n 0, 1) := by decide +kernel
theorem dX9_blockOf_1 : decode cX9_blockOf 1 = .ok (.iload_n 1, 1) := by decide +kernel
theorem dX9_blockOf_2 : decode cX9_blockOf 2 = .ok (.bipush 18, 2) := by decide +kernel
theorem dX9_blockOf_4 : decode cX9_blockOf 4 = .ok (.aload_n 0, 1) := by decide +kernel
theorem dX9_blockOf_5 : decode cX9_blockOf 5 = .ok (.iload_n 1, 1) := by decide +kernel
theorem dX9_blockOf_6 : decode cX9_blockOf 6 = .ok (.iconst 2, 1) := by decide +kernel
theorem dX9_blockOf_7 : decode cX9_blockOf 7 = .ok (.invokevirtual 135, 3) := by decide +kernel
theorem dX9_blockOf_10 : decode cX9_blockOf 10 = .ok (.iadd, 1) := by decide +kernel
theorem dX9_blockOf_11 : decode cX9_blockOf 11 = .ok (.invokevirtual 135, 3) := by decide +kernel
theorem dX9_blockOf_14 : decode cX9_blockOf 14 = .ok (.istore_n 2, 1) := by decide +kernel
theorem dX9_blockOf_15 : decode cX9_blockOf 15 = .ok (.iload_n 2, 1) := by decide +kernel
theorem dX9_blockOf_16 : decode cX9_blockOf 16 = .ok (.invokestatic 181, 3) := by decide +kernel
theorem dX9_blockOf_19 : decode cX9_blockOf 19 = .ok (.ifCond .ne 5, 3) := by decide +kernel
theorem dX9_blockOf_22 : decode cX9_blockOf 22 = .ok (.iconst 0, 1) := by decide +kernel
theorem dX9_blockOf_23 : decode cX9_blockOf 23 = .ok (.ireturn, 1) := by decide +kernel
theorem dX9_blockOf_24 : decode cX9_blockOf 24 = .ok (.aload_n 0, 1) := by decide +kernel
theorem dX9_blockOf_25 : decode cX9_blockOf 25 = .ok (.aload_n 0, 1) := by decide +kernel
theorem dX9_blockOf_26 : decode cX9_blockOf 26 = .ok (.iload_n 1, 1) := by decide +kernel
theorem dX9_blockOf_27 : decode cX9_blockOf 27 = .ok (.bipush 42, 2) := by decide +kernel
theorem dX9_blockOf_29 : decode cX9_blockOf 29 = .ok (.aload_n 0, 1) := by decide +kernel
theorem dX9_blockOf_30 : decode cX9_blockOf 30 = .ok (.iload_n 1, 1) := by decide +kernel
theorem dX9_blockOf_31 : decode cX9_blockOf 31 = .ok (.iconst 2, 1) := by decide +kernel
theorem dX9_blockOf_32 : decode cX9_blockOf 32 = .ok (.invokevirtual 135, 3) := by decide +kernel
theorem dX9_blockOf_35 : decode cX9_blockOf 35 = .ok (.iadd, 1) := by decide +kernel
theorem dX9_blockOf_36 : decode cX9_blockOf 36 = .ok (.invokevirtual 135, 3) := by decide +kernel
theorem dX9_blockOf_39 : decode cX9_blockOf 39 = .ok (.invokevirtual 216, 3) := by decide +kernel
theorem dX9_blockOf_42 : decode cX9_blockOf 42 = .ok (.iconst (-1), 1) := by decide +kernel
theorem dX9_blockOf_43 : decode cX9_blockOf 43 = .ok (.if_icmp .eq 7, 3) := by decide +kernel
theorem dX9_blockOf_46 : decode cX9_blockOf 46 = .ok (.iconst 1, 1) := by decide +kernel
theorem dX9_blockOf_47 : decode cX9_blockOf 47 = .ok (.goto 4, 3) := by decide +kernel
theorem dX9_blockOf_50 : decode cX9_blockOf 50 = .ok (.iconst 0, 1) := by decide +kernel
theorem dX9_blockOf_51 : decode cX9_blockOf 51 = .ok (.istore_n 3, 1) := by decide +kernel
theorem dX9_blockOf_52 : decode cX9_blockOf 52 = .ok (.iload_n 2, 1) := by decide +kernel
theorem dX9_blockOf_53 : decode cX9_blockOf 53 = .ok (.bipush 8, 2) := by decide +kernel
theorem dX9_blockOf_55 : decode cX9_blockOf 55 = .ok (.if_icmp .ne 15, 3) := by decide +kernel
theorem dX9_blockOf_58 : decode cX9_blockOf 58 = .ok (.iload_n 3, 1) := by decide +kernel
theorem dX9_blockOf_59 : decode cX9_blockOf 59 = .ok (.ifCond .eq 7, 3) := by decide +kernel
theorem dX9_blockOf_62 : decode cX9_blockOf 62 = .ok (.iconst 1, 1) := by decide +kernel
theorem dX9_blockOf_63 : decode cX9_blockOf 63 = .ok (.goto 16, 3) := by decide +kernel
theorem dX9_blockOf_66 : decode cX9_blockOf 66 = .ok (.iconst 0, 1) := by decide +kernel
theorem dX9_blockOf_67 : decode cX9_blockOf 67 = .ok (.goto 12, 3) := by decide +kernel
theorem dX9_blockOf_70 : decode cX9_blockOf 70 = .ok (.iload_n 3, 1) := by decide +kernel
theorem dX9_blockOf_71 : decode cX9_blockOf 71 = .ok (.ifCond .eq 7, 3) := by decide +kernel
theorem dX9_blockOf_74 : decode cX9_blockOf 74 = .ok (.iconst 0, 1) := by decide +kernel
theorem dX9_blockOf_75 : decode cX9_blockOf 75 = .ok (.goto 4, 3) := by decide +kernel
theorem dX9_blockOf_78 : decode cX9_blockOf 78 = .ok (.iconst 2, 1) := by decide +kernel
theorem dX9_blockOf_79 : decode cX9_blockOf 79 = .ok (.ireturn, 1) := by decide +kernel
theorem dX9_stuckBy_0 : decode cX9_stuckBy 0 = .ok (.aload_n 0, 1) := by decide +kernel
theorem dX9_stuckBy_1 : decode cX9_stuckBy 1 = .ok (.iload_n 1, 1) := by decide +kernel
theorem dX9_stuckBy_2 : decode cX9_stuckBy 2 = .ok (.invokevirtual 252, 3) := by decide +kernel
theorem dX9_stuckBy_5 : decode cX9_stuckBy 5 = .ok (.ifCond .eq 26, 3) := by decide +kernel
theorem dX9_stuckBy_8 : decode cX9_stuckBy 8 = .ok (.aload_n 0, 1) := by decide +kernel
theorem dX9_stuckBy_9 : decode cX9_stuckBy 9 = .ok (.iload_n 1, 1) := by decide +kernel
theorem dX9_stuckBy_10 : decode cX9_stuckBy 10 = .ok (.iconst 2, 1) := by decide +kernel
theorem dX9_stuckBy_11 : decode cX9_stuckBy 11 = .ok (.invokevirtual 135, 3) := by decide +kernel
theorem dX9_stuckBy_14 : decode cX9_stuckBy 14 = .ok (.aload_n 0, 1) := by decide +kernel
theorem dX9_stuckBy_15 : decode cX9_stuckBy 15 = .ok (.iload_n 1, 1) := by decide +kernel
theorem dX9_stuckBy_16 : decode cX9_stuckBy 16 = .ok (.iconst 3, 1) := by decide +kernel
theorem dX9_stuckBy_17 : decode cX9_stuckBy 17 = .ok (.invokevirtual 135, 3) := by decide +kernel
theorem dX9_stuckBy_20 : decode cX9_stuckBy 20 = .ok (.if_icmp .ge 11, 3) := by decide +kernel
theorem dX9_stuckBy_23 : decode cX9_stuckBy 23 = .ok (.aload_n 0, 1) := by decide +kernel
theorem dX9_stuckBy_24 : decode cX9_stuckBy 24 = .ok (.iload_n 1, 1) := by decide +kernel
theorem dX9_stuckBy_25 : decode cX9_stuckBy 25 = .ok (.invokevirtual 255, 3) := by decide +kernel
theorem dX9_stuckBy_28 : decode cX9_stuckBy 28 = .ok (.ifCond .le 5, 3) := by decide +kernel
theorem dX9_stuckBy_31 : decode cX9_stuckBy 31 = .ok (.iconst 0, 1) := by decide +kernel
theorem dX9_stuckBy_32 : decode cX9_stuckBy 32 = .ok (.ireturn, 1) := by decide +kernel
theorem dX9_stuckBy_33 : decode cX9_stuckBy 33 = .ok (.aload_n 0, 1) := by decide +kernel
theorem dX9_stuckBy_34 : decode cX9_stuckBy 34 = .ok (.iload_n 1, 1) := by decide +kernel
theorem dX9_stuckBy_35 : decode cX9_stuckBy 35 = .ok (.invokevirtual 258, 3) := by decide +kernel
theorem dX9_stuckBy_38 : decode cX9_stuckBy 38 = .ok (.ireturn, 1) := by decide +kernel
theorem dX9_isDeskStuck_0 : decode cX9_isDeskStuck 0 = .ok (.iconst 0, 1) := by decide +kernel
theorem dX9_isDeskStuck_1 : decode cX9_isDeskStuck 1 = .ok (.istore_n 1, 1) := by decide +kernel
theorem dX9_isDeskStuck_2 : decode cX9_isDeskStuck 2 = .ok (.iload_n 1, 1) := by decide +kernel
theorem dX9_isDeskStuck_3 : decode cX9_isDeskStuck 3 = .ok (.aload_n 0, 1) := by decide +kernel
theorem dX9_isDeskStuck_4 : decode cX9_isDeskStuck 4 = .ok (.getfield 7, 3) := by decide +kernel
theorem dX9_isDeskStuck_7 : decode cX9_isDeskStuck 7 = .ok (.iconst 1, 1) := by decide +kernel
theorem dX9_isDeskStuck_8 : decode cX9_isDeskStuck 8 = .ok (.iaload, 1) := by decide +kernel
theorem dX9_isDeskStuck_9 : decode cX9_isDeskStuck 9 = .ok (.if_icmp .ge 27, 3) := by decide +kernel
theorem dX9_isDeskStuck_12 : decode cX9_isDeskStuck 12 = .ok (.aload_n 0, 1) := by decide +kernel
theorem dX9_isDeskStuck_13 : decode cX9_isDeskStuck 13 = .ok (.iload_n 1, 1) := by decide +kernel
theorem dX9_isDeskStuck_14 : decode cX9_isDeskStuck 14 = .ok (.invokevirtual 252, 3) := by decide +kernel
theorem dX9_isDeskStuck_17 : decode cX9_isDeskStuck 17 = .ok (.ifCond .eq 13, 3) := by decide +kernel
theorem dX9_isDeskStuck_20 : decode cX9_isDeskStuck 20 = .ok (.aload_n 0, 1) := by decide +kernel
theorem dX9_isDeskStuck_21 : decode cX9_isDeskStuck 21 = .ok (.iload_n 1, 1) := by decide +kernel
theorem dX9_isDeskStuck_22 : decode cX9_isDeskStuck 22 = .ok (.invokevirtual 261, 3) := by decide +kernel
theorem dX9_isDeskStuck_25 : decode cX9_isDeskStuck 25 = .ok (.ifCond .ne 5, 3) := by decide +kernel
theorem dX9_isDeskStuck_28 : decode cX9_isDeskStuck 28 = .ok (.iconst 0, 1) := by decide +kernel
theorem dX9_isDeskStuck_29 : decode cX9_isDeskStuck 29 = .ok (.ireturn, 1) := by decide +kernel
theorem dX9_isDeskStuck_30 : decode cX9_isDeskStuck 30 = .ok (.iinc 1 1, 3) := by decide +kernel
theorem dX9_isDeskStuck_33 : decode cX9_isDeskStuck 33 = .ok (.goto (-31), 3) := by decide +kernel
theorem dX9_isDeskStuck_36 : decode cX9_isDeskStuck 36 = .ok (.aload_n 0, 1) := by decide +kernel
theorem dX9_isDeskStuck_37 : decode cX9_isDeskStuck 37 = .ok (.iconst 0, 1) := by decide +kernel
theorem dX9_isDeskStuck_38 : decode cX9_isDeskStuck 38 = .ok (.invokevirtual 264, 3) := by decide +kernel
theorem dX9_isDeskStuck_41 : decode cX9_isDeskStuck 41 = .ok (.ifCond .le 7, 3) := by decide +kernel
theorem dX9_isDeskStuck_44 : decode cX9_isDeskStuck 44 = .ok (.iconst 1, 1) := by decide +kernel
theorem dX9_isDeskStuck_45 : decode cX9_isDeskStuck 45 = .ok (.goto 4, 3) := by decide +kernel
theorem dX9_isDeskStuck_48 : decode cX9_isDeskStuck 48 = .ok (.iconst 0, 1) := by decide +kernel
theorem dX9_isDeskStuck_49 : decode cX9_isDeskStuck 49 = .ok (.ireturn, 1) := by decide +kernel
theorem dX9_pops_0 : decode cX9_pops 0 = .ok (.aload_n 0, 1) := by decide +kernel
theorem dX9_pops_1 : decode cX9_pops 1 = .ok (.iload_n 1, 1) := by decide +kernel
theorem dX9_pops_2 : decode cX9_pops 2 = .ok (.iconst 1, 1) := by decide +kernel
theorem dX9_pops_3 : decode cX9_pops 3 = .ok (.aload_n 0, 1) := by decide +kernel
theorem dX9_pops_4 : decode cX9_pops 4 = .ok (.iload_n 1, 1) := by decide +kernel
theorem dX9_pops_5 : decode cX9_pops 5 = .ok (.iconst 1, 1) := by decide +kernel
theorem dX9_pops_6 : decode cX9_pops 6 = .ok (.invokevirtual 232, 3) := by decide +kernel
theorem dX9_pops_9 : decode cX9_pops 9 = .ok (.iconst 1, 1) := by decide +kernel
theorem dX9_pops_10 : decode cX9_pops 10 = .ok (.isub, 1) := by decide +kernel
theorem dX9_pops_11 : decode cX9_pops 11 = .ok (.invokevirtual 219, 3) := by decide +kernel
theorem dX9_pops_14 : decode cX9_pops 14 = .ok (.return_, 1) := by decide +kernel
theorem dX9_pushes_0 : decode cX9_pushes 0 = .ok (.aload_n 0, 1) := by decide +kernel
theorem dX9_pushes_1 : decode cX9_pushes 1 = .ok (.iload_n 1, 1) := by decide +kernel
theorem dX9_pushes_2 : decode cX9_pushes 2 = .ok (.iconst 5, 1) := by decide +kernel
theorem dX9_pushes_3 : decode cX9_pushes 3 = .ok (.aload_n 0, 1) := by decide +kernel
theorem dX9_pushes_4 : decode cX9_pushes 4 = .ok (.iload_n 1, 1) := by decide +kernel
theorem dX9_pushes_5 : decode cX9_pushes 5 = .ok (.iconst 1, 1) := by decide +kernel
theorem dX9_pushes_6 : decode cX9_pushes 6 = .ok (.invokevirtual 232, 3) := by decide +kernel
theorem dX9_pushes_9 : decode cX9_pushes 9 = .ok (.iadd, 1) := by decide +kernel
theorem dX9_pushes_10 : decode cX9_pushes 10 = .ok (.iload_n 2, 1) := by decide +kernel
theorem dX9_pushes_11 : decode cX9_pushes 11 = .ok (.invokevirtual 219, 3) := by decide +kernel
theorem dX9_pushes_14 : decode cX9_pushes 14 = .ok (.aload_n 0, 1) := by decide +kernel
theorem dX9_pushes_15 : decode cX9_pushes 15 = .ok (.iload_n 1, 1) := by decide +kernel
theorem dX9_pushes_16 : decode cX9_pushes 16 = .ok (.iconst 1, 1) := by decide +kernel
theorem dX9_pushes_17 : decode cX9_pushes 17 = .ok (.aload_n 0, 1) := by decide +kernel
theorem dX9_pushes_18 : decode cX9_pushes 18 = .ok (.iload_n 1, 1) := by decide +kernel
theorem dX9_pushes_19 : decode cX9_pushes 19 = .ok (.iconst 1, 1) := by decide +kernel
theorem dX9_pushes_20 : decode cX9_pushes 20 = .ok (.invokevirtual 232, 3) := by decide +kernel
theorem dX9_pushes_23 : decode cX9_pushes 23 = .ok (.iconst 1, 1) := by decide +kernel
theorem dX9_pushes_24 : decode cX9_pushes 24 = .ok (.iadd, 1) := by decide +kernel
theorem dX9_pushes_25 : decode cX9_pushes 25 = .ok (.invokevirtual 219, 3) := by decide +kernel
theorem dX9_pushes_28 : decode cX9_pushes 28 = .ok (.return_, 1) := by decide +kernel
theorem dX9_saysNumberOf_0 : decode cX9_saysNumberOf 0 = .ok (.bipush 19, 2) := by decide +kernel
theorem dX9_saysNumberOf_2 : decode cX9_saysNumberOf 2 = .ok (.istore_n 3, 1) := by decide +kernel
theorem dX9_saysNumberOf_3 : decode cX9_saysNumberOf 3 = .ok (.iload_n 3, 1) := by decide +kernel
theorem dX9_saysNumberOf_4 : decode cX9_saysNumberOf 4 = .ok (.ifCond .le 29, 3) := by decide +kernel
theorem dX9_saysNumberOf_7 : decode cX9_saysNumberOf 7 = .ok (.aload_n 0, 1) := by decide +kernel
theorem dX9_saysNumberOf_8 : decode cX9_saysNumberOf 8 = .ok (.iload_n 1, 1) := by decide +kernel
theorem dX9_saysNumberOf_9 : decode cX9_saysNumberOf 9 = .ok (.bipush 66, 2) := by decide +kernel
theorem dX9_saysNumberOf_11 : decode cX9_saysNumberOf 11 = .ok (.iload_n 3, 1) := by decide +kernel
theorem dX9_saysNumberOf_12 : decode cX9_saysNumberOf 12 = .ok (.iadd, 1) := by decide +kernel
theorem dX9_saysNumberOf_13 : decode cX9_saysNumberOf 13 = .ok (.aload_n 0, 1) := by decide +kernel
theorem dX9_saysNumberOf_14 : decode cX9_saysNumberOf 14 = .ok (.iload_n 1, 1) := by decide +kernel
theorem dX9_saysNumberOf_15 : decode cX9_saysNumberOf 15 = .ok (.bipush 66, 2) := by decide +kernel
theorem dX9_saysNumberOf_17 : decode cX9_saysNumberOf 17 = .ok (.iload_n 3, 1) := by decide +kernel
theorem dX9_saysNumberOf_18 : decode cX9_saysNumberOf 18 = .ok (.iadd, 1) := by decide +kernel
theorem dX9_saysNumberOf_19 : decode cX9_saysNumberOf 19 = .ok (.iconst 1, 1) := by decide +kernel
theorem dX9_saysNumberOf_20 : decode cX9_saysNumberOf 20 = .ok (.isub, 1) := by decide +kernel
theorem dX9_saysNumberOf_21 : decode cX9_saysNumberOf 21 = .ok (.invokevirtual 135, 3) := by decide +kernel
theorem dX9_saysNumberOf_24 : decode cX9_saysNumberOf 24 = .ok (.invokevirtual 42, 3) := by decide +kernel
theorem dX9_saysNumberOf_27 : decode cX9_saysNumberOf 27 = .ok (.iinc 3 (-1), 3) := by decide +kernel
theorem dX9_saysNumberOf_30 : decode cX9_saysNumberOf 30 = .ok (.goto (-27), 3) := by decide +kernel
theorem dX9_saysNumberOf_33 : decode cX9_saysNumberOf 33 = .ok (.aload_n 0, 1) := by decide +kernel
theorem dX9_saysNumberOf_34 : decode cX9_saysNumberOf 34 = .ok (.iload_n 1, 1) := by decide +kernel
theorem dX9_saysNumberOf_35 : decode cX9_saysNumberOf 35 = .ok (.bipush 66, 2) := by decide +kernel
theorem dX9_saysNumberOf_37 : decode cX9_saysNumberOf 37 = .ok (.iload_n 2, 1) := by decide +kernel
theorem dX9_saysNumberOf_38 : decode cX9_saysNumberOf 38 = .ok (.invokevirtual 42, 3) := by decide +kernel
theorem dX9_saysNumberOf_41 : decode cX9_saysNumberOf 41 = .ok (.aload_n 0, 1) := by decide +kernel
theorem dX9_saysNumberOf_42 : decode cX9_saysNumberOf 42 = .ok (.iload_n 1, 1) := by decide +kernel
theorem dX9_saysNumberOf_43 : decode cX9_saysNumberOf 43 = .ok (.bipush 9, 2) := by decide +kernel
theorem dX9_saysNumberOf_45 : decode cX9_saysNumberOf 45 = .ok (.aload_n 0, 1) := by decide +kernel
theorem dX9_saysNumberOf_46 : decode cX9_saysNumberOf 46 = .ok (.iload_n 1, 1) := by decide +kernel
theorem dX9_saysNumberOf_47 : decode cX9_saysNumberOf 47 = .ok (.bipush 9, 2) := by decide +kernel
theorem dX9_saysNumberOf_49 : decode cX9_saysNumberOf 49 = .ok (.invokevirtual 135, 3) := by decide +kernel
theorem dX9_saysNumberOf_52 : decode cX9_saysNumberOf 52 = .ok (.iconst 1, 1) := by decide +kernel
theorem dX9_saysNumberOf_53 : decode cX9_saysNumberOf 53 = .ok (.iadd, 1) := by decide +kernel
theorem dX9_saysNumberOf_54 : decode cX9_saysNumberOf 54 = .ok (.invokevirtual 42, 3) := by decide +kernel
theorem dX9_saysNumberOf_57 : decode cX9_saysNumberOf 57 = .ok (.return_, 1) := by decide +kernel
theorem dX9_goes_0 : decode cX9_goes 0 = .ok (.aload_n 0, 1) := by decide +kernel
theorem dX9_goes_1 : decode cX9_goes 1 = .ok (.iload_n 1, 1) := by decide +kernel
theorem dX9_goes_2 : decode cX9_goes 2 = .ok (.iconst 2, 1) := by decide +kernel
theorem dX9_goes_3 : decode cX9_goes 3 = .ok (.iload_n 2, 1) := by decide +kernel
theorem dX9_goes_4 : decode cX9_goes 4 = .ok (.invokevirtual 219, 3) := by decide +kernel
theorem dX9_goes_7 : decode cX9_goes 7 = .ok (.aload_n 0, 1) := by decide +kernel
theorem dX9_goes_8 : decode cX9_goes 8 = .ok (.iload_n 1, 1) := by decide +kernel
theorem dX9_goes_9 : decode cX9_goes 9 = .ok (.iconst 3, 1) := by decide +kernel
theorem dX9_goes_10 : decode cX9_goes 10 = .ok (.iload_n 3, 1) := by decide +kernel
theorem dX9_goes_11 : decode cX9_goes 11 = .ok (.invokevirtual 219, 3) := by decide +kernel
theorem dX9_goes_14 : decode cX9_goes 14 = .ok (.aload_n 0, 1) := by decide +kernel
theorem dX9_goes_15 : decode cX9_goes 15 = .ok (.iload_n 1, 1) := by decide +kernel
theorem dX9_goes_16 : decode cX9_goes 16 = .ok (.iconst 4, 1) := by decide +kernel
theorem dX9_goes_17 : decode cX9_goes 17 = .ok (.aload_n 0, 1) := by decide +kernel
theorem dX9_goes_18 : decode cX9_goes 18 = .ok (.iload_n 1, 1) := by decide +kernel
theorem dX9_goes_19 : decode cX9_goes 19 = .ok (.iconst 4, 1) := by decide +kernel
theorem dX9_goes_20 : decode cX9_goes 20 = .ok (.invokevirtual 232, 3) := by decide +kernel
theorem dX9_goes_23 : decode cX9_goes 23 = .ok (.iconst 1, 1) := by decide +kernel
theorem dX9_goes_24 : decode cX9_goes 24 = .ok (.iadd, 1) := by decide +kernel
theorem dX9_goes_25 : decode cX9_goes 25 = .ok (.invokevirtual 219, 3) := by decide +kernel
theorem dX9_goes_28 : decode cX9_goes 28 = .ok (.return_, 1) := by decide +kernel
theorem dX9_exchanges_0 : decode cX9_exchanges 0 = .ok (.aload_n 0, 1) := by decide +kernel
theorem dX9_exchanges_1 : decode cX9_exchanges 1 = .ok (.iload_n 3, 1) := by decide +kernel
theorem dX9_exchanges_2 : decode cX9_exchanges 2 = .ok (.invokevirtual 216, 3) := by decide +kernel
theorem dX9_exchanges_5 : decode cX9_exchanges 5 = .ok (.istore 4, 2) := by decide +kernel
theorem dX9_exchanges_7 : decode cX9_exchanges 7 = .ok (.iload_n 2, 1) := by decide +kernel
theorem dX9_exchanges_8 : decode cX9_exchanges 8 = .ok (.iconst (-1), 1) := by decide +kernel
theorem dX9_exchanges_9 : decode cX9_exchanges 9 = .ok (.if_icmp .eq 10, 3) := by decide +kernel
theorem dX9_exchanges_12 : decode cX9_exchanges 12 = .ok (.aload_n 0, 1) := by decide +kernel
theorem dX9_exchanges_13 : decode cX9_exchanges 13 = .ok (.iload_n 2, 1) := by decide +kernel
theorem dX9_exchanges_14 : decode cX9_exchanges 14 = .ok (.iconst (-1), 1) := by decide +kernel
theorem dX9_exchanges_15 : decode cX9_exchanges 15 = .ok (.iload_n 3, 1) := by decide +kernel
theorem dX9_exchanges_16 : decode cX9_exchanges 16 = .ok (.invokevirtual 267, 3) := by decide +kernel
theorem dX9_exchanges_19 : decode cX9_exchanges 19 = .ok (.iload 4, 2) := by decide +kernel
theorem dX9_exchanges_21 : decode cX9_exchanges 21 = .ok (.iconst (-1), 1) := by decide +kernel
theorem dX9_exchanges_22 : decode cX9_exchanges 22 = .ok (.if_icmp .eq 11, 3) := by decide +kernel
theorem dX9_exchanges_25 : decode cX9_exchanges 25 = .ok (.aload_n 0, 1) := by decide +kernel
theorem dX9_exchanges_26 : decode cX9_exchanges 26 = .ok (.iload 4, 2) := by decide +kernel
theorem dX9_exchanges_28 : decode cX9_exchanges 28 = .ok (.iload_n 1, 1) := by decide +kernel
theorem dX9_exchanges_29 : decode cX9_exchanges 29 = .ok (.iconst (-1), 1) := by decide +kernel
theorem dX9_exchanges_30 : decode cX9_exchanges 30 = .ok (.invokevirtual 267, 3) := by decide +kernel
theorem dX9_exchanges_33 : decode cX9_exchanges 33 = .ok (.return_, 1) := by decide +kernel
theorem dX9_does_0 : decode cX9_does 0 = .ok (.aload_n 0, 1) := by decide +kernel
theorem dX9_does_1 : decode cX9_does 1 = .ok (.iload_n 1, 1) := by decide +kernel
theorem dX9_does_2 : decode cX9_does 2 = .ok (.invokevirtual 212, 3) := by decide +kernel
theorem dX9_does_5 : decode cX9_does 5 = .ok (.istore 4, 2) := by decide +kernel
theorem dX9_does_7 : decode cX9_does 7 = .ok (.iload_n 2, 1) := by decide +kernel
theorem dX9_does_8 : decode cX9_does 8 = .ok (.tableswitch 164 0 12 #[68, 78, 87, 103, 112, 112, 112, 122, 132, 132, 132, 143, 153], 68) := by decide +kernel
theorem dX9_does_76 : decode cX9_does 76 = .ok (.aload_n 0, 1) := by decide +kernel
theorem dX9_does_77 : decode cX9_does 77 = .ok (.iload 4, 2) := by decide +kernel
theorem dX9_does_79 : decode cX9_does 79 = .ok (.iload_n 3, 1) := by decide +kernel
theorem dX9_does_80 : decode cX9_does 80 = .ok (.invokevirtual 270, 3) := by decide +kernel
theorem dX9_does_83 : decode cX9_does 83 = .ok (.goto 110, 3) := by decide +kernel
theorem dX9_does_86 : decode cX9_does 86 = .ok (.aload_n 0, 1) := by decide +kernel
theorem dX9_does_87 : decode cX9_does 87 = .ok (.iload 4, 2) := by decide +kernel
theorem dX9_does_89 : decode cX9_does 89 = .ok (.invokevirtual 273, 3) := by decide +kernel
theorem dX9_does_92 : decode cX9_does 92 = .ok (.goto 101, 3) := by decide +kernel
theorem dX9_does_95 : decode cX9_does 95 = .ok (.aload_n 0, 1) := by decide +kernel
theorem dX9_does_96 : decode cX9_does 96 = .ok (.iload 4, 2) := by decide +kernel
theorem dX9_does_98 : decode cX9_does 98 = .ok (.aload_n 0, 1) := by decide +kernel
theorem dX9_does_99 : decode cX9_does 99 = .ok (.iload 4, 2) := by decide +kernel
theorem dX9_does_101 : decode cX9_does 101 = .ok (.iconst 0, 1) := by decide +kernel
theorem dX9_does_102 : decode cX9_does 102 = .ok (.invokevirtual 235, 3) := by decide +kernel
theorem dX9_does_105 : decode cX9_does 105 = .ok (.invokevirtual 270, 3) := by decide +kernel
theorem dX9_does_108 : decode cX9_does 108 = .ok (.goto 85, 3) := by decide +kernel
theorem dX9_does_111 : decode cX9_does 111 = .ok (.aload_n 0, 1) := by decide +kernel
theorem dX9_does_112 : decode cX9_does 112 = .ok (.iload 4, 2) := by decide +kernel
theorem dX9_does_114 : decode cX9_does 114 = .ok (.invokevirtual 276, 3) := by decide +kernel
theorem dX9_does_117 : decode cX9_does 117 = .ok (.goto 76, 3) := by decide +kernel
theorem dX9_does_120 : decode cX9_does 120 = .ok (.aload_n 0, 1) := by decide +kernel
theorem dX9_does_121 : decode cX9_does 121 = .ok (.iload 4, 2) := by decide +kernel
theorem dX9_does_123 : decode cX9_does 123 = .ok (.iload_n 2, 1) := by decide +kernel
theorem dX9_does_124 : decode cX9_does 124 = .ok (.invokevirtual 279, 3) := by decide +kernel
theorem dX9_does_127 : decode cX9_does 127 = .ok (.goto 66, 3) := by decide +kernel
theorem dX9_does_130 : decode cX9_does 130 = .ok (.aload_n 0, 1) := by decide +kernel
theorem dX9_does_131 : decode cX9_does 131 = .ok (.iload_n 1, 1) := by decide +kernel
theorem dX9_does_132 : decode cX9_does 132 = .ok (.iload 4, 2) := by decide +kernel
theorem dX9_does_134 : decode cX9_does 134 = .ok (.invokevirtual 282, 3) := by decide +kernel
theorem dX9_does_137 : decode cX9_does 137 = .ok (.goto 56, 3) := by decide +kernel
theorem dX9_does_140 : decode cX9_does 140 = .ok (.aload_n 0, 1) := by decide +kernel
theorem dX9_does_141 : decode cX9_does 141 = .ok (.iload_n 1, 1) := by decide +kernel
theorem dX9_does_142 : decode cX9_does 142 = .ok (.iload 4, 2) := by decide +kernel
theorem dX9_does_144 : decode cX9_does 144 = .ok (.iload_n 3, 1) := by decide +kernel
theorem dX9_does_145 : decode cX9_does 145 = .ok (.invokevirtual 285, 3) := by decide +kernel
theorem dX9_does_148 : decode cX9_does 148 = .ok (.goto 45, 3) := by decide +kernel
theorem dX9_does_151 : decode cX9_does 151 = .ok (.aload_n 0, 1) := by decide +kernel
theorem dX9_does_152 : decode cX9_does 152 = .ok (.iload_n 1, 1) := by decide +kernel
theorem dX9_does_153 : decode cX9_does 153 = .ok (.iconst 2, 1) := by decide +kernel
theorem dX9_does_154 : decode cX9_does 154 = .ok (.iload_n 3, 1) := by decide +kernel
theorem dX9_does_155 : decode cX9_does 155 = .ok (.invokevirtual 42, 3) := by decide +kernel
theorem dX9_does_158 : decode cX9_does 158 = .ok (.goto 35, 3) := by decide +kernel
theorem dX9_does_161 : decode cX9_does 161 = .ok (.aload_n 0, 1) := by decide +kernel
theorem dX9_does_162 : decode cX9_does 162 = .ok (.iload_n 1, 1) := by decide +kernel
theorem dX9_does_163 : decode cX9_does 163 = .ok (.iload 4, 2) := by decide +kernel
theorem dX9_does_165 : decode cX9_does 165 = .ok (.iload_n 3, 1) := by decide +kernel
theorem dX9_does_166 : decode cX9_does 166 = .ok (.invokevirtual 288, 3) := by decide +kernel
theorem dX9_does_169 : decode cX9_does 169 = .ok (.goto 24, 3) := by decide +kernel
theorem dX9_does_172 : decode cX9_does 172 = .ok (.aload_n 0, 1) := by decide +kernel
theorem dX9_does_173 : decode cX9_does 173 = .ok (.iload_n 1, 1) := by decide +kernel
theorem dX9_does_174 : decode cX9_does 174 = .ok (.iconst 0, 1) := by decide +kernel
theorem dX9_does_175 : decode cX9_does 175 = .ok (.iconst 1, 1) := by decide +kernel
theorem dX9_does_176 : decode cX9_does 176 = .ok (.invokevirtual 42, 3) := by decide +kernel
theorem dX9_does_179 : decode cX9_does 179 = .ok (.aload_n 0, 1) := by decide +kernel
theorem dX9_does_180 : decode cX9_does 180 = .ok (.iload_n 1, 1) := by decide +kernel
theorem dX9_does_181 : decode cX9_does 181 = .ok (.iconst 2, 1) := by decide +kernel
theorem dX9_does_182 : decode cX9_does 182 = .ok (.aload_n 0, 1) := by decide +kernel
theorem dX9_does_183 : decode cX9_does 183 = .ok (.iload_n 1, 1) := by decide +kernel
theorem dX9_does_184 : decode cX9_does 184 = .ok (.iconst 2, 1) := by decide +kernel
theorem dX9_does_185 : decode cX9_does 185 = .ok (.invokevirtual 135, 3) := by decide +kernel
theorem dX9_does_188 : decode cX9_does 188 = .ok (.iconst 1, 1) := by decide +kernel
theorem dX9_does_189 : decode cX9_does 189 = .ok (.isub, 1) := by decide +kernel
theorem dX9_does_190 : decode cX9_does 190 = .ok (.invokevirtual 42, 3) := by decide +kernel
theorem dX9_does_193 : decode cX9_does 193 = .ok (.return_, 1) := by decide +kernel
theorem dX9_flips_0 : decode cX9_flips 0 = .ok (.aload_n 0, 1) := by decide +kernel
theorem dX9_flips_1 : decode cX9_flips 1 = .ok (.iload_n 1, 1) := by decide +kernel
theorem dX9_flips_2 : decode cX9_flips 2 = .ok (.iconst 0, 1) := by decide +kernel
theorem dX9_flips_3 : decode cX9_flips 3 = .ok (.invokevirtual 235, 3) := by decide +kernel
theorem dX9_flips_6 : decode cX9_flips 6 = .ok (.istore_n 2, 1) := by decide +kernel
theorem dX9_flips_7 : decode cX9_flips 7 = .ok (.aload_n 0, 1) := by decide +kernel
theorem dX9_flips_8 : decode cX9_flips 8 = .ok (.iload_n 1, 1) := by decide +kernel
theorem dX9_flips_9 : decode cX9_flips 9 = .ok (.iconst 1, 1) := by decide +kernel
theorem dX9_flips_10 : decode cX9_flips 10 = .ok (.invokevirtual 235, 3) := by decide +kernel
theorem dX9_flips_13 : decode cX9_flips 13 = .ok (.istore_n 3, 1) := by decide +kernel
theorem dX9_flips_14 : decode cX9_flips 14 = .ok (.aload_n 0, 1) := by decide +kernel
theorem dX9_flips_15 : decode cX9_flips 15 = .ok (.iload_n 1, 1) := by decide +kernel
theorem dX9_flips_16 : decode cX9_flips 16 = .ok (.invokevirtual 273, 3) := by decide +kernel
theorem dX9_flips_19 : decode cX9_flips 19 = .ok (.aload_n 0, 1) := by decide +kernel
theorem dX9_flips_20 : decode cX9_flips 20 = .ok (.iload_n 1, 1) := by decide +kernel
theorem dX9_flips_21 : decode cX9_flips 21 = .ok (.invokevirtual 273, 3) := by decide +kernel
theorem dX9_flips_24 : decode cX9_flips 24 = .ok (.aload_n 0, 1) := by decide +kernel
theorem dX9_flips_25 : decode cX9_flips 25 = .ok (.iload_n 1, 1) := by decide +kernel
theorem dX9_flips_26 : decode cX9_flips 26 = .ok (.iload_n 2, 1) := by decide +kernel
theorem dX9_flips_27 : decode cX9_flips 27 = .ok (.invokevirtual 270, 3) := by decide +kernel
theorem dX9_flips_30 : decode cX9_flips 30 = .ok (.aload_n 0, 1) := by decide +kernel
theorem dX9_flips_31 : decode cX9_flips 31 = .ok (.iload_n 1, 1) := by decide +kernel
theorem dX9_flips_32 : decode cX9_flips 32 = .ok (.iload_n 3, 1) := by decide +kernel
theorem dX9_flips_33 : decode cX9_flips 33 = .ok (.invokevirtual 270, 3) := by decide +kernel
theorem dX9_flips_36 : decode cX9_flips 36 = .ok (.return_, 1) := by decide +kernel
theorem dX9_reckons_0 : decode cX9_reckons 0 = .ok (.aload_n 0, 1) := by decide +kernel
theorem dX9_reckons_1 : decode cX9_reckons 1 = .ok (.iload_n 1, 1) := by decide +kernel
theorem dX9_reckons_2 : decode cX9_reckons 2 = .ok (.iload_n 2, 1) := by decide +kernel
theorem dX9_reckons_3 : decode cX9_reckons 3 = .ok (.invokevirtual 244, 3) := by decide +kernel
theorem dX9_reckons_6 : decode cX9_reckons 6 = .ok (.l2i, 1) := by decide +kernel
theorem dX9_reckons_7 : decode cX9_reckons 7 = .ok (.istore_n 3, 1) := by decide +kernel
theorem dX9_reckons_8 : decode cX9_reckons 8 = .ok (.aload_n 0, 1) := by decide +kernel
theorem dX9_reckons_9 : decode cX9_reckons 9 = .ok (.iload_n 1, 1) := by decide +kernel
theorem dX9_reckons_10 : decode cX9_reckons 10 = .ok (.invokevirtual 273, 3) := by decide +kernel
theorem dX9_reckons_13 : decode cX9_reckons 13 = .ok (.aload_n 0, 1) := by decide +kernel
theorem dX9_reckons_14 : decode cX9_reckons 14 = .ok (.iload_n 1, 1) := by decide +kernel
theorem dX9_reckons_15 : decode cX9_reckons 15 = .ok (.invokevirtual 273, 3) := by decide +kernel
theorem dX9_reckons_18 : decode cX9_reckons 18 = .ok (.aload_n 0, 1) := by decide +kernel
theorem dX9_reckons_19 : decode cX9_reckons 19 = .ok (.iload_n 1, 1) := by decide +kernel
theorem dX9_reckons_20 : decode cX9_reckons 20 = .ok (.iload_n 3, 1) := by decide +kernel
theorem dX9_reckons_21 : decode cX9_reckons 21 = .ok (.invokevirtual 270, 3) := by decide +kernel
theorem dX9_reckons_24 : decode cX9_reckons 24 = .ok (.return_, 1) := by decide +kernel
theorem dX9_says1_0 : decode cX9_says1 0 = .ok (.aload_n 0, 1) := by decide +kernel
theorem dX9_says1_1 : decode cX9_says1 1 = .ok (.iload_n 1, 1) := by decide +kernel
theorem dX9_says1_2 : decode cX9_says1 2 = .ok (.aload_n 0, 1) := by decide +kernel
theorem dX9_says1_3 : decode cX9_says1 3 = .ok (.iload_n 2, 1) := by decide +kernel
theorem dX9_says1_4 : decode cX9_says1 4 = .ok (.iconst 0, 1) := by decide +kernel
theorem dX9_says1_5 : decode cX9_says1 5 = .ok (.invokevirtual 235, 3) := by decide +kernel
theorem dX9_says1_8 : decode cX9_says1 8 = .ok (.invokevirtual 291, 3) := by decide +kernel
theorem dX9_says1_11 : decode cX9_says1 11 = .ok (.aload_n 0, 1) := by decide +kernel
theorem dX9_says1_12 : decode cX9_says1 12 = .ok (.iload_n 2, 1) := by decide +kernel
theorem dX9_says1_13 : decode cX9_says1 13 = .ok (.invokevirtual 273, 3) := by decide +kernel
theorem dX9_says1_16 : decode cX9_says1 16 = .ok (.return_, 1) := by decide +kernel
theorem dX9_asksZero_0 : decode cX9_asksZero 0 = .ok (.aload_n 0, 1) := by decide +kernel
theorem dX9_asksZero_1 : decode cX9_asksZero 1 = .ok (.iload_n 2, 1) := by decide +kernel
theorem dX9_asksZero_2 : decode cX9_asksZero 2 = .ok (.iconst 0, 1) := by decide +kernel
theorem dX9_asksZero_3 : decode cX9_asksZero 3 = .ok (.invokevirtual 235, 3) := by decide +kernel
theorem dX9_asksZero_6 : decode cX9_asksZero 6 = .ok (.ifCond .ne 10, 3) := by decide +kernel
theorem dX9_asksZero_9 : decode cX9_asksZero 9 = .ok (.aload_n 0, 1) := by decide +kernel
theorem dX9_asksZero_10 : decode cX9_asksZero 10 = .ok (.iload_n 1, 1) := by decide +kernel
theorem dX9_asksZero_11 : decode cX9_asksZero 11 = .ok (.iconst 2, 1) := by decide +kernel
theorem dX9_asksZero_12 : decode cX9_asksZero 12 = .ok (.iload_n 3, 1) := by decide +kernel
theorem dX9_asksZero_13 : decode cX9_asksZero 13 = .ok (.invokevirtual 42, 3) := by decide +kernel
theorem dX9_asksZero_16 : decode cX9_asksZero 16 = .ok (.aload_n 0, 1) := by decide +kernel
theorem dX9_asksZero_17 : decode cX9_asksZero 17 = .ok (.iload_n 2, 1) := by decide +kernel
theorem dX9_asksZero_18 : decode cX9_asksZero 18 = .ok (.invokevirtual 273, 3) := by decide +kernel
theorem dX9_asksZero_21 : decode cX9_asksZero 21 = .ok (.return_, 1) := by decide +kernel
theorem dX9_traces_0 : decode cX9_traces 0 = .ok (.aload_n 0, 1) := by decide +kernel
theorem dX9_traces_1 : decode cX9_traces 1 = .ok (.getfield 7, 3) := by decide +kernel
theorem dX9_traces_4 : decode cX9_traces 4 = .ok (.iconst 5, 1) := by decide +kernel
theorem dX9_traces_5 : decode cX9_traces 5 = .ok (.iaload, 1) := by decide +kernel
theorem dX9_traces_6 : decode cX9_traces 6 = .ok (.bipush 40, 2) := by decide +kernel
theorem dX9_traces_8 : decode cX9_traces 8 = .ok (.if_icmp .ne 48, 3) := by decide +kernel
theorem dX9_traces_11 : decode cX9_traces 11 = .ok (.sipush 1030, 3) := by decide +kernel
theorem dX9_traces_14 : decode cX9_traces 14 = .ok (.istore 4, 2) := by decide +kernel
theorem dX9_traces_16 : decode cX9_traces 16 = .ok (.iload 4, 2) := by decide +kernel
theorem dX9_traces_18 : decode cX9_traces 18 = .ok (.sipush 1186, 3) := by decide +kernel
theorem dX9_traces_21 : decode cX9_traces 21 = .ok (.if_icmp .ge 25, 3) := by decide +kernel
theorem dX9_traces_24 : decode cX9_traces 24 = .ok (.aload_n 0, 1) := by decide +kernel
theorem dX9_traces_25 : decode cX9_traces 25 = .ok (.getfield 7, 3) := by decide +kernel
theorem dX9_traces_28 : decode cX9_traces 28 = .ok (.iload 4, 2) := by decide +kernel
theorem dX9_traces_30 : decode cX9_traces 30 = .ok (.aload_n 0, 1) := by decide +kernel
theorem dX9_traces_31 : decode cX9_traces 31 = .ok (.getfield 7, 3) := by decide +kernel
theorem dX9_traces_34 : decode cX9_traces 34 = .ok (.iload 4, 2) := by decide +kernel
theorem dX9_traces_36 : decode cX9_traces 36 = .ok (.iconst 4, 1) := by decide +kernel
theorem dX9_traces_37 : decode cX9_traces 37 = .ok (.iadd, 1) := by decide +kernel
theorem dX9_traces_38 : decode cX9_traces 38 = .ok (.iaload, 1) := by decide +kernel
theorem dX9_traces_39 : decode cX9_traces 39 = .ok (.iastore, 1) := by decide +kernel
theorem dX9_traces_40 : decode cX9_traces 40 = .ok (.iinc 4 1, 3) := by decide +kernel
theorem dX9_traces_43 : decode cX9_traces 43 = .ok (.goto (-27), 3) := by decide +kernel
theorem dX9_traces_46 : decode cX9_traces 46 = .ok (.aload_n 0, 1) := by decide +kernel
theorem dX9_traces_47 : decode cX9_traces 47 = .ok (.getfield 7, 3) := by decide +kernel
theorem dX9_traces_50 : decode cX9_traces 50 = .ok (.iconst 5, 1) := by decide +kernel
theorem dX9_traces_51 : decode cX9_traces 51 = .ok (.dup2, 1) := by decide +kernel
theorem dX9_traces_52 : decode cX9_traces 52 = .ok (.iaload, 1) := by decide +kernel
theorem dX9_traces_53 : decode cX9_traces 53 = .ok (.iconst 1, 1) := by decide +kernel
theorem dX9_traces_54 : decode cX9_traces 54 = .ok (.isub, 1) := by decide +kernel
theorem dX9_traces_55 : decode cX9_traces 55 = .ok (.iastore, 1) := by decide +kernel
theorem dX9_traces_56 : decode cX9_traces 56 = .ok (.sipush 1030, 3) := by decide +kernel
theorem dX9_traces_59 : decode cX9_traces 59 = .ok (.iconst 4, 1) := by decide +kernel
theorem dX9_traces_60 : decode cX9_traces 60 = .ok (.aload_n 0, 1) := by decide +kernel
theorem dX9_traces_61 : decode cX9_traces 61 = .ok (.getfield 7, 3) := by decide +kernel
theorem dX9_traces_64 : decode cX9_traces 64 = .ok (.iconst 5, 1) := by decide +kernel
theorem dX9_traces_65 : decode cX9_traces 65 = .ok (.iaload, 1) := by decide +kernel
theorem dX9_traces_66 : decode cX9_traces 66 = .ok (.imul, 1) := by decide +kernel
theorem dX9_traces_67 : decode cX9_traces 67 = .ok (.iadd, 1) := by decide +kernel
theorem dX9_traces_68 : decode cX9_traces 68 = .ok (.istore 4, 2) := by decide +kernel
theorem dX9_traces_70 : decode cX9_traces 70 = .ok (.aload_n 0, 1) := by decide +kernel
theorem dX9_traces_71 : decode cX9_traces 71 = .ok (.getfield 7, 3) := by decide +kernel
theorem dX9_traces_74 : decode cX9_traces 74 = .ok (.iload 4, 2) := by decide +kernel
theorem dX9_traces_76 : decode cX9_traces 76 = .ok (.aload_n 0, 1) := by decide +kernel
theorem dX9_traces_77 : decode cX9_traces 77 = .ok (.getfield 7, 3) := by decide +kernel
theorem dX9_traces_80 : decode cX9_traces 80 = .ok (.iconst 3, 1) := by decide +kernel
theorem dX9_traces_81 : decode cX9_traces 81 = .ok (.iaload, 1) := by decide +kernel
theorem dX9_traces_82 : decode cX9_traces 82 = .ok (.iastore, 1) := by decide +kernel
theorem dX9_traces_83 : decode cX9_traces 83 = .ok (.aload_n 0, 1) := by decide +kernel
theorem dX9_traces_84 : decode cX9_traces 84 = .ok (.getfield 7, 3) := by decide +kernel
theorem dX9_traces_87 : decode cX9_traces 87 = .ok (.iload 4, 2) := by decide +kernel
theorem dX9_traces_89 : decode cX9_traces 89 = .ok (.iconst 1, 1) := by decide +kernel
theorem dX9_traces_90 : decode cX9_traces 90 = .ok (.iadd, 1) := by decide +kernel
theorem dX9_traces_91 : decode cX9_traces 91 = .ok (.iload_n 1, 1) := by decide +kernel
theorem dX9_traces_92 : decode cX9_traces 92 = .ok (.iastore, 1) := by decide +kernel
theorem dX9_traces_93 : decode cX9_traces 93 = .ok (.aload_n 0, 1) := by decide +kernel
theorem dX9_traces_94 : decode cX9_traces 94 = .ok (.getfield 7, 3) := by decide +kernel
theorem dX9_traces_97 : decode cX9_traces 97 = .ok (.iload 4, 2) := by decide +kernel
theorem dX9_traces_99 : decode cX9_traces 99 = .ok (.iconst 2, 1) := by decide +kernel
theorem dX9_traces_100 : decode cX9_traces 100 = .ok (.iadd, 1) := by decide +kernel
theorem dX9_traces_101 : decode cX9_traces 101 = .ok (.iload_n 2, 1) := by decide +kernel
theorem dX9_traces_102 : decode cX9_traces 102 = .ok (.iastore, 1) := by decide +kernel
theorem dX9_traces_103 : decode cX9_traces 103 = .ok (.aload_n 0, 1) := by decide +kernel
theorem dX9_traces_104 : decode cX9_traces 104 = .ok (.getfield 7, 3) := by decide +kernel
theorem dX9_traces_107 : decode cX9_traces 107 = .ok (.iload 4, 2) := by decide +kernel
theorem dX9_traces_109 : decode cX9_traces 109 = .ok (.iconst 3, 1) := by decide +kernel
theorem dX9_traces_110 : decode cX9_traces 110 = .ok (.iadd, 1) := by decide +kernel
theorem dX9_traces_111 : decode cX9_traces 111 = .ok (.iload_n 3, 1) := by decide +kernel
theorem dX9_traces_112 : decode cX9_traces 112 = .ok (.iastore, 1) := by decide +kernel
theorem dX9_traces_113 : decode cX9_traces 113 = .ok (.aload_n 0, 1) := by decide +kernel
theorem dX9_traces_114 : decode cX9_traces 114 = .ok (.getfield 7, 3) := by decide +kernel
theorem dX9_traces_117 : decode cX9_traces 117 = .ok (.iconst 5, 1) := by decide +kernel
theorem dX9_traces_118 : decode cX9_traces 118 = .ok (.dup2, 1) := by decide +kernel
theorem dX9_traces_119 : decode cX9_traces 119 = .ok (.iaload, 1) := by decide +kernel
theorem dX9_traces_120 : decode cX9_traces 120 = .ok (.iconst 1, 1) := by decide +kernel
theorem dX9_traces_121 : decode cX9_traces 121 = .ok (.iadd, 1) := by decide +kernel
theorem dX9_traces_122 : decode cX9_traces 122 = .ok (.iastore, 1) := by decide +kernel
theorem dX9_traces_123 : decode cX9_traces 123 = .ok (.return_, 1) := by decide +kernel
theorem dX9_steps_0 : decode cX9_steps 0 = .ok (.aload_n 0, 1) := by decide +kernel
theorem dX9_steps_1 : decode cX9_steps 1 = .ok (.iload_n 1, 1) := by decide +kernel
theorem dX9_steps_2 : decode cX9_steps 2 = .ok (.iconst 2, 1) := by decide +kernel
theorem dX9_steps_3 : decode cX9_steps 3 = .ok (.invokevirtual 135, 3) := by decide +kernel
theorem dX9_steps_6 : decode cX9_steps 6 = .ok (.istore_n 2, 1) := by decide +kernel
theorem dX9_steps_7 : decode cX9_steps 7 = .ok (.iload_n 2, 1) := by decide +kernel
theorem dX9_steps_8 : decode cX9_steps 8 = .ok (.aload_n 0, 1) := by decide +kernel
theorem dX9_steps_9 : decode cX9_steps 9 = .ok (.iload_n 1, 1) := by decide +kernel
theorem dX9_steps_10 : decode cX9_steps 10 = .ok (.iconst 3, 1) := by decide +kernel
theorem dX9_steps_11 : decode cX9_steps 11 = .ok (.invokevirtual 135, 3) := by decide +kernel
theorem dX9_steps_14 : decode cX9_steps 14 = .ok (.if_icmp .lt 7, 3) := by decide +kernel
theorem dX9_steps_17 : decode cX9_steps 17 = .ok (.iconst 1, 1) := by decide +kernel
theorem dX9_steps_18 : decode cX9_steps 18 = .ok (.goto 4, 3) := by decide +kernel
theorem dX9_steps_21 : decode cX9_steps 21 = .ok (.iconst 0, 1) := by decide +kernel
theorem dX9_steps_22 : decode cX9_steps 22 = .ok (.istore_n 3, 1) := by decide +kernel
theorem dX9_steps_23 : decode cX9_steps 23 = .ok (.iload_n 3, 1) := by decide +kernel
theorem dX9_steps_24 : decode cX9_steps 24 = .ok (.ifCond .eq 7, 3) := by decide +kernel
theorem dX9_steps_27 : decode cX9_steps 27 = .ok (.iconst 0, 1) := by decide +kernel
theorem dX9_steps_28 : decode cX9_steps 28 = .ok (.goto 8, 3) := by decide +kernel
theorem dX9_steps_31 : decode cX9_steps 31 = .ok (.aload_n 0, 1) := by decide +kernel
theorem dX9_steps_32 : decode cX9_steps 32 = .ok (.iload_n 1, 1) := by decide +kernel
theorem dX9_steps_33 : decode cX9_steps 33 = .ok (.invokevirtual 255, 3) := by decide +kernel
theorem dX9_steps_36 : decode cX9_steps 36 = .ok (.istore 4, 2) := by decide +kernel
theorem dX9_steps_38 : decode cX9_steps 38 = .ok (.iload_n 3, 1) := by decide +kernel
theorem dX9_steps_39 : decode cX9_steps 39 = .ok (.ifCond .ne 41, 3) := by decide +kernel
theorem dX9_steps_42 : decode cX9_steps 42 = .ok (.iload 4, 2) := by decide +kernel
theorem dX9_steps_44 : decode cX9_steps 44 = .ok (.ifCond .ne 36, 3) := by decide +kernel
theorem dX9_steps_47 : decode cX9_steps 47 = .ok (.aload_n 0, 1) := by decide +kernel
theorem dX9_steps_48 : decode cX9_steps 48 = .ok (.iload_n 1, 1) := by decide +kernel
theorem dX9_steps_49 : decode cX9_steps 49 = .ok (.invokevirtual 258, 3) := by decide +kernel
theorem dX9_steps_52 : decode cX9_steps 52 = .ok (.ifCond .le 28, 3) := by decide +kernel
theorem dX9_steps_55 : decode cX9_steps 55 = .ok (.aload_n 0, 1) := by decide +kernel
theorem dX9_steps_56 : decode cX9_steps 56 = .ok (.iload_n 1, 1) := by decide +kernel
theorem dX9_steps_57 : decode cX9_steps 57 = .ok (.bipush 8, 2) := by decide +kernel
theorem dX9_steps_59 : decode cX9_steps 59 = .ok (.aload_n 0, 1) := by decide +kernel
theorem dX9_steps_60 : decode cX9_steps 60 = .ok (.iload_n 1, 1) := by decide +kernel
theorem dX9_steps_61 : decode cX9_steps 61 = .ok (.bipush 8, 2) := by decide +kernel
theorem dX9_steps_63 : decode cX9_steps 63 = .ok (.invokevirtual 135, 3) := by decide +kernel
theorem dX9_steps_66 : decode cX9_steps 66 = .ok (.iconst 1, 1) := by decide +kernel
theorem dX9_steps_67 : decode cX9_steps 67 = .ok (.iadd, 1) := by decide +kernel
theorem dX9_steps_68 : decode cX9_steps 68 = .ok (.invokevirtual 42, 3) := by decide +kernel
theorem dX9_steps_71 : decode cX9_steps 71 = .ok (.aload_n 0, 1) := by decide +kernel
theorem dX9_steps_72 : decode cX9_steps 72 = .ok (.iload_n 1, 1) := by decide +kernel
theorem dX9_steps_73 : decode cX9_steps 73 = .ok (.iload_n 2, 1) := by decide +kernel
theorem dX9_steps_74 : decode cX9_steps 74 = .ok (.iconst 1, 1) := by decide +kernel
theorem dX9_steps_75 : decode cX9_steps 75 = .ok (.invokevirtual 294, 3) := by decide +kernel
theorem dX9_steps_78 : decode cX9_steps 78 = .ok (.iconst 0, 1) := by decide +kernel
theorem dX9_steps_79 : decode cX9_steps 79 = .ok (.ireturn, 1) := by decide +kernel
theorem dX9_steps_80 : decode cX9_steps 80 = .ok (.aload_n 0, 1) := by decide +kernel
theorem dX9_steps_81 : decode cX9_steps 81 = .ok (.iload_n 1, 1) := by decide +kernel
theorem dX9_steps_82 : decode cX9_steps 82 = .ok (.bipush 7, 2) := by decide +kernel
theorem dX9_steps_84 : decode cX9_steps 84 = .ok (.aload_n 0, 1) := by decide +kernel
theorem dX9_steps_85 : decode cX9_steps 85 = .ok (.iload_n 1, 1) := by decide +kernel
theorem dX9_steps_86 : decode cX9_steps 86 = .ok (.bipush 7, 2) := by decide +kernel
theorem dX9_steps_88 : decode cX9_steps 88 = .ok (.invokevirtual 135, 3) := by decide +kernel
theorem dX9_steps_91 : decode cX9_steps 91 = .ok (.iconst 1, 1) := by decide +kernel
theorem dX9_steps_92 : decode cX9_steps 92 = .ok (.iadd, 1) := by decide +kernel
theorem dX9_steps_93 : decode cX9_steps 93 = .ok (.invokevirtual 42, 3) := by decide +kernel
theorem dX9_steps_96 : decode cX9_steps 96 = .ok (.aload_n 0, 1) := by decide +kernel
theorem dX9_steps_97 : decode cX9_steps 97 = .ok (.iload_n 1, 1) := by decide +kernel
theorem dX9_steps_98 : decode cX9_steps 98 = .ok (.iload_n 3, 1) := by decide +kernel
theorem dX9_steps_99 : decode cX9_steps 99 = .ok (.ifCond .eq 7, 3) := by decide +kernel
theorem dX9_steps_102 : decode cX9_steps 102 = .ok (.iconst (-1), 1) := by decide +kernel
theorem dX9_steps_103 : decode cX9_steps 103 = .ok (.goto 4, 3) := by decide +kernel
theorem dX9_steps_106 : decode cX9_steps 106 = .ok (.iload_n 2, 1) := by decide +kernel
theorem dX9_steps_107 : decode cX9_steps 107 = .ok (.iload 4, 2) := by decide +kernel
theorem dX9_steps_109 : decode cX9_steps 109 = .ok (.ifCond .le 11, 3) := by decide +kernel
theorem dX9_steps_112 : decode cX9_steps 112 = .ok (.bipush 10, 2) := by decide +kernel
theorem dX9_steps_114 : decode cX9_steps 114 = .ok (.iload 4, 2) := by decide +kernel
theorem dX9_steps_116 : decode cX9_steps 116 = .ok (.iadd, 1) := by decide +kernel
theorem dX9_steps_117 : decode cX9_steps 117 = .ok (.goto 4, 3) := by decide +kernel
theorem dX9_steps_120 : decode cX9_steps 120 = .ok (.iconst 0, 1) := by decide +kernel
theorem dX9_steps_121 : decode cX9_steps 121 = .ok (.invokevirtual 294, 3) := by decide +kernel
theorem dX9_steps_124 : decode cX9_steps 124 = .ok (.iload_n 3, 1) := by decide +kernel
theorem dX9_steps_125 : decode cX9_steps 125 = .ok (.ifCond .eq 13, 3) := by decide +kernel
theorem dX9_steps_128 : decode cX9_steps 128 = .ok (.aload_n 0, 1) := by decide +kernel
theorem dX9_steps_129 : decode cX9_steps 129 = .ok (.iload_n 1, 1) := by decide +kernel
theorem dX9_steps_130 : decode cX9_steps 130 = .ok (.iconst 0, 1) := by decide +kernel
theorem dX9_steps_131 : decode cX9_steps 131 = .ok (.iconst 1, 1) := by decide +kernel
theorem dX9_steps_132 : decode cX9_steps 132 = .ok (.invokevirtual 42, 3) := by decide +kernel
theorem dX9_steps_135 : decode cX9_steps 135 = .ok (.goto 58, 3) := by decide +kernel
theorem dX9_steps_138 : decode cX9_steps 138 = .ok (.iload 4, 2) := by decide +kernel
theorem dX9_steps_140 : decode cX9_steps 140 = .ok (.ifCond .le 21, 3) := by decide +kernel
theorem dX9_steps_143 : decode cX9_steps 143 = .ok (.aload_n 0, 1) := by decide +kernel
theorem dX9_steps_144 : decode cX9_steps 144 = .ok (.iload_n 1, 1) := by decide +kernel
theorem dX9_steps_145 : decode cX9_steps 145 = .ok (.iconst 0, 1) := by decide +kernel
theorem dX9_steps_146 : decode cX9_steps 146 = .ok (.iconst 2, 1) := by decide +kernel
theorem dX9_steps_147 : decode cX9_steps 147 = .ok (.invokevirtual 42, 3) := by decide +kernel
theorem dX9_steps_150 : decode cX9_steps 150 = .ok (.aload_n 0, 1) := by decide +kernel
theorem dX9_steps_151 : decode cX9_steps 151 = .ok (.iload_n 1, 1) := by decide +kernel
theorem dX9_steps_152 : decode cX9_steps 152 = .ok (.iconst 1, 1) := by decide +kernel
theorem dX9_steps_153 : decode cX9_steps 153 = .ok (.iload 4, 2) := by decide +kernel
theorem dX9_steps_155 : decode cX9_steps 155 = .ok (.invokevirtual 42, 3) := by decide +kernel
theorem dX9_steps_158 : decode cX9_steps 158 = .ok (.goto 35, 3) := by decide +kernel
theorem dX9_steps_161 : decode cX9_steps 161 = .ok (.aload_n 0, 1) := by decide +kernel
theorem dX9_steps_162 : decode cX9_steps 162 = .ok (.iload_n 1, 1) := by decide +kernel
theorem dX9_steps_163 : decode cX9_steps 163 = .ok (.iconst 2, 1) := by decide +kernel
theorem dX9_steps_164 : decode cX9_steps 164 = .ok (.iload_n 2, 1) := by decide +kernel
theorem dX9_steps_165 : decode cX9_steps 165 = .ok (.iconst 1, 1) := by decide +kernel
theorem dX9_steps_166 : decode cX9_steps 166 = .ok (.iadd, 1) := by decide +kernel
theorem dX9_steps_167 : decode cX9_steps 167 = .ok (.invokevirtual 42, 3) := by decide +kernel
theorem dX9_steps_170 : decode cX9_steps 170 = .ok (.aload_n 0, 1) := by decide +kernel
theorem dX9_steps_171 : decode cX9_steps 171 = .ok (.iload_n 1, 1) := by decide +kernel
theorem dX9_steps_172 : decode cX9_steps 172 = .ok (.aload_n 0, 1) := by decide +kernel
theorem dX9_steps_173 : decode cX9_steps 173 = .ok (.iload_n 1, 1) := by decide +kernel
theorem dX9_steps_174 : decode cX9_steps 174 = .ok (.bipush 18, 2) := by decide +kernel
theorem dX9_steps_176 : decode cX9_steps 176 = .ok (.iload_n 2, 1) := by decide +kernel
theorem dX9_steps_177 : decode cX9_steps 177 = .ok (.iadd, 1) := by decide +kernel
theorem dX9_steps_178 : decode cX9_steps 178 = .ok (.invokevirtual 135, 3) := by decide +kernel
theorem dX9_steps_181 : decode cX9_steps 181 = .ok (.aload_n 0, 1) := by decide +kernel
theorem dX9_steps_182 : decode cX9_steps 182 = .ok (.iload_n 1, 1) := by decide +kernel
theorem dX9_steps_183 : decode cX9_steps 183 = .ok (.bipush 42, 2) := by decide +kernel
theorem dX9_steps_185 : decode cX9_steps 185 = .ok (.iload_n 2, 1) := by decide +kernel
theorem dX9_steps_186 : decode cX9_steps 186 = .ok (.iadd, 1) := by decide +kernel
theorem dX9_steps_187 : decode cX9_steps 187 = .ok (.invokevirtual 135, 3) := by decide +kernel
theorem dX9_steps_190 : decode cX9_steps 190 = .ok (.invokevirtual 297, 3) := by decide +kernel
theorem dX9_steps_193 : decode cX9_steps 193 = .ok (.iconst 1, 1) := by decide +kernel
theorem dX9_steps_194 : decode cX9_steps 194 = .ok (.ireturn, 1) := by decide +kernel
theorem dX9_nextOne_0 : decode cX9_nextOne 0 = .ok (.iconst 1, 1) := by decide +kernel
theorem dX9_nextOne_1 : decode cX9_nextOne 1 = .ok (.istore_n 1, 1) := by decide +kernel
theorem dX9_nextOne_2 : decode cX9_nextOne 2 = .ok (.iload_n 1, 1) := by decide +kernel
theorem dX9_nextOne_3 : decode cX9_nextOne 3 = .ok (.aload_n 0, 1) := by decide +kernel
theorem dX9_nextOne_4 : decode cX9_nextOne 4 = .ok (.getfield 7, 3) := by decide +kernel
theorem dX9_nextOne_7 : decode cX9_nextOne 7 = .ok (.iconst 1, 1) := by decide +kernel
theorem dX9_nextOne_8 : decode cX9_nextOne 8 = .ok (.iaload, 1) := by decide +kernel
theorem dX9_nextOne_9 : decode cX9_nextOne 9 = .ok (.if_icmp .gt 35, 3) := by decide +kernel
theorem dX9_nextOne_12 : decode cX9_nextOne 12 = .ok (.aload_n 0, 1) := by decide +kernel
theorem dX9_nextOne_13 : decode cX9_nextOne 13 = .ok (.getfield 7, 3) := by decide +kernel
theorem dX9_nextOne_16 : decode cX9_nextOne 16 = .ok (.iconst 4, 1) := by decide +kernel
theorem dX9_nextOne_17 : decode cX9_nextOne 17 = .ok (.iaload, 1) := by decide +kernel
theorem dX9_nextOne_18 : decode cX9_nextOne 18 = .ok (.iload_n 1, 1) := by decide +kernel
theorem dX9_nextOne_19 : decode cX9_nextOne 19 = .ok (.iadd, 1) := by decide +kernel
theorem dX9_nextOne_20 : decode cX9_nextOne 20 = .ok (.aload_n 0, 1) := by decide +kernel
theorem dX9_nextOne_21 : decode cX9_nextOne 21 = .ok (.getfield 7, 3) := by decide +kernel
theorem dX9_nextOne_24 : decode cX9_nextOne 24 = .ok (.iconst 1, 1) := by decide +kernel
theorem dX9_nextOne_25 : decode cX9_nextOne 25 = .ok (.iaload, 1) := by decide +kernel
theorem dX9_nextOne_26 : decode cX9_nextOne 26 = .ok (.irem, 1) := by decide +kernel
theorem dX9_nextOne_27 : decode cX9_nextOne 27 = .ok (.istore_n 2, 1) := by decide +kernel
theorem dX9_nextOne_28 : decode cX9_nextOne 28 = .ok (.aload_n 0, 1) := by decide +kernel
theorem dX9_nextOne_29 : decode cX9_nextOne 29 = .ok (.iload_n 2, 1) := by decide +kernel
theorem dX9_nextOne_30 : decode cX9_nextOne 30 = .ok (.invokevirtual 252, 3) := by decide +kernel
theorem dX9_nextOne_33 : decode cX9_nextOne 33 = .ok (.ifCond .eq 5, 3) := by decide +kernel
theorem dX9_nextOne_36 : decode cX9_nextOne 36 = .ok (.iload_n 2, 1) := by decide +kernel
theorem dX9_nextOne_37 : decode cX9_nextOne 37 = .ok (.ireturn, 1) := by decide +kernel
theorem dX9_nextOne_38 : decode cX9_nextOne 38 = .ok (.iinc 1 1, 3) := by decide +kernel
theorem dX9_nextOne_41 : decode cX9_nextOne 41 = .ok (.goto (-39), 3) := by decide +kernel
theorem dX9_nextOne_44 : decode cX9_nextOne 44 = .ok (.iconst (-1), 1) := by decide +kernel
theorem dX9_nextOne_45 : decode cX9_nextOne 45 = .ok (.ireturn, 1) := by decide +kernel
theorem dX9_turns_0 : decode cX9_turns 0 = .ok (.aload_n 0, 1) := by decide +kernel
theorem dX9_turns_1 : decode cX9_turns 1 = .ok (.invokevirtual 300, 3) := by decide +kernel
theorem dX9_turns_4 : decode cX9_turns 4 = .ok (.istore_n 1, 1) := by decide +kernel
theorem dX9_turns_5 : decode cX9_turns 5 = .ok (.aload_n 0, 1) := by decide +kernel
theorem dX9_turns_6 : decode cX9_turns 6 = .ok (.iload_n 1, 1) := by decide +kernel
theorem dX9_turns_7 : decode cX9_turns 7 = .ok (.iconst 4, 1) := by decide +kernel
theorem dX9_turns_8 : decode cX9_turns 8 = .ok (.invokevirtual 135, 3) := by decide +kernel
theorem dX9_turns_11 : decode cX9_turns 11 = .ok (.istore_n 2, 1) := by decide +kernel
theorem dX9_turns_12 : decode cX9_turns 12 = .ok (.iload_n 2, 1) := by decide +kernel
theorem dX9_turns_13 : decode cX9_turns 13 = .ok (.ifCond .le 25, 3) := by decide +kernel
theorem dX9_turns_16 : decode cX9_turns 16 = .ok (.aload_n 0, 1) := by decide +kernel
theorem dX9_turns_17 : decode cX9_turns 17 = .ok (.iload_n 1, 1) := by decide +kernel
theorem dX9_turns_18 : decode cX9_turns 18 = .ok (.invokevirtual 252, 3) := by decide +kernel
theorem dX9_turns_21 : decode cX9_turns 21 = .ok (.ifCond .eq 17, 3) := by decide +kernel
theorem dX9_turns_24 : decode cX9_turns 24 = .ok (.aload_n 0, 1) := by decide +kernel
theorem dX9_turns_25 : decode cX9_turns 25 = .ok (.iload_n 1, 1) := by decide +kernel
theorem dX9_turns_26 : decode cX9_turns 26 = .ok (.invokevirtual 303, 3) := by decide +kernel
theorem dX9_turns_29 : decode cX9_turns 29 = .ok (.ifCond .eq 9, 3) := by decide +kernel
theorem dX9_turns_32 : decode cX9_turns 32 = .ok (.iinc 2 (-1), 3) := by decide +kernel
theorem dX9_turns_35 : decode cX9_turns 35 = .ok (.goto (-23), 3) := by decide +kernel
theorem dX9_turns_38 : decode cX9_turns 38 = .ok (.aload_n 0, 1) := by decide +kernel
theorem dX9_turns_39 : decode cX9_turns 39 = .ok (.iload_n 1, 1) := by decide +kernel
theorem dX9_turns_40 : decode cX9_turns 40 = .ok (.bipush 6, 2) := by decide +kernel
theorem dX9_turns_42 : decode cX9_turns 42 = .ok (.aload_n 0, 1) := by decide +kernel
theorem dX9_turns_43 : decode cX9_turns 43 = .ok (.iload_n 1, 1) := by decide +kernel
theorem dX9_turns_44 : decode cX9_turns 44 = .ok (.bipush 6, 2) := by decide +kernel
theorem dX9_turns_46 : decode cX9_turns 46 = .ok (.invokevirtual 135, 3) := by decide +kernel
theorem dX9_turns_49 : decode cX9_turns 49 = .ok (.iconst 1, 1) := by decide +kernel
theorem dX9_turns_50 : decode cX9_turns 50 = .ok (.iadd, 1) := by decide +kernel
theorem dX9_turns_51 : decode cX9_turns 51 = .ok (.invokevirtual 42, 3) := by decide +kernel
theorem dX9_turns_54 : decode cX9_turns 54 = .ok (.aload_n 0, 1) := by decide +kernel
theorem dX9_turns_55 : decode cX9_turns 55 = .ok (.getfield 7, 3) := by decide +kernel
theorem dX9_turns_58 : decode cX9_turns 58 = .ok (.iconst 4, 1) := by decide +kernel
theorem dX9_turns_59 : decode cX9_turns 59 = .ok (.iload_n 1, 1) := by decide +kernel
theorem dX9_turns_60 : decode cX9_turns 60 = .ok (.iastore, 1) := by decide +kernel
theorem dX9_turns_61 : decode cX9_turns 61 = .ok (.aload_n 0, 1) := by decide +kernel
theorem dX9_turns_62 : decode cX9_turns 62 = .ok (.getfield 7, 3) := by decide +kernel
theorem dX9_turns_65 : decode cX9_turns 65 = .ok (.iconst 3, 1) := by decide +kernel
theorem dX9_turns_66 : decode cX9_turns 66 = .ok (.dup2, 1) := by decide +kernel
theorem dX9_turns_67 : decode cX9_turns 67 = .ok (.iaload, 1) := by decide +kernel
theorem dX9_turns_68 : decode cX9_turns 68 = .ok (.iconst 1, 1) := by decide +kernel
theorem dX9_turns_69 : decode cX9_turns 69 = .ok (.iadd, 1) := by decide +kernel
theorem dX9_turns_70 : decode cX9_turns 70 = .ok (.iastore, 1) := by decide +kernel
theorem dX9_turns_71 : decode cX9_turns 71 = .ok (.return_, 1) := by decide +kernel
theorem dX9_isOver_0 : decode cX9_isOver 0 = .ok (.aload_n 0, 1) := by decide +kernel
theorem dX9_isOver_1 : decode cX9_isOver 1 = .ok (.iconst 0, 1) := by decide +kernel
theorem dX9_isOver_2 : decode cX9_isOver 2 = .ok (.invokevirtual 264, 3) := by decide +kernel
theorem dX9_isOver_5 : decode cX9_isOver 5 = .ok (.ifCond .eq 10, 3) := by decide +kernel
theorem dX9_isOver_8 : decode cX9_isOver 8 = .ok (.aload_n 0, 1) := by decide +kernel
theorem dX9_isOver_9 : decode cX9_isOver 9 = .ok (.invokevirtual 306, 3) := by decide +kernel
theorem dX9_isOver_12 : decode cX9_isOver 12 = .ok (.ifCond .eq 7, 3) := by decide +kernel
theorem dX9_isOver_15 : decode cX9_isOver 15 = .ok (.iconst 1, 1) := by decide +kernel
theorem dX9_isOver_16 : decode cX9_isOver 16 = .ok (.goto 4, 3) := by decide +kernel
theorem dX9_isOver_19 : decode cX9_isOver 19 = .ok (.iconst 0, 1) := by decide +kernel
theorem dX9_isOver_20 : decode cX9_isOver 20 = .ok (.ireturn, 1) := by decide +kernel
theorem dX9_goesOn_0 : decode cX9_goesOn 0 = .ok (.iconst 0, 1) := by decide +kernel
theorem dX9_goesOn_1 : decode cX9_goesOn 1 = .ok (.istore_n 2, 1) := by decide +kernel
theorem dX9_goesOn_2 : decode cX9_goesOn 2 = .ok (.iload_n 2, 1) := by decide +kernel
theorem dX9_goesOn_3 : decode cX9_goesOn 3 = .ok (.iload_n 1, 1) := by decide +kernel
theorem dX9_goesOn_4 : decode cX9_goesOn 4 = .ok (.if_icmp .ge 20, 3) := by decide +kernel
theorem dX9_goesOn_7 : decode cX9_goesOn 7 = .ok (.aload_n 0, 1) := by decide +kernel
theorem dX9_goesOn_8 : decode cX9_goesOn 8 = .ok (.invokevirtual 310, 3) := by decide +kernel
theorem dX9_goesOn_11 : decode cX9_goesOn 11 = .ok (.ifCond .ne 13, 3) := by decide +kernel
theorem dX9_goesOn_14 : decode cX9_goesOn 14 = .ok (.aload_n 0, 1) := by decide +kernel
theorem dX9_goesOn_15 : decode cX9_goesOn 15 = .ok (.invokevirtual 313, 3) := by decide +kernel
theorem dX9_goesOn_18 : decode cX9_goesOn 18 = .ok (.iinc 2 1, 3) := by decide +kernel
theorem dX9_goesOn_21 : decode cX9_goesOn 21 = .ok (.goto (-19), 3) := by decide +kernel
theorem dX9_goesOn_24 : decode cX9_goesOn 24 = .ok (.iload_n 2, 1) := by decide +kernel
theorem dX9_goesOn_25 : decode cX9_goesOn 25 = .ok (.ireturn, 1) := by decide +kernel
theorem dX9_count_0 : decode cX9_count 0 = .ok (.aload_n 0, 1) := by decide +kernel
theorem dX9_count_1 : decode cX9_count 1 = .ok (.iload_n 1, 1) := by decide +kernel
theorem dX9_count_2 : decode cX9_count 2 = .ok (.iconst 0, 1) := by decide +kernel
theorem dX9_count_3 : decode cX9_count 3 = .ok (.bipush 10, 2) := by decide +kernel
theorem dX9_count_5 : decode cX9_count 5 = .ok (.invokestatic 56, 3) := by decide +kernel
theorem dX9_count_8 : decode cX9_count 8 = .ok (.ifCond .eq 7, 3) := by decide +kernel
theorem dX9_count_11 : decode cX9_count 11 = .ok (.iconst 0, 1) := by decide +kernel
theorem dX9_count_12 : decode cX9_count 12 = .ok (.goto 4, 3) := by decide +kernel
theorem dX9_count_15 : decode cX9_count 15 = .ok (.iconst 1, 1) := by decide +kernel
theorem dX9_count_16 : decode cX9_count 16 = .ok (.putfield 46, 3) := by decide +kernel
theorem dX9_count_19 : decode cX9_count 19 = .ok (.aload_n 0, 1) := by decide +kernel
theorem dX9_count_20 : decode cX9_count 20 = .ok (.getfield 46, 3) := by decide +kernel
theorem dX9_count_23 : decode cX9_count 23 = .ok (.ifCond .le 5, 3) := by decide +kernel
theorem dX9_count_26 : decode cX9_count 26 = .ok (.iconst 0, 1) := by decide +kernel
theorem dX9_count_27 : decode cX9_count 27 = .ok (.ireturn, 1) := by decide +kernel
theorem dX9_count_28 : decode cX9_count 28 = .ok (.iload_n 1, 1) := by decide +kernel
theorem dX9_count_29 : decode cX9_count 29 = .ok (.tableswitch 99 0 9 #[55, 55, 55, 55, 62, 68, 74, 80, 87, 94], 55) := by decide +kernel
theorem dX9_count_84 : decode cX9_count 84 = .ok (.aload_n 0, 1) := by decide +kernel
theorem dX9_count_85 : decode cX9_count 85 = .ok (.getfield 7, 3) := by decide +kernel
theorem dX9_count_88 : decode cX9_count 88 = .ok (.iload_n 1, 1) := by decide +kernel
theorem dX9_count_89 : decode cX9_count 89 = .ok (.iaload, 1) := by decide +kernel
theorem dX9_count_90 : decode cX9_count 90 = .ok (.ireturn, 1) := by decide +kernel
theorem dX9_count_91 : decode cX9_count 91 = .ok (.aload_n 0, 1) := by decide +kernel
theorem dX9_count_92 : decode cX9_count 92 = .ok (.iconst 0, 1) := by decide +kernel
theorem dX9_count_93 : decode cX9_count 93 = .ok (.invokevirtual 264, 3) := by decide +kernel
theorem dX9_count_96 : decode cX9_count 96 = .ok (.ireturn, 1) := by decide +kernel
theorem dX9_count_97 : decode cX9_count 97 = .ok (.aload_n 0, 1) := by decide +kernel
theorem dX9_count_98 : decode cX9_count 98 = .ok (.iconst 1, 1) := by decide +kernel
theorem dX9_count_99 : decode cX9_count 99 = .ok (.invokevirtual 264, 3) := by decide +kernel
theorem dX9_count_102 : decode cX9_count 102 = .ok (.ireturn, 1) := by decide +kernel
theorem dX9_count_103 : decode cX9_count 103 = .ok (.aload_n 0, 1) := by decide +kernel
theorem dX9_count_104 : decode cX9_count 104 = .ok (.iconst 2, 1) := by decide +kernel
theorem dX9_count_105 : decode cX9_count 105 = .ok (.invokevirtual 264, 3) := by decide +kernel
theorem dX9_count_108 : decode cX9_count 108 = .ok (.ireturn, 1) := by decide +kernel
theorem dX9_count_109 : decode cX9_count 109 = .ok (.aload_n 0, 1) := by decide +kernel
theorem dX9_count_110 : decode cX9_count 110 = .ok (.bipush 7, 2) := by decide +kernel
theorem dX9_count_112 : decode cX9_count 112 = .ok (.invokevirtual 316, 3) := by decide +kernel
theorem dX9_count_115 : decode cX9_count 115 = .ok (.ireturn, 1) := by decide +kernel
theorem dX9_count_116 : decode cX9_count 116 = .ok (.aload_n 0, 1) := by decide +kernel
theorem dX9_count_117 : decode cX9_count 117 = .ok (.getfield 7, 3) := by decide +kernel
theorem dX9_count_120 : decode cX9_count 120 = .ok (.iconst 5, 1) := by decide +kernel
theorem dX9_count_121 : decode cX9_count 121 = .ok (.iaload, 1) := by decide +kernel
theorem dX9_count_122 : decode cX9_count 122 = .ok (.ireturn, 1) := by decide +kernel
theorem dX9_count_123 : decode cX9_count 123 = .ok (.aload_n 0, 1) := by decide +kernel
theorem dX9_count_124 : decode cX9_count 124 = .ok (.invokevirtual 300, 3) := by decide +kernel
theorem dX9_count_127 : decode cX9_count 127 = .ok (.ireturn, 1) := by decide +kernel
theorem dX9_count_128 : decode cX9_count 128 = .ok (.aload_n 0, 1) := by decide +kernel
theorem dX9_count_129 : decode cX9_count 129 = .ok (.invokevirtual 306, 3) := by decide +kernel
theorem dX9_count_132 : decode cX9_count 132 = .ok (.ifCond .eq 7, 3) := by decide +kernel
theorem dX9_count_135 : decode cX9_count 135 = .ok (.iconst 1, 1) := by decide +kernel
theorem dX9_count_136 : decode cX9_count 136 = .ok (.goto 4, 3) := by decide +kernel
theorem dX9_count_139 : decode cX9_count 139 = .ok (.iconst 0, 1) := by decide +kernel
theorem dX9_count_140 : decode cX9_count 140 = .ok (.ireturn, 1) := by decide +kernel
theorem dX9_process_0 : decode cX9_process 0 = .ok (.aload_n 0, 1) := by decide +kernel
theorem dX9_process_1 : decode cX9_process 1 = .ok (.aload_n 0, 1) := by decide +kernel
theorem dX9_process_2 : decode cX9_process 2 = .ok (.iload_n 1, 1) := by decide +kernel
theorem dX9_process_3 : decode cX9_process 3 = .ok (.invokevirtual 319, 3) := by decide +kernel
theorem dX9_process_6 : decode cX9_process 6 = .ok (.ifCond .ne 7, 3) := by decide +kernel
theorem dX9_process_9 : decode cX9_process 9 = .ok (.iconst 1, 1) := by decide +kernel
theorem dX9_process_10 : decode cX9_process 10 = .ok (.goto 18, 3) := by decide +kernel
theorem dX9_process_13 : decode cX9_process 13 = .ok (.iload_n 2, 1) := by decide +kernel
theorem dX9_process_14 : decode cX9_process 14 = .ok (.iconst 0, 1) := by decide +kernel
theorem dX9_process_15 : decode cX9_process 15 = .ok (.bipush 10, 2) := by decide +kernel
theorem dX9_process_17 : decode cX9_process 17 = .ok (.invokestatic 56, 3) := by decide +kernel
theorem dX9_process_20 : decode cX9_process 20 = .ok (.ifCond .eq 7, 3) := by decide +kernel
theorem dX9_process_23 : decode cX9_process 23 = .ok (.iconst 0, 1) := by decide +kernel
theorem dX9_process_24 : decode cX9_process 24 = .ok (.goto 4, 3) := by decide +kernel
theorem dX9_process_27 : decode cX9_process 27 = .ok (.iconst 2, 1) := by decide +kernel
theorem dX9_process_28 : decode cX9_process 28 = .ok (.putfield 46, 3) := by decide +kernel
theorem dX9_process_31 : decode cX9_process 31 = .ok (.aload_n 0, 1) := by decide +kernel
theorem dX9_process_32 : decode cX9_process 32 = .ok (.getfield 46, 3) := by decide +kernel
theorem dX9_process_35 : decode cX9_process 35 = .ok (.ifCond .le 5, 3) := by decide +kernel
theorem dX9_process_38 : decode cX9_process 38 = .ok (.iconst 0, 1) := by decide +kernel
theorem dX9_process_39 : decode cX9_process 39 = .ok (.ireturn, 1) := by decide +kernel
theorem dX9_process_40 : decode cX9_process 40 = .ok (.iload_n 2, 1) := by decide +kernel
theorem dX9_process_41 : decode cX9_process 41 = .ok (.iconst 3, 1) := by decide +kernel
theorem dX9_process_42 : decode cX9_process 42 = .ok (.if_icmp .ge 12, 3) := by decide +kernel
theorem dX9_process_45 : decode cX9_process 45 = .ok (.aload_n 0, 1) := by decide +kernel
theorem dX9_process_46 : decode cX9_process 46 = .ok (.iload_n 1, 1) := by decide +kernel
theorem dX9_process_47 : decode cX9_process 47 = .ok (.iload_n 2, 1) := by decide +kernel
theorem dX9_process_48 : decode cX9_process 48 = .ok (.invokevirtual 135, 3) := by decide +kernel
theorem dX9_process_51 : decode cX9_process 51 = .ok (.goto 24, 3) := by decide +kernel
theorem dX9_process_54 : decode cX9_process 54 = .ok (.iload_n 2, 1) := by decide +kernel
theorem dX9_process_55 : decode cX9_process 55 = .ok (.iconst 3, 1) := by decide +kernel
theorem dX9_process_56 : decode cX9_process 56 = .ok (.if_icmp .ne 11, 3) := by decide +kernel
theorem dX9_process_59 : decode cX9_process 59 = .ok (.aload_n 0, 1) := by decide +kernel
theorem dX9_process_60 : decode cX9_process 60 = .ok (.iload_n 1, 1) := by decide +kernel
theorem dX9_process_61 : decode cX9_process 61 = .ok (.invokevirtual 212, 3) := by decide +kernel
theorem dX9_process_64 : decode cX9_process 64 = .ok (.goto 11, 3) := by decide +kernel
theorem dX9_process_67 : decode cX9_process 67 = .ok (.aload_n 0, 1) := by decide +kernel
theorem dX9_process_68 : decode cX9_process 68 = .ok (.iload_n 1, 1) := by decide +kernel
theorem dX9_process_69 : decode cX9_process 69 = .ok (.iload_n 2, 1) := by decide +kernel
theorem dX9_process_70 : decode cX9_process 70 = .ok (.iconst 1, 1) := by decide +kernel
theorem dX9_process_71 : decode cX9_process 71 = .ok (.isub, 1) := by decide +kernel
theorem dX9_process_72 : decode cX9_process 72 = .ok (.invokevirtual 135, 3) := by decide +kernel
theorem dX9_process_75 : decode cX9_process 75 = .ok (.ireturn, 1) := by decide +kernel
theorem dX9_stack_0 : decode cX9_stack 0 = .ok (.aload_n 0, 1) := by decide +kernel
theorem dX9_stack_1 : decode cX9_stack 1 = .ok (.aload_n 0, 1) := by decide +kernel
theorem dX9_stack_2 : decode cX9_stack 2 = .ok (.iload_n 1, 1) := by decide +kernel
theorem dX9_stack_3 : decode cX9_stack 3 = .ok (.invokevirtual 322, 3) := by decide +kernel
theorem dX9_stack_6 : decode cX9_stack 6 = .ok (.ifCond .ne 7, 3) := by decide +kernel
theorem dX9_stack_9 : decode cX9_stack 9 = .ok (.iconst 1, 1) := by decide +kernel
theorem dX9_stack_10 : decode cX9_stack 10 = .ok (.goto 17, 3) := by decide +kernel
theorem dX9_stack_13 : decode cX9_stack 13 = .ok (.iload_n 2, 1) := by decide +kernel
theorem dX9_stack_14 : decode cX9_stack 14 = .ok (.iconst 0, 1) := by decide +kernel
theorem dX9_stack_15 : decode cX9_stack 15 = .ok (.iconst 4, 1) := by decide +kernel
theorem dX9_stack_16 : decode cX9_stack 16 = .ok (.invokestatic 56, 3) := by decide +kernel
theorem dX9_stack_19 : decode cX9_stack 19 = .ok (.ifCond .eq 7, 3) := by decide +kernel
theorem dX9_stack_22 : decode cX9_stack 22 = .ok (.iconst 0, 1) := by decide +kernel
theorem dX9_stack_23 : decode cX9_stack 23 = .ok (.goto 4, 3) := by decide +kernel
theorem dX9_stack_26 : decode cX9_stack 26 = .ok (.iconst 2, 1) := by decide +kernel
theorem dX9_stack_27 : decode cX9_stack 27 = .ok (.putfield 46, 3) := by decide +kernel
theorem dX9_stack_30 : decode cX9_stack 30 = .ok (.aload_n 0, 1) := by decide +kernel
theorem dX9_stack_31 : decode cX9_stack 31 = .ok (.getfield 46, 3) := by decide +kernel
theorem dX9_stack_34 : decode cX9_stack 34 = .ok (.ifCond .le 7, 3) := by decide +kernel
theorem dX9_stack_37 : decode cX9_stack 37 = .ok (.iconst 0, 1) := by decide +kernel
theorem dX9_stack_38 : decode cX9_stack 38 = .ok (.goto 9, 3) := by decide +kernel
theorem dX9_stack_41 : decode cX9_stack 41 = .ok (.aload_n 0, 1) := by decide +kernel
theorem dX9_stack_42 : decode cX9_stack 42 = .ok (.iload_n 1, 1) := by decide +kernel
theorem dX9_stack_43 : decode cX9_stack 43 = .ok (.iload_n 2, 1) := by decide +kernel
theorem dX9_stack_44 : decode cX9_stack 44 = .ok (.invokevirtual 232, 3) := by decide +kernel
theorem dX9_stack_47 : decode cX9_stack 47 = .ok (.ireturn, 1) := by decide +kernel
theorem dX9_number_0 : decode cX9_number 0 = .ok (.aload_n 0, 1) := by decide +kernel
theorem dX9_number_1 : decode cX9_number 1 = .ok (.aload_n 0, 1) := by decide +kernel
theorem dX9_number_2 : decode cX9_number 2 = .ok (.iload_n 1, 1) := by decide +kernel
theorem dX9_number_3 : decode cX9_number 3 = .ok (.invokevirtual 322, 3) := by decide +kernel
theorem dX9_number_6 : decode cX9_number 6 = .ok (.ifCond .eq 7, 3) := by decide +kernel
theorem dX9_number_9 : decode cX9_number 9 = .ok (.iconst 0, 1) := by decide +kernel
theorem dX9_number_10 : decode cX9_number 10 = .ok (.goto 4, 3) := by decide +kernel
theorem dX9_number_13 : decode cX9_number 13 = .ok (.iconst 1, 1) := by decide +kernel
theorem dX9_number_14 : decode cX9_number 14 = .ok (.putfield 46, 3) := by decide +kernel
theorem dX9_number_17 : decode cX9_number 17 = .ok (.aload_n 0, 1) := by decide +kernel
theorem dX9_number_18 : decode cX9_number 18 = .ok (.getfield 46, 3) := by decide +kernel
theorem dX9_number_21 : decode cX9_number 21 = .ok (.ifCond .le 5, 3) := by decide +kernel
theorem dX9_number_24 : decode cX9_number 24 = .ok (.iconst 0, 1) := by decide +kernel
theorem dX9_number_25 : decode cX9_number 25 = .ok (.ireturn, 1) := by decide +kernel
theorem dX9_number_26 : decode cX9_number 26 = .ok (.iload_n 2, 1) := by decide +kernel
theorem dX9_number_27 : decode cX9_number 27 = .ok (.iconst 0, 1) := by decide +kernel
theorem dX9_number_28 : decode cX9_number 28 = .ok (.aload_n 0, 1) := by decide +kernel
theorem dX9_number_29 : decode cX9_number 29 = .ok (.iload_n 1, 1) := by decide +kernel
theorem dX9_number_30 : decode cX9_number 30 = .ok (.iconst 1, 1) := by decide +kernel
theorem dX9_number_31 : decode cX9_number 31 = .ok (.invokevirtual 232, 3) := by decide +kernel
theorem dX9_number_34 : decode cX9_number 34 = .ok (.iconst 1, 1) := by decide +kernel
theorem dX9_number_35 : decode cX9_number 35 = .ok (.isub, 1) := by decide +kernel
theorem dX9_number_36 : decode cX9_number 36 = .ok (.invokestatic 56, 3) := by decide +kernel
theorem dX9_number_39 : decode cX9_number 39 = .ok (.ifCond .eq 12, 3) := by decide +kernel
theorem dX9_number_42 : decode cX9_number 42 = .ok (.aload_n 0, 1) := by decide +kernel
theorem dX9_number_43 : decode cX9_number 43 = .ok (.iload_n 1, 1) := by decide +kernel
theorem dX9_number_44 : decode cX9_number 44 = .ok (.iload_n 2, 1) := by decide +kernel
theorem dX9_number_45 : decode cX9_number 45 = .ok (.invokevirtual 235, 3) := by decide +kernel
theorem dX9_number_48 : decode cX9_number 48 = .ok (.goto 6, 3) := by decide +kernel
theorem dX9_number_51 : decode cX9_number 51 = .ok (.ldc_w 325, 3) := by decide +kernel
theorem dX9_number_54 : decode cX9_number 54 = .ok (.ireturn, 1) := by decide +kernel
theorem dX9_slot_0 : decode cX9_slot 0 = .ok (.aload_n 0, 1) := by decide +kernel
theorem dX9_slot_1 : decode cX9_slot 1 = .ok (.aload_n 0, 1) := by decide +kernel
theorem dX9_slot_2 : decode cX9_slot 2 = .ok (.iload_n 1, 1) := by decide +kernel
theorem dX9_slot_3 : decode cX9_slot 3 = .ok (.invokevirtual 326, 3) := by decide +kernel
theorem dX9_slot_6 : decode cX9_slot 6 = .ok (.ifCond .eq 7, 3) := by decide +kernel
theorem dX9_slot_9 : decode cX9_slot 9 = .ok (.iconst 0, 1) := by decide +kernel
theorem dX9_slot_10 : decode cX9_slot 10 = .ok (.goto 4, 3) := by decide +kernel
theorem dX9_slot_13 : decode cX9_slot 13 = .ok (.iconst 1, 1) := by decide +kernel
theorem dX9_slot_14 : decode cX9_slot 14 = .ok (.putfield 46, 3) := by decide +kernel
theorem dX9_slot_17 : decode cX9_slot 17 = .ok (.aload_n 0, 1) := by decide +kernel
theorem dX9_slot_18 : decode cX9_slot 18 = .ok (.getfield 46, 3) := by decide +kernel
theorem dX9_slot_21 : decode cX9_slot 21 = .ok (.ifCond .le 7, 3) := by decide +kernel
theorem dX9_slot_24 : decode cX9_slot 24 = .ok (.iconst 0, 1) := by decide +kernel
theorem dX9_slot_25 : decode cX9_slot 25 = .ok (.goto 8, 3) := by decide +kernel
theorem dX9_slot_28 : decode cX9_slot 28 = .ok (.aload_n 0, 1) := by decide +kernel
theorem dX9_slot_29 : decode cX9_slot 29 = .ok (.iload_n 1, 1) := by decide +kernel
theorem dX9_slot_30 : decode cX9_slot 30 = .ok (.invokevirtual 216, 3) := by decide +kernel
theorem dX9_slot_33 : decode cX9_slot 33 = .ok (.ireturn, 1) := by decide +kernel
theorem dX9_command_0 : decode cX9_command 0 = .ok (.aload_n 0, 1) := by decide +kernel
theorem dX9_command_1 : decode cX9_command 1 = .ok (.aload_n 0, 1) := by decide +kernel
theorem dX9_command_2 : decode cX9_command 2 = .ok (.iload_n 1, 1) := by decide +kernel
theorem dX9_command_3 : decode cX9_command 3 = .ok (.invokevirtual 319, 3) := by decide +kernel
theorem dX9_command_6 : decode cX9_command 6 = .ok (.ifCond .eq 19, 3) := by decide +kernel
theorem dX9_command_9 : decode cX9_command 9 = .ok (.iload_n 2, 1) := by decide +kernel
theorem dX9_command_10 : decode cX9_command 10 = .ok (.iconst 0, 1) := by decide +kernel
theorem dX9_command_11 : decode cX9_command 11 = .ok (.aload_n 0, 1) := by decide +kernel
theorem dX9_command_12 : decode cX9_command 12 = .ok (.iload_n 1, 1) := by decide +kernel
theorem dX9_command_13 : decode cX9_command 13 = .ok (.iconst 3, 1) := by decide +kernel
theorem dX9_command_14 : decode cX9_command 14 = .ok (.invokevirtual 135, 3) := by decide +kernel
theorem dX9_command_17 : decode cX9_command 17 = .ok (.iconst 1, 1) := by decide +kernel
theorem dX9_command_18 : decode cX9_command 18 = .ok (.isub, 1) := by decide +kernel
theorem dX9_command_19 : decode cX9_command 19 = .ok (.invokestatic 56, 3) := by decide +kernel
theorem dX9_command_22 : decode cX9_command 22 = .ok (.ifCond .ne 7, 3) := by decide +kernel
theorem dX9_command_25 : decode cX9_command 25 = .ok (.iconst 1, 1) := by decide +kernel
theorem dX9_command_26 : decode cX9_command 26 = .ok (.goto 17, 3) := by decide +kernel
theorem dX9_command_29 : decode cX9_command 29 = .ok (.iload_n 3, 1) := by decide +kernel
theorem dX9_command_30 : decode cX9_command 30 = .ok (.iconst 0, 1) := by decide +kernel
theorem dX9_command_31 : decode cX9_command 31 = .ok (.iconst 1, 1) := by decide +kernel
theorem dX9_command_32 : decode cX9_command 32 = .ok (.invokestatic 56, 3) := by decide +kernel
theorem dX9_command_35 : decode cX9_command 35 = .ok (.ifCond .eq 7, 3) := by decide +kernel
theorem dX9_command_38 : decode cX9_command 38 = .ok (.iconst 0, 1) := by decide +kernel
theorem dX9_command_39 : decode cX9_command 39 = .ok (.goto 4, 3) := by decide +kernel
theorem dX9_command_42 : decode cX9_command 42 = .ok (.iconst 2, 1) := by decide +kernel
theorem dX9_command_43 : decode cX9_command 43 = .ok (.putfield 46, 3) := by decide +kernel
theorem dX9_command_46 : decode cX9_command 46 = .ok (.aload_n 0, 1) := by decide +kernel
theorem dX9_command_47 : decode cX9_command 47 = .ok (.getfield 46, 3) := by decide +kernel
theorem dX9_command_50 : decode cX9_command 50 = .ok (.ifCond .le 7, 3) := by decide +kernel
theorem dX9_command_53 : decode cX9_command 53 = .ok (.iconst 0, 1) := by decide +kernel
theorem dX9_command_54 : decode cX9_command 54 = .ok (.goto 21, 3) := by decide +kernel
theorem dX9_command_57 : decode cX9_command 57 = .ok (.aload_n 0, 1) := by decide +kernel
theorem dX9_command_58 : decode cX9_command 58 = .ok (.iload_n 1, 1) := by decide +kernel
theorem dX9_command_59 : decode cX9_command 59 = .ok (.iload_n 3, 1) := by decide +kernel
theorem dX9_command_60 : decode cX9_command 60 = .ok (.ifCond .ne 8, 3) := by decide +kernel
theorem dX9_command_63 : decode cX9_command 63 = .ok (.bipush 18, 2) := by decide +kernel
theorem dX9_command_65 : decode cX9_command 65 = .ok (.goto 5, 3) := by decide +kernel
theorem dX9_command_68 : decode cX9_command 68 = .ok (.bipush 42, 2) := by decide +kernel
theorem dX9_command_70 : decode cX9_command 70 = .ok (.iload_n 2, 1) := by decide +kernel
theorem dX9_command_71 : decode cX9_command 71 = .ok (.iadd, 1) := by decide +kernel
theorem dX9_command_72 : decode cX9_command 72 = .ok (.invokevirtual 135, 3) := by decide +kernel
theorem dX9_command_75 : decode cX9_command 75 = .ok (.ireturn, 1) := by decide +kernel
theorem dX9_saidOf_0 : decode cX9_saidOf 0 = .ok (.iload_n 2, 1) := by decide +kernel
theorem dX9_saidOf_1 : decode cX9_saidOf 1 = .ok (.iconst 0, 1) := by decide +kernel
theorem dX9_saidOf_2 : decode cX9_saidOf 2 = .ok (.bipush 19, 2) := by decide +kernel
theorem dX9_saidOf_4 : decode cX9_saidOf 4 = .ok (.invokestatic 56, 3) := by decide +kernel
theorem dX9_saidOf_7 : decode cX9_saidOf 7 = .ok (.ifCond .eq 26, 3) := by decide +kernel
theorem dX9_saidOf_10 : decode cX9_saidOf 10 = .ok (.iload_n 2, 1) := by decide +kernel
theorem dX9_saidOf_11 : decode cX9_saidOf 11 = .ok (.aload_n 0, 1) := by decide +kernel
theorem dX9_saidOf_12 : decode cX9_saidOf 12 = .ok (.iload_n 1, 1) := by decide +kernel
theorem dX9_saidOf_13 : decode cX9_saidOf 13 = .ok (.bipush 9, 2) := by decide +kernel
theorem dX9_saidOf_15 : decode cX9_saidOf 15 = .ok (.invokevirtual 135, 3) := by decide +kernel
theorem dX9_saidOf_18 : decode cX9_saidOf 18 = .ok (.if_icmp .ge 15, 3) := by decide +kernel
theorem dX9_saidOf_21 : decode cX9_saidOf 21 = .ok (.aload_n 0, 1) := by decide +kernel
theorem dX9_saidOf_22 : decode cX9_saidOf 22 = .ok (.iload_n 1, 1) := by decide +kernel
theorem dX9_saidOf_23 : decode cX9_saidOf 23 = .ok (.bipush 66, 2) := by decide +kernel
theorem dX9_saidOf_25 : decode cX9_saidOf 25 = .ok (.iload_n 2, 1) := by decide +kernel
theorem dX9_saidOf_26 : decode cX9_saidOf 26 = .ok (.iadd, 1) := by decide +kernel
theorem dX9_saidOf_27 : decode cX9_saidOf 27 = .ok (.invokevirtual 135, 3) := by decide +kernel
theorem dX9_saidOf_30 : decode cX9_saidOf 30 = .ok (.goto 6, 3) := by decide +kernel
theorem dX9_saidOf_33 : decode cX9_saidOf 33 = .ok (.ldc_w 325, 3) := by decide +kernel
theorem dX9_saidOf_36 : decode cX9_saidOf 36 = .ok (.ireturn, 1) := by decide +kernel
theorem dX9_said_0 : decode cX9_said 0 = .ok (.aload_n 0, 1) := by decide +kernel
theorem dX9_said_1 : decode cX9_said 1 = .ok (.aload_n 0, 1) := by decide +kernel
theorem dX9_said_2 : decode cX9_said 2 = .ok (.iload_n 1, 1) := by decide +kernel
theorem dX9_said_3 : decode cX9_said 3 = .ok (.invokevirtual 319, 3) := by decide +kernel
theorem dX9_said_6 : decode cX9_said 6 = .ok (.ifCond .eq 7, 3) := by decide +kernel
theorem dX9_said_9 : decode cX9_said 9 = .ok (.iconst 0, 1) := by decide +kernel
theorem dX9_said_10 : decode cX9_said 10 = .ok (.goto 4, 3) := by decide +kernel
theorem dX9_said_13 : decode cX9_said 13 = .ok (.iconst 1, 1) := by decide +kernel
theorem dX9_said_14 : decode cX9_said 14 = .ok (.putfield 46, 3) := by decide +kernel
theorem dX9_said_17 : decode cX9_said 17 = .ok (.aload_n 0, 1) := by decide +kernel
theorem dX9_said_18 : decode cX9_said 18 = .ok (.getfield 46, 3) := by decide +kernel
theorem dX9_said_21 : decode cX9_said 21 = .ok (.ifCond .le 7, 3) := by decide +kernel
theorem dX9_said_24 : decode cX9_said 24 = .ok (.iconst 0, 1) := by decide +kernel
theorem dX9_said_25 : decode cX9_said 25 = .ok (.goto 9, 3) := by decide +kernel
theorem dX9_said_28 : decode cX9_said 28 = .ok (.aload_n 0, 1) := by decide +kernel
theorem dX9_said_29 : decode cX9_said 29 = .ok (.iload_n 1, 1) := by decide +kernel
theorem dX9_said_30 : decode cX9_said 30 = .ok (.iload_n 2, 1) := by decide +kernel
theorem dX9_said_31 : decode cX9_said 31 = .ok (.invokevirtual 329, 3) := by decide +kernel
theorem dX9_said_34 : decode cX9_said 34 = .ok (.ireturn, 1) := by decide +kernel
theorem dX9_trace_0 : decode cX9_trace 0 = .ok (.aload_n 0, 1) := by decide +kernel
theorem dX9_trace_1 : decode cX9_trace 1 = .ok (.iload_n 1, 1) := by decide +kernel
theorem dX9_trace_2 : decode cX9_trace 2 = .ok (.iconst 0, 1) := by decide +kernel
theorem dX9_trace_3 : decode cX9_trace 3 = .ok (.aload_n 0, 1) := by decide +kernel
theorem dX9_trace_4 : decode cX9_trace 4 = .ok (.getfield 7, 3) := by decide +kernel
theorem dX9_trace_7 : decode cX9_trace 7 = .ok (.iconst 5, 1) := by decide +kernel
theorem dX9_trace_8 : decode cX9_trace 8 = .ok (.iaload, 1) := by decide +kernel
theorem dX9_trace_9 : decode cX9_trace 9 = .ok (.iconst 1, 1) := by decide +kernel
theorem dX9_trace_10 : decode cX9_trace 10 = .ok (.isub, 1) := by decide +kernel
theorem dX9_trace_11 : decode cX9_trace 11 = .ok (.invokestatic 56, 3) := by decide +kernel
theorem dX9_trace_14 : decode cX9_trace 14 = .ok (.ifCond .ne 7, 3) := by decide +kernel
theorem dX9_trace_17 : decode cX9_trace 17 = .ok (.iconst 1, 1) := by decide +kernel
theorem dX9_trace_18 : decode cX9_trace 18 = .ok (.goto 17, 3) := by decide +kernel
theorem dX9_trace_21 : decode cX9_trace 21 = .ok (.iload_n 2, 1) := by decide +kernel
theorem dX9_trace_22 : decode cX9_trace 22 = .ok (.iconst 0, 1) := by decide +kernel
theorem dX9_trace_23 : decode cX9_trace 23 = .ok (.iconst 3, 1) := by decide +kernel
theorem dX9_trace_24 : decode cX9_trace 24 = .ok (.invokestatic 56, 3) := by decide +kernel
theorem dX9_trace_27 : decode cX9_trace 27 = .ok (.ifCond .eq 7, 3) := by decide +kernel
theorem dX9_trace_30 : decode cX9_trace 30 = .ok (.iconst 0, 1) := by decide +kernel
theorem dX9_trace_31 : decode cX9_trace 31 = .ok (.goto 4, 3) := by decide +kernel
theorem dX9_trace_34 : decode cX9_trace 34 = .ok (.iconst 2, 1) := by decide +kernel
theorem dX9_trace_35 : decode cX9_trace 35 = .ok (.putfield 46, 3) := by decide +kernel
theorem dX9_trace_38 : decode cX9_trace 38 = .ok (.aload_n 0, 1) := by decide +kernel
theorem dX9_trace_39 : decode cX9_trace 39 = .ok (.getfield 46, 3) := by decide +kernel
theorem dX9_trace_42 : decode cX9_trace 42 = .ok (.ifCond .le 7, 3) := by decide +kernel
theorem dX9_trace_45 : decode cX9_trace 45 = .ok (.iconst 0, 1) := by decide +kernel
theorem dX9_trace_46 : decode cX9_trace 46 = .ok (.goto 26, 3) := by decide +kernel
theorem dX9_trace_49 : decode cX9_trace 49 = .ok (.aload_n 0, 1) := by decide +kernel
theorem dX9_trace_50 : decode cX9_trace 50 = .ok (.getfield 7, 3) := by decide +kernel
theorem dX9_trace_53 : decode cX9_trace 53 = .ok (.sipush 1030, 3) := by decide +kernel
theorem dX9_trace_56 : decode cX9_trace 56 = .ok (.iconst 4, 1) := by decide +kernel
theorem dX9_trace_57 : decode cX9_trace 57 = .ok (.aload_n 0, 1) := by decide +kernel
theorem dX9_trace_58 : decode cX9_trace 58 = .ok (.getfield 7, 3) := by decide +kernel
theorem dX9_trace_61 : decode cX9_trace 61 = .ok (.iconst 5, 1) := by decide +kernel
theorem dX9_trace_62 : decode cX9_trace 62 = .ok (.iaload, 1) := by decide +kernel
theorem dX9_trace_63 : decode cX9_trace 63 = .ok (.iconst 1, 1) := by decide +kernel
theorem dX9_trace_64 : decode cX9_trace 64 = .ok (.isub, 1) := by decide +kernel
theorem dX9_trace_65 : decode cX9_trace 65 = .ok (.iload_n 1, 1) := by decide +kernel
theorem dX9_trace_66 : decode cX9_trace 66 = .ok (.isub, 1) := by decide +kernel
theorem dX9_trace_67 : decode cX9_trace 67 = .ok (.imul, 1) := by decide +kernel
theorem dX9_trace_68 : decode cX9_trace 68 = .ok (.iadd, 1) := by decide +kernel
theorem dX9_trace_69 : decode cX9_trace 69 = .ok (.iload_n 2, 1) := by decide +kernel
theorem dX9_trace_70 : decode cX9_trace 70 = .ok (.iadd, 1) := by decide +kernel
theorem dX9_trace_71 : decode cX9_trace 71 = .ok (.iaload, 1) := by decide +kernel
theorem dX9_trace_72 : decode cX9_trace 72 = .ok (.ireturn, 1) := by decide +kernel
theorem dX9_whyStuck_0 : decode cX9_whyStuck 0 = .ok (.aload_n 0, 1) := by decide +kernel
theorem dX9_whyStuck_1 : decode cX9_whyStuck 1 = .ok (.aload_n 0, 1) := by decide +kernel
theorem dX9_whyStuck_2 : decode cX9_whyStuck 2 = .ok (.iload_n 1, 1) := by decide +kernel
theorem dX9_whyStuck_3 : decode cX9_whyStuck 3 = .ok (.invokevirtual 319, 3) := by decide +kernel
theorem dX9_whyStuck_6 : decode cX9_whyStuck 6 = .ok (.ifCond .eq 7, 3) := by decide +kernel
theorem dX9_whyStuck_9 : decode cX9_whyStuck 9 = .ok (.iconst 0, 1) := by decide +kernel
theorem dX9_whyStuck_10 : decode cX9_whyStuck 10 = .ok (.goto 4, 3) := by decide +kernel
theorem dX9_whyStuck_13 : decode cX9_whyStuck 13 = .ok (.iconst 1, 1) := by decide +kernel
theorem dX9_whyStuck_14 : decode cX9_whyStuck 14 = .ok (.putfield 46, 3) := by decide +kernel
theorem dX9_whyStuck_17 : decode cX9_whyStuck 17 = .ok (.aload_n 0, 1) := by decide +kernel
theorem dX9_whyStuck_18 : decode cX9_whyStuck 18 = .ok (.getfield 46, 3) := by decide +kernel
theorem dX9_whyStuck_21 : decode cX9_whyStuck 21 = .ok (.ifCond .le 7, 3) := by decide +kernel
theorem dX9_whyStuck_24 : decode cX9_whyStuck 24 = .ok (.iconst 0, 1) := by decide +kernel
theorem dX9_whyStuck_25 : decode cX9_whyStuck 25 = .ok (.goto 8, 3) := by decide +kernel
theorem dX9_whyStuck_28 : decode cX9_whyStuck 28 = .ok (.aload_n 0, 1) := by decide +kernel
theorem dX9_whyStuck_29 : decode cX9_whyStuck 29 = .ok (.iload_n 1, 1) := by decide +kernel
theorem dX9_whyStuck_30 : decode cX9_whyStuck 30 = .ok (.invokevirtual 261, 3) := by decide +kernel
theorem dX9_whyStuck_33 : decode cX9_whyStuck 33 = .ok (.ireturn, 1) := by decide +kernel
theorem dX9_stuck_0 : decode cX9_stuck 0 = .ok (.aload_n 0, 1) := by decide +kernel
theorem dX9_stuck_1 : decode cX9_stuck 1 = .ok (.iconst 0, 1) := by decide +kernel
theorem dX9_stuck_2 : decode cX9_stuck 2 = .ok (.putfield 46, 3) := by decide +kernel
theorem dX9_stuck_5 : decode cX9_stuck 5 = .ok (.iconst 0, 1) := by decide +kernel
theorem dX9_stuck_6 : decode cX9_stuck 6 = .ok (.istore_n 1, 1) := by decide +kernel
theorem dX9_stuck_7 : decode cX9_stuck 7 = .ok (.iconst 0, 1) := by decide +kernel
theorem dX9_stuck_8 : decode cX9_stuck 8 = .ok (.istore_n 2, 1) := by decide +kernel
theorem dX9_stuck_9 : decode cX9_stuck 9 = .ok (.iload_n 2, 1) := by decide +kernel
theorem dX9_stuck_10 : decode cX9_stuck 10 = .ok (.aload_n 0, 1) := by decide +kernel
theorem dX9_stuck_11 : decode cX9_stuck 11 = .ok (.getfield 7, 3) := by decide +kernel
theorem dX9_stuck_14 : decode cX9_stuck 14 = .ok (.iconst 1, 1) := by decide +kernel
theorem dX9_stuck_15 : decode cX9_stuck 15 = .ok (.iaload, 1) := by decide +kernel
theorem dX9_stuck_16 : decode cX9_stuck 16 = .ok (.if_icmp .ge 27, 3) := by decide +kernel
theorem dX9_stuck_19 : decode cX9_stuck 19 = .ok (.iload_n 1, 1) := by decide +kernel
theorem dX9_stuck_20 : decode cX9_stuck 20 = .ok (.aload_n 0, 1) := by decide +kernel
theorem dX9_stuck_21 : decode cX9_stuck 21 = .ok (.iload_n 2, 1) := by decide +kernel
theorem dX9_stuck_22 : decode cX9_stuck 22 = .ok (.invokevirtual 261, 3) := by decide +kernel
theorem dX9_stuck_25 : decode cX9_stuck 25 = .ok (.ifCond .le 9, 3) := by decide +kernel
theorem dX9_stuck_28 : decode cX9_stuck 28 = .ok (.iconst 1, 1) := by decide +kernel
theorem dX9_stuck_29 : decode cX9_stuck 29 = .ok (.iload_n 2, 1) := by decide +kernel
theorem dX9_stuck_30 : decode cX9_stuck 30 = .ok (.ishl, 1) := by decide +kernel
theorem dX9_stuck_31 : decode cX9_stuck 31 = .ok (.goto 4, 3) := by decide +kernel
theorem dX9_stuck_34 : decode cX9_stuck 34 = .ok (.iconst 0, 1) := by decide +kernel
theorem dX9_stuck_35 : decode cX9_stuck 35 = .ok (.ior, 1) := by decide +kernel
theorem dX9_stuck_36 : decode cX9_stuck 36 = .ok (.istore_n 1, 1) := by decide +kernel
theorem dX9_stuck_37 : decode cX9_stuck 37 = .ok (.iinc 2 1, 3) := by decide +kernel
theorem dX9_stuck_40 : decode cX9_stuck 40 = .ok (.goto (-31), 3) := by decide +kernel
theorem dX9_stuck_43 : decode cX9_stuck 43 = .ok (.iload_n 1, 1) := by decide +kernel
theorem dX9_stuck_44 : decode cX9_stuck 44 = .ok (.ireturn, 1) := by decide +kernel
theorem dX9_hasCommand_0 : decode cX9_hasCommand 0 = .ok (.iconst 0, 1) := by decide +kernel
theorem dX9_hasCommand_1 : decode cX9_hasCommand 1 = .ok (.istore 4, 2) := by decide +kernel
theorem dX9_hasCommand_3 : decode cX9_hasCommand 3 = .ok (.iload 4, 2) := by decide +kernel
theorem dX9_hasCommand_5 : decode cX9_hasCommand 5 = .ok (.aload_n 0, 1) := by decide +kernel
theorem dX9_hasCommand_6 : decode cX9_hasCommand 6 = .ok (.iload_n 1, 1) := by decide +kernel
theorem dX9_hasCommand_7 : decode cX9_hasCommand 7 = .ok (.iconst 3, 1) := by decide +kernel
theorem dX9_hasCommand_8 : decode cX9_hasCommand 8 = .ok (.invokevirtual 135, 3) := by decide +kernel
theorem dX9_hasCommand_11 : decode cX9_hasCommand 11 = .ok (.if_icmp .ge 39, 3) := by decide +kernel
theorem dX9_hasCommand_14 : decode cX9_hasCommand 14 = .ok (.aload_n 0, 1) := by decide +kernel
theorem dX9_hasCommand_15 : decode cX9_hasCommand 15 = .ok (.iload_n 1, 1) := by decide +kernel
theorem dX9_hasCommand_16 : decode cX9_hasCommand 16 = .ok (.bipush 18, 2) := by decide +kernel
theorem dX9_hasCommand_18 : decode cX9_hasCommand 18 = .ok (.iload 4, 2) := by decide +kernel
theorem dX9_hasCommand_20 : decode cX9_hasCommand 20 = .ok (.iadd, 1) := by decide +kernel
theorem dX9_hasCommand_21 : decode cX9_hasCommand 21 = .ok (.invokevirtual 135, 3) := by decide +kernel
theorem dX9_hasCommand_24 : decode cX9_hasCommand 24 = .ok (.iload_n 2, 1) := by decide +kernel
theorem dX9_hasCommand_25 : decode cX9_hasCommand 25 = .ok (.if_icmp .ne 19, 3) := by decide +kernel
theorem dX9_hasCommand_28 : decode cX9_hasCommand 28 = .ok (.aload_n 0, 1) := by decide +kernel
theorem dX9_hasCommand_29 : decode cX9_hasCommand 29 = .ok (.iload_n 1, 1) := by decide +kernel
theorem dX9_hasCommand_30 : decode cX9_hasCommand 30 = .ok (.bipush 42, 2) := by decide +kernel
theorem dX9_hasCommand_32 : decode cX9_hasCommand 32 = .ok (.iload 4, 2) := by decide +kernel
theorem dX9_hasCommand_34 : decode cX9_hasCommand 34 = .ok (.iadd, 1) := by decide +kernel
theorem dX9_hasCommand_35 : decode cX9_hasCommand 35 = .ok (.invokevirtual 135, 3) := by decide +kernel
theorem dX9_hasCommand_38 : decode cX9_hasCommand 38 = .ok (.iload_n 3, 1) := by decide +kernel
theorem dX9_hasCommand_39 : decode cX9_hasCommand 39 = .ok (.if_icmp .ne 5, 3) := by decide +kernel
theorem dX9_hasCommand_42 : decode cX9_hasCommand 42 = .ok (.iconst 1, 1) := by decide +kernel
theorem dX9_hasCommand_43 : decode cX9_hasCommand 43 = .ok (.ireturn, 1) := by decide +kernel
theorem dX9_hasCommand_44 : decode cX9_hasCommand 44 = .ok (.iinc 4 1, 3) := by decide +kernel
theorem dX9_hasCommand_47 : decode cX9_hasCommand 47 = .ok (.goto (-44), 3) := by decide +kernel
theorem dX9_hasCommand_50 : decode cX9_hasCommand 50 = .ok (.iconst 0, 1) := by decide +kernel
theorem dX9_hasCommand_51 : decode cX9_hasCommand 51 = .ok (.ireturn, 1) := by decide +kernel
theorem dX9_helpers_0 : decode cX9_helpers 0 = .ok (.aload_n 0, 1) := by decide +kernel
theorem dX9_helpers_1 : decode cX9_helpers 1 = .ok (.aload_n 0, 1) := by decide +kernel
theorem dX9_helpers_2 : decode cX9_helpers 2 = .ok (.iload_n 1, 1) := by decide +kernel
theorem dX9_helpers_3 : decode cX9_helpers 3 = .ok (.invokevirtual 319, 3) := by decide +kernel
theorem dX9_helpers_6 : decode cX9_helpers 6 = .ok (.ifCond .eq 7, 3) := by decide +kernel
theorem dX9_helpers_9 : decode cX9_helpers 9 = .ok (.iconst 0, 1) := by decide +kernel
theorem dX9_helpers_10 : decode cX9_helpers 10 = .ok (.goto 4, 3) := by decide +kernel
theorem dX9_helpers_13 : decode cX9_helpers 13 = .ok (.iconst 1, 1) := by decide +kernel
theorem dX9_helpers_14 : decode cX9_helpers 14 = .ok (.putfield 46, 3) := by decide +kernel
theorem dX9_helpers_17 : decode cX9_helpers 17 = .ok (.aload_n 0, 1) := by decide +kernel
theorem dX9_helpers_18 : decode cX9_helpers 18 = .ok (.getfield 46, 3) := by decide +kernel
theorem dX9_helpers_21 : decode cX9_helpers 21 = .ok (.ifCond .gt 11, 3) := by decide +kernel
theorem dX9_helpers_24 : decode cX9_helpers 24 = .ok (.aload_n 0, 1) := by decide +kernel
theorem dX9_helpers_25 : decode cX9_helpers 25 = .ok (.iload_n 1, 1) := by decide +kernel
theorem dX9_helpers_26 : decode cX9_helpers 26 = .ok (.invokevirtual 261, 3) := by decide +kernel
theorem dX9_helpers_29 : decode cX9_helpers 29 = .ok (.ifCond .ne 5, 3) := by decide +kernel
theorem dX9_helpers_32 : decode cX9_helpers 32 = .ok (.iconst 0, 1) := by decide +kernel
theorem dX9_helpers_33 : decode cX9_helpers 33 = .ok (.ireturn, 1) := by decide +kernel
theorem dX9_helpers_34 : decode cX9_helpers 34 = .ok (.aload_n 0, 1) := by decide +kernel
theorem dX9_helpers_35 : decode cX9_helpers 35 = .ok (.iload_n 1, 1) := by decide +kernel
theorem dX9_helpers_36 : decode cX9_helpers 36 = .ok (.bipush 42, 2) := by decide +kernel
theorem dX9_helpers_38 : decode cX9_helpers 38 = .ok (.aload_n 0, 1) := by decide +kernel
theorem dX9_helpers_39 : decode cX9_helpers 39 = .ok (.iload_n 1, 1) := by decide +kernel
theorem dX9_helpers_40 : decode cX9_helpers 40 = .ok (.iconst 2, 1) := by decide +kernel
theorem dX9_helpers_41 : decode cX9_helpers 41 = .ok (.invokevirtual 135, 3) := by decide +kernel
theorem dX9_helpers_44 : decode cX9_helpers 44 = .ok (.iadd, 1) := by decide +kernel
theorem dX9_helpers_45 : decode cX9_helpers 45 = .ok (.invokevirtual 135, 3) := by decide +kernel
theorem dX9_helpers_48 : decode cX9_helpers 48 = .ok (.istore_n 2, 1) := by decide +kernel
theorem dX9_helpers_49 : decode cX9_helpers 49 = .ok (.aload_n 0, 1) := by decide +kernel
theorem dX9_helpers_50 : decode cX9_helpers 50 = .ok (.iload_n 1, 1) := by decide +kernel
theorem dX9_helpers_51 : decode cX9_helpers 51 = .ok (.invokevirtual 261, 3) := by decide +kernel
theorem dX9_helpers_54 : decode cX9_helpers 54 = .ok (.iconst 1, 1) := by decide +kernel
theorem dX9_helpers_55 : decode cX9_helpers 55 = .ok (.if_icmp .ne 8, 3) := by decide +kernel
theorem dX9_helpers_58 : decode cX9_helpers 58 = .ok (.bipush 9, 2) := by decide +kernel
theorem dX9_helpers_60 : decode cX9_helpers 60 = .ok (.goto 5, 3) := by decide +kernel
theorem dX9_helpers_63 : decode cX9_helpers 63 = .ok (.bipush 8, 2) := by decide +kernel
theorem dX9_helpers_65 : decode cX9_helpers 65 = .ok (.istore_n 3, 1) := by decide +kernel
theorem dX9_helpers_66 : decode cX9_helpers 66 = .ok (.iconst 0, 1) := by decide +kernel
theorem dX9_helpers_67 : decode cX9_helpers 67 = .ok (.istore 4, 2) := by decide +kernel
theorem dX9_helpers_69 : decode cX9_helpers 69 = .ok (.iconst 0, 1) := by decide +kernel
theorem dX9_helpers_70 : decode cX9_helpers 70 = .ok (.istore 5, 2) := by decide +kernel
theorem dX9_helpers_72 : decode cX9_helpers 72 = .ok (.iload 5, 2) := by decide +kernel
theorem dX9_helpers_74 : decode cX9_helpers 74 = .ok (.aload_n 0, 1) := by decide +kernel
theorem dX9_helpers_75 : decode cX9_helpers 75 = .ok (.getfield 7, 3) := by decide +kernel
theorem dX9_helpers_78 : decode cX9_helpers 78 = .ok (.iconst 1, 1) := by decide +kernel
theorem dX9_helpers_79 : decode cX9_helpers 79 = .ok (.iaload, 1) := by decide +kernel
theorem dX9_helpers_80 : decode cX9_helpers 80 = .ok (.if_icmp .ge 54, 3) := by decide +kernel
theorem dX9_helpers_83 : decode cX9_helpers 83 = .ok (.iload 5, 2) := by decide +kernel
theorem dX9_helpers_85 : decode cX9_helpers 85 = .ok (.iload_n 1, 1) := by decide +kernel
theorem dX9_helpers_86 : decode cX9_helpers 86 = .ok (.if_icmp .eq 42, 3) := by decide +kernel
theorem dX9_helpers_89 : decode cX9_helpers 89 = .ok (.aload_n 0, 1) := by decide +kernel
theorem dX9_helpers_90 : decode cX9_helpers 90 = .ok (.iload 5, 2) := by decide +kernel
theorem dX9_helpers_92 : decode cX9_helpers 92 = .ok (.invokevirtual 252, 3) := by decide +kernel
theorem dX9_helpers_95 : decode cX9_helpers 95 = .ok (.ifCond .eq 33, 3) := by decide +kernel
theorem dX9_helpers_98 : decode cX9_helpers 98 = .ok (.aload_n 0, 1) := by decide +kernel
theorem dX9_helpers_99 : decode cX9_helpers 99 = .ok (.iload 5, 2) := by decide +kernel
theorem dX9_helpers_101 : decode cX9_helpers 101 = .ok (.iload_n 2, 1) := by decide +kernel
theorem dX9_helpers_102 : decode cX9_helpers 102 = .ok (.invokevirtual 206, 3) := by decide +kernel
theorem dX9_helpers_105 : decode cX9_helpers 105 = .ok (.ifCond .eq 23, 3) := by decide +kernel
theorem dX9_helpers_108 : decode cX9_helpers 108 = .ok (.aload_n 0, 1) := by decide +kernel
theorem dX9_helpers_109 : decode cX9_helpers 109 = .ok (.iload 5, 2) := by decide +kernel
theorem dX9_helpers_111 : decode cX9_helpers 111 = .ok (.iload_n 3, 1) := by decide +kernel
theorem dX9_helpers_112 : decode cX9_helpers 112 = .ok (.iload_n 2, 1) := by decide +kernel
theorem dX9_helpers_113 : decode cX9_helpers 113 = .ok (.invokevirtual 332, 3) := by decide +kernel
theorem dX9_helpers_116 : decode cX9_helpers 116 = .ok (.ifCond .eq 12, 3) := by decide +kernel
theorem dX9_helpers_119 : decode cX9_helpers 119 = .ok (.iload 4, 2) := by decide +kernel
theorem dX9_helpers_121 : decode cX9_helpers 121 = .ok (.iconst 1, 1) := by decide +kernel
theorem dX9_helpers_122 : decode cX9_helpers 122 = .ok (.iload 5, 2) := by decide +kernel
theorem dX9_helpers_124 : decode cX9_helpers 124 = .ok (.ishl, 1) := by decide +kernel
theorem dX9_helpers_125 : decode cX9_helpers 125 = .ok (.ior, 1) := by decide +kernel
theorem dX9_helpers_126 : decode cX9_helpers 126 = .ok (.istore 4, 2) := by decide +kernel
theorem dX9_helpers_128 : decode cX9_helpers 128 = .ok (.iinc 5 1, 3) := by decide +kernel
theorem dX9_helpers_131 : decode cX9_helpers 131 = .ok (.goto (-59), 3) := by decide +kernel
theorem dX9_helpers_134 : decode cX9_helpers 134 = .ok (.iload 4, 2) := by decide +kernel
theorem dX9_helpers_136 : decode cX9_helpers 136 = .ok (.ireturn, 1) := by decide +kernel
theorem dX9_unfairNow_0 : decode cX9_unfairNow 0 = .ok (.aload_n 0, 1) := by decide +kernel
theorem dX9_unfairNow_1 : decode cX9_unfairNow 1 = .ok (.iconst 0, 1) := by decide +kernel
theorem dX9_unfairNow_2 : decode cX9_unfairNow 2 = .ok (.bipush 7, 2) := by decide +kernel
theorem dX9_unfairNow_4 : decode cX9_unfairNow 4 = .ok (.invokevirtual 135, 3) := by decide +kernel
theorem dX9_unfairNow_7 : decode cX9_unfairNow 7 = .ok (.istore_n 1, 1) := by decide +kernel
theorem dX9_unfairNow_8 : decode cX9_unfairNow 8 = .ok (.iload_n 1, 1) := by decide +kernel
theorem dX9_unfairNow_9 : decode cX9_unfairNow 9 = .ok (.istore_n 2, 1) := by decide +kernel
theorem dX9_unfairNow_10 : decode cX9_unfairNow 10 = .ok (.iconst 1, 1) := by decide +kernel
theorem dX9_unfairNow_11 : decode cX9_unfairNow 11 = .ok (.istore_n 3, 1) := by decide +kernel
theorem dX9_unfairNow_12 : decode cX9_unfairNow 12 = .ok (.iload_n 3, 1) := by decide +kernel
theorem dX9_unfairNow_13 : decode cX9_unfairNow 13 = .ok (.aload_n 0, 1) := by decide +kernel
theorem dX9_unfairNow_14 : decode cX9_unfairNow 14 = .ok (.getfield 7, 3) := by decide +kernel
theorem dX9_unfairNow_17 : decode cX9_unfairNow 17 = .ok (.iconst 1, 1) := by decide +kernel
theorem dX9_unfairNow_18 : decode cX9_unfairNow 18 = .ok (.iaload, 1) := by decide +kernel
theorem dX9_unfairNow_19 : decode cX9_unfairNow 19 = .ok (.if_icmp .ge 33, 3) := by decide +kernel
theorem dX9_unfairNow_22 : decode cX9_unfairNow 22 = .ok (.iload_n 1, 1) := by decide +kernel
theorem dX9_unfairNow_23 : decode cX9_unfairNow 23 = .ok (.aload_n 0, 1) := by decide +kernel
theorem dX9_unfairNow_24 : decode cX9_unfairNow 24 = .ok (.iload_n 3, 1) := by decide +kernel
theorem dX9_unfairNow_25 : decode cX9_unfairNow 25 = .ok (.bipush 7, 2) := by decide +kernel
theorem dX9_unfairNow_27 : decode cX9_unfairNow 27 = .ok (.invokevirtual 135, 3) := by decide +kernel
theorem dX9_unfairNow_30 : decode cX9_unfairNow 30 = .ok (.invokestatic 335, 3) := by decide +kernel
theorem dX9_unfairNow_33 : decode cX9_unfairNow 33 = .ok (.istore_n 1, 1) := by decide +kernel
theorem dX9_unfairNow_34 : decode cX9_unfairNow 34 = .ok (.iload_n 2, 1) := by decide +kernel
theorem dX9_unfairNow_35 : decode cX9_unfairNow 35 = .ok (.aload_n 0, 1) := by decide +kernel
theorem dX9_unfairNow_36 : decode cX9_unfairNow 36 = .ok (.iload_n 3, 1) := by decide +kernel
theorem dX9_unfairNow_37 : decode cX9_unfairNow 37 = .ok (.bipush 7, 2) := by decide +kernel
theorem dX9_unfairNow_39 : decode cX9_unfairNow 39 = .ok (.invokevirtual 135, 3) := by decide +kernel
theorem dX9_unfairNow_42 : decode cX9_unfairNow 42 = .ok (.invokestatic 95, 3) := by decide +kernel
theorem dX9_unfairNow_45 : decode cX9_unfairNow 45 = .ok (.istore_n 2, 1) := by decide +kernel
theorem dX9_unfairNow_46 : decode cX9_unfairNow 46 = .ok (.iinc 3 1, 3) := by decide +kernel
theorem dX9_unfairNow_49 : decode cX9_unfairNow 49 = .ok (.goto (-37), 3) := by decide +kernel
theorem dX9_unfairNow_52 : decode cX9_unfairNow 52 = .ok (.iload_n 1, 1) := by decide +kernel
theorem dX9_unfairNow_53 : decode cX9_unfairNow 53 = .ok (.iload_n 2, 1) := by decide +kernel
theorem dX9_unfairNow_54 : decode cX9_unfairNow 54 = .ok (.isub, 1) := by decide +kernel
theorem dX9_unfairNow_55 : decode cX9_unfairNow 55 = .ok (.ireturn, 1) := by decide +kernel
theorem dX9_unfair_0 : decode cX9_unfair 0 = .ok (.aload_n 0, 1) := by decide +kernel
theorem dX9_unfair_1 : decode cX9_unfair 1 = .ok (.iconst 0, 1) := by decide +kernel
theorem dX9_unfair_2 : decode cX9_unfair 2 = .ok (.putfield 46, 3) := by decide +kernel
theorem dX9_unfair_5 : decode cX9_unfair 5 = .ok (.aload_n 0, 1) := by decide +kernel
theorem dX9_unfair_6 : decode cX9_unfair 6 = .ok (.invokevirtual 338, 3) := by decide +kernel
theorem dX9_unfair_9 : decode cX9_unfair 9 = .ok (.ireturn, 1) := by decide +kernel
theorem dX9_hungriest_0 : decode cX9_hungriest 0 = .ok (.aload_n 0, 1) := by decide +kernel
theorem dX9_hungriest_1 : decode cX9_hungriest 1 = .ok (.iconst 0, 1) := by decide +kernel
theorem dX9_hungriest_2 : decode cX9_hungriest 2 = .ok (.putfield 46, 3) := by decide +kernel
theorem dX9_hungriest_5 : decode cX9_hungriest 5 = .ok (.iconst (-1), 1) := by decide +kernel
theorem dX9_hungriest_6 : decode cX9_hungriest 6 = .ok (.istore_n 1, 1) := by decide +kernel
theorem dX9_hungriest_7 : decode cX9_hungriest 7 = .ok (.iconst 0, 1) := by decide +kernel
theorem dX9_hungriest_8 : decode cX9_hungriest 8 = .ok (.istore_n 2, 1) := by decide +kernel
theorem dX9_hungriest_9 : decode cX9_hungriest 9 = .ok (.iload_n 2, 1) := by decide +kernel
theorem dX9_hungriest_10 : decode cX9_hungriest 10 = .ok (.aload_n 0, 1) := by decide +kernel
theorem dX9_hungriest_11 : decode cX9_hungriest 11 = .ok (.getfield 7, 3) := by decide +kernel
theorem dX9_hungriest_14 : decode cX9_hungriest 14 = .ok (.iconst 1, 1) := by decide +kernel
theorem dX9_hungriest_15 : decode cX9_hungriest 15 = .ok (.iaload, 1) := by decide +kernel
theorem dX9_hungriest_16 : decode cX9_hungriest 16 = .ok (.if_icmp .ge 41, 3) := by decide +kernel
theorem dX9_hungriest_19 : decode cX9_hungriest 19 = .ok (.aload_n 0, 1) := by decide +kernel
theorem dX9_hungriest_20 : decode cX9_hungriest 20 = .ok (.iload_n 2, 1) := by decide +kernel
theorem dX9_hungriest_21 : decode cX9_hungriest 21 = .ok (.invokevirtual 252, 3) := by decide +kernel
theorem dX9_hungriest_24 : decode cX9_hungriest 24 = .ok (.ifCond .eq 27, 3) := by decide +kernel
theorem dX9_hungriest_27 : decode cX9_hungriest 27 = .ok (.iload_n 1, 1) := by decide +kernel
theorem dX9_hungriest_28 : decode cX9_hungriest 28 = .ok (.iconst (-1), 1) := by decide +kernel
theorem dX9_hungriest_29 : decode cX9_hungriest 29 = .ok (.if_icmp .eq 20, 3) := by decide +kernel
theorem dX9_hungriest_32 : decode cX9_hungriest 32 = .ok (.aload_n 0, 1) := by decide +kernel
theorem dX9_hungriest_33 : decode cX9_hungriest 33 = .ok (.iload_n 2, 1) := by decide +kernel
theorem dX9_hungriest_34 : decode cX9_hungriest 34 = .ok (.bipush 7, 2) := by decide +kernel
theorem dX9_hungriest_36 : decode cX9_hungriest 36 = .ok (.invokevirtual 135, 3) := by decide +kernel
theorem dX9_hungriest_39 : decode cX9_hungriest 39 = .ok (.aload_n 0, 1) := by decide +kernel
theorem dX9_hungriest_40 : decode cX9_hungriest 40 = .ok (.iload_n 1, 1) := by decide +kernel
theorem dX9_hungriest_41 : decode cX9_hungriest 41 = .ok (.bipush 7, 2) := by decide +kernel
theorem dX9_hungriest_43 : decode cX9_hungriest 43 = .ok (.invokevirtual 135, 3) := by decide +kernel
theorem dX9_hungriest_46 : decode cX9_hungriest 46 = .ok (.if_icmp .ge 5, 3) := by decide +kernel
theorem dX9_hungriest_49 : decode cX9_hungriest 49 = .ok (.iload_n 2, 1) := by decide +kernel
theorem dX9_hungriest_50 : decode cX9_hungriest 50 = .ok (.istore_n 1, 1) := by decide +kernel
theorem dX9_hungriest_51 : decode cX9_hungriest 51 = .ok (.iinc 2 1, 3) := by decide +kernel
theorem dX9_hungriest_54 : decode cX9_hungriest 54 = .ok (.goto (-45), 3) := by decide +kernel
theorem dX9_hungriest_57 : decode cX9_hungriest 57 = .ok (.iload_n 1, 1) := by decide +kernel
theorem dX9_hungriest_58 : decode cX9_hungriest 58 = .ok (.ireturn, 1) := by decide +kernel
theorem dX9_waitShare_0 : decode cX9_waitShare 0 = .ok (.aload_n 0, 1) := by decide +kernel
theorem dX9_waitShare_1 : decode cX9_waitShare 1 = .ok (.iconst 0, 1) := by decide +kernel
theorem dX9_waitShare_2 : decode cX9_waitShare 2 = .ok (.putfield 46, 3) := by decide +kernel
theorem dX9_waitShare_5 : decode cX9_waitShare 5 = .ok (.aload_n 0, 1) := by decide +kernel
theorem dX9_waitShare_6 : decode cX9_waitShare 6 = .ok (.bipush 8, 2) := by decide +kernel
theorem dX9_waitShare_8 : decode cX9_waitShare 8 = .ok (.invokevirtual 316, 3) := by decide +kernel
theorem dX9_waitShare_11 : decode cX9_waitShare 11 = .ok (.istore_n 1, 1) := by decide +kernel
theorem dX9_waitShare_12 : decode cX9_waitShare 12 = .ok (.iload_n 1, 1) := by decide +kernel
theorem dX9_waitShare_13 : decode cX9_waitShare 13 = .ok (.aload_n 0, 1) := by decide +kernel
theorem dX9_waitShare_14 : decode cX9_waitShare 14 = .ok (.bipush 7, 2) := by decide +kernel
theorem dX9_waitShare_16 : decode cX9_waitShare 16 = .ok (.invokevirtual 316, 3) := by decide +kernel
theorem dX9_waitShare_19 : decode cX9_waitShare 19 = .ok (.iadd, 1) := by decide +kernel
theorem dX9_waitShare_20 : decode cX9_waitShare 20 = .ok (.istore_n 2, 1) := by decide +kernel
theorem dX9_waitShare_21 : decode cX9_waitShare 21 = .ok (.iload_n 2, 1) := by decide +kernel
theorem dX9_waitShare_22 : decode cX9_waitShare 22 = .ok (.ifCond .ne 7, 3) := by decide +kernel
theorem dX9_waitShare_25 : decode cX9_waitShare 25 = .ok (.dconst 0, 1) := by decide +kernel
theorem dX9_waitShare_26 : decode cX9_waitShare 26 = .ok (.goto 8, 3) := by decide +kernel
theorem dX9_waitShare_29 : decode cX9_waitShare 29 = .ok (.iload_n 1, 1) := by decide +kernel
theorem dX9_waitShare_30 : decode cX9_waitShare 30 = .ok (.i2d, 1) := by decide +kernel
theorem dX9_waitShare_31 : decode cX9_waitShare 31 = .ok (.iload_n 2, 1) := by decide +kernel
theorem dX9_waitShare_32 : decode cX9_waitShare 32 = .ok (.i2d, 1) := by decide +kernel
theorem dX9_waitShare_33 : decode cX9_waitShare 33 = .ok (.ddiv, 1) := by decide +kernel
theorem dX9_waitShare_34 : decode cX9_waitShare 34 = .ok (.dreturn, 1) := by decide +kernel
theorem dX9_fullness_0 : decode cX9_fullness 0 = .ok (.aload_n 0, 1) := by decide +kernel
theorem dX9_fullness_1 : decode cX9_fullness 1 = .ok (.iconst 0, 1) := by decide +kernel
theorem dX9_fullness_2 : decode cX9_fullness 2 = .ok (.putfield 46, 3) := by decide +kernel
theorem dX9_fullness_5 : decode cX9_fullness 5 = .ok (.fconst 0, 1) := by decide +kernel
theorem dX9_fullness_6 : decode cX9_fullness 6 = .ok (.fstore_n 1, 1) := by decide +kernel
theorem dX9_fullness_7 : decode cX9_fullness 7 = .ok (.iconst 0, 1) := by decide +kernel
theorem dX9_fullness_8 : decode cX9_fullness 8 = .ok (.istore_n 2, 1) := by decide +kernel
theorem dX9_fullness_9 : decode cX9_fullness 9 = .ok (.iload_n 2, 1) := by decide +kernel
theorem dX9_fullness_10 : decode cX9_fullness 10 = .ok (.aload_n 0, 1) := by decide +kernel
theorem dX9_fullness_11 : decode cX9_fullness 11 = .ok (.getfield 7, 3) := by decide +kernel
theorem dX9_fullness_14 : decode cX9_fullness 14 = .ok (.iconst 2, 1) := by decide +kernel
theorem dX9_fullness_15 : decode cX9_fullness 15 = .ok (.iaload, 1) := by decide +kernel
theorem dX9_fullness_16 : decode cX9_fullness 16 = .ok (.if_icmp .ge 27, 3) := by decide +kernel
theorem dX9_fullness_19 : decode cX9_fullness 19 = .ok (.fload_n 1, 1) := by decide +kernel
theorem dX9_fullness_20 : decode cX9_fullness 20 = .ok (.aload_n 0, 1) := by decide +kernel
theorem dX9_fullness_21 : decode cX9_fullness 21 = .ok (.iload_n 2, 1) := by decide +kernel
theorem dX9_fullness_22 : decode cX9_fullness 22 = .ok (.iconst 1, 1) := by decide +kernel
theorem dX9_fullness_23 : decode cX9_fullness 23 = .ok (.invokevirtual 232, 3) := by decide +kernel
theorem dX9_fullness_26 : decode cX9_fullness 26 = .ok (.i2f, 1) := by decide +kernel
theorem dX9_fullness_27 : decode cX9_fullness 27 = .ok (.aload_n 0, 1) := by decide +kernel
theorem dX9_fullness_28 : decode cX9_fullness 28 = .ok (.iload_n 2, 1) := by decide +kernel
theorem dX9_fullness_29 : decode cX9_fullness 29 = .ok (.iconst 0, 1) := by decide +kernel
theorem dX9_fullness_30 : decode cX9_fullness 30 = .ok (.invokevirtual 232, 3) := by decide +kernel
theorem dX9_fullness_33 : decode cX9_fullness 33 = .ok (.i2f, 1) := by decide +kernel
theorem dX9_fullness_34 : decode cX9_fullness 34 = .ok (.fdiv, 1) := by decide +kernel
theorem dX9_fullness_35 : decode cX9_fullness 35 = .ok (.fadd, 1) := by decide +kernel
theorem dX9_fullness_36 : decode cX9_fullness 36 = .ok (.fstore_n 1, 1) := by decide +kernel
theorem dX9_fullness_37 : decode cX9_fullness 37 = .ok (.iinc 2 1, 3) := by decide +kernel
theorem dX9_fullness_40 : decode cX9_fullness 40 = .ok (.goto (-31), 3) := by decide +kernel
theorem dX9_fullness_43 : decode cX9_fullness 43 = .ok (.aload_n 0, 1) := by decide +kernel
theorem dX9_fullness_44 : decode cX9_fullness 44 = .ok (.getfield 7, 3) := by decide +kernel
theorem dX9_fullness_47 : decode cX9_fullness 47 = .ok (.iconst 2, 1) := by decide +kernel
theorem dX9_fullness_48 : decode cX9_fullness 48 = .ok (.iaload, 1) := by decide +kernel
theorem dX9_fullness_49 : decode cX9_fullness 49 = .ok (.ifCond .ne 7, 3) := by decide +kernel
theorem dX9_fullness_52 : decode cX9_fullness 52 = .ok (.fconst 0, 1) := by decide +kernel
theorem dX9_fullness_53 : decode cX9_fullness 53 = .ok (.goto 12, 3) := by decide +kernel
theorem dX9_fullness_56 : decode cX9_fullness 56 = .ok (.fload_n 1, 1) := by decide +kernel
theorem dX9_fullness_57 : decode cX9_fullness 57 = .ok (.aload_n 0, 1) := by decide +kernel
theorem dX9_fullness_58 : decode cX9_fullness 58 = .ok (.getfield 7, 3) := by decide +kernel
theorem dX9_fullness_61 : decode cX9_fullness 61 = .ok (.iconst 2, 1) := by decide +kernel
theorem dX9_fullness_62 : decode cX9_fullness 62 = .ok (.iaload, 1) := by decide +kernel
theorem dX9_fullness_63 : decode cX9_fullness 63 = .ok (.i2f, 1) := by decide +kernel
theorem dX9_fullness_64 : decode cX9_fullness 64 = .ok (.fdiv, 1) := by decide +kernel
theorem dX9_fullness_65 : decode cX9_fullness 65 = .ok (.freturn, 1) := by decide +kernel
theorem dX9_setsAside_0 : decode cX9_setsAside 0 = .ok (.aload_n 0, 1) := by decide +kernel
theorem dX9_setsAside_1 : decode cX9_setsAside 1 = .ok (.getfield 16, 3) := by decide +kernel
theorem dX9_setsAside_4 : decode cX9_setsAside 4 = .ok (.iconst 0, 1) := by decide +kernel
theorem dX9_setsAside_5 : decode cX9_setsAside 5 = .ok (.aload_n 0, 1) := by decide +kernel
theorem dX9_setsAside_6 : decode cX9_setsAside 6 = .ok (.getfield 7, 3) := by decide +kernel
theorem dX9_setsAside_9 : decode cX9_setsAside 9 = .ok (.iconst 0, 1) := by decide +kernel
theorem dX9_setsAside_10 : decode cX9_setsAside 10 = .ok (.invokestatic 52, 3) := by decide +kernel
theorem dX9_setsAside_13 : decode cX9_setsAside 13 = .ok (.return_, 1) := by decide +kernel
theorem dX9_putsBack_0 : decode cX9_putsBack 0 = .ok (.aload_n 0, 1) := by decide +kernel
theorem dX9_putsBack_1 : decode cX9_putsBack 1 = .ok (.getfield 7, 3) := by decide +kernel
theorem dX9_putsBack_4 : decode cX9_putsBack 4 = .ok (.iconst 0, 1) := by decide +kernel
theorem dX9_putsBack_5 : decode cX9_putsBack 5 = .ok (.aload_n 0, 1) := by decide +kernel
theorem dX9_putsBack_6 : decode cX9_putsBack 6 = .ok (.getfield 16, 3) := by decide +kernel
theorem dX9_putsBack_9 : decode cX9_putsBack 9 = .ok (.iconst 0, 1) := by decide +kernel
theorem dX9_putsBack_10 : decode cX9_putsBack 10 = .ok (.invokestatic 52, 3) := by decide +kernel
theorem dX9_putsBack_13 : decode cX9_putsBack 13 = .ok (.return_, 1) := by decide +kernel
theorem dX9_turnsLeft_0 : decode cX9_turnsLeft 0 = .ok (.aload_n 0, 1) := by decide +kernel
theorem dX9_turnsLeft_1 : decode cX9_turnsLeft 1 = .ok (.iconst 0, 1) := by decide +kernel
theorem dX9_turnsLeft_2 : decode cX9_turnsLeft 2 = .ok (.putfield 46, 3) := by decide +kernel
theorem dX9_turnsLeft_5 : decode cX9_turnsLeft 5 = .ok (.aload_n 0, 1) := by decide +kernel
theorem dX9_turnsLeft_6 : decode cX9_turnsLeft 6 = .ok (.invokevirtual 341, 3) := by decide +kernel
theorem dX9_turnsLeft_9 : decode cX9_turnsLeft 9 = .ok (.aload_n 0, 1) := by decide +kernel
theorem dX9_turnsLeft_10 : decode cX9_turnsLeft 10 = .ok (.sipush 300, 3) := by decide +kernel
theorem dX9_turnsLeft_13 : decode cX9_turnsLeft 13 = .ok (.invokevirtual 344, 3) := by decide +kernel
theorem dX9_turnsLeft_16 : decode cX9_turnsLeft 16 = .ok (.istore_n 1, 1) := by decide +kernel
theorem dX9_turnsLeft_17 : decode cX9_turnsLeft 17 = .ok (.aload_n 0, 1) := by decide +kernel
theorem dX9_turnsLeft_18 : decode cX9_turnsLeft 18 = .ok (.invokevirtual 310, 3) := by decide +kernel
theorem dX9_turnsLeft_21 : decode cX9_turnsLeft 21 = .ok (.istore_n 2, 1) := by decide +kernel
theorem dX9_turnsLeft_22 : decode cX9_turnsLeft 22 = .ok (.aload_n 0, 1) := by decide +kernel
theorem dX9_turnsLeft_23 : decode cX9_turnsLeft 23 = .ok (.invokevirtual 347, 3) := by decide +kernel
theorem dX9_turnsLeft_26 : decode cX9_turnsLeft 26 = .ok (.iload_n 2, 1) := by decide +kernel
theorem dX9_turnsLeft_27 : decode cX9_turnsLeft 27 = .ok (.ifCond .eq 7, 3) := by decide +kernel
theorem dX9_turnsLeft_30 : decode cX9_turnsLeft 30 = .ok (.iload_n 1, 1) := by decide +kernel
theorem dX9_turnsLeft_31 : decode cX9_turnsLeft 31 = .ok (.goto 4, 3) := by decide +kernel
theorem dX9_turnsLeft_34 : decode cX9_turnsLeft 34 = .ok (.iconst (-1), 1) := by decide +kernel
theorem dX9_turnsLeft_35 : decode cX9_turnsLeft 35 = .ok (.ireturn, 1) := by decide +kernel
theorem dX9_wouldSay_0 : decode cX9_wouldSay 0 = .ok (.aload_n 0, 1) := by decide +kernel
theorem dX9_wouldSay_1 : decode cX9_wouldSay 1 = .ok (.aload_n 0, 1) := by decide +kernel
theorem dX9_wouldSay_2 : decode cX9_wouldSay 2 = .ok (.iload_n 1, 1) := by decide +kernel
theorem dX9_wouldSay_3 : decode cX9_wouldSay 3 = .ok (.invokevirtual 319, 3) := by decide +kernel
theorem dX9_wouldSay_6 : decode cX9_wouldSay 6 = .ok (.ifCond .ne 7, 3) := by decide +kernel
theorem dX9_wouldSay_9 : decode cX9_wouldSay 9 = .ok (.iconst 1, 1) := by decide +kernel
theorem dX9_wouldSay_10 : decode cX9_wouldSay 10 = .ok (.goto 19, 3) := by decide +kernel
theorem dX9_wouldSay_13 : decode cX9_wouldSay 13 = .ok (.iload_n 2, 1) := by decide +kernel
theorem dX9_wouldSay_14 : decode cX9_wouldSay 14 = .ok (.iconst 0, 1) := by decide +kernel
theorem dX9_wouldSay_15 : decode cX9_wouldSay 15 = .ok (.sipush 300, 3) := by decide +kernel
theorem dX9_wouldSay_18 : decode cX9_wouldSay 18 = .ok (.invokestatic 56, 3) := by decide +kernel
theorem dX9_wouldSay_21 : decode cX9_wouldSay 21 = .ok (.ifCond .eq 7, 3) := by decide +kernel
theorem dX9_wouldSay_24 : decode cX9_wouldSay 24 = .ok (.iconst 0, 1) := by decide +kernel
theorem dX9_wouldSay_25 : decode cX9_wouldSay 25 = .ok (.goto 4, 3) := by decide +kernel
theorem dX9_wouldSay_28 : decode cX9_wouldSay 28 = .ok (.iconst 2, 1) := by decide +kernel
theorem dX9_wouldSay_29 : decode cX9_wouldSay 29 = .ok (.putfield 46, 3) := by decide +kernel
theorem dX9_wouldSay_32 : decode cX9_wouldSay 32 = .ok (.aload_n 0, 1) := by decide +kernel
theorem dX9_wouldSay_33 : decode cX9_wouldSay 33 = .ok (.getfield 46, 3) := by decide +kernel
theorem dX9_wouldSay_36 : decode cX9_wouldSay 36 = .ok (.ifCond .le 5, 3) := by decide +kernel
theorem dX9_wouldSay_39 : decode cX9_wouldSay 39 = .ok (.iconst 0, 1) := by decide +kernel
theorem dX9_wouldSay_40 : decode cX9_wouldSay 40 = .ok (.ireturn, 1) := by decide +kernel
theorem dX9_wouldSay_41 : decode cX9_wouldSay 41 = .ok (.aload_n 0, 1) := by decide +kernel
theorem dX9_wouldSay_42 : decode cX9_wouldSay 42 = .ok (.invokevirtual 341, 3) := by decide +kernel
theorem dX9_wouldSay_45 : decode cX9_wouldSay 45 = .ok (.aload_n 0, 1) := by decide +kernel
theorem dX9_wouldSay_46 : decode cX9_wouldSay 46 = .ok (.aload_n 0, 1) := by decide +kernel
theorem dX9_wouldSay_47 : decode cX9_wouldSay 47 = .ok (.iload_n 2, 1) := by decide +kernel
theorem dX9_wouldSay_48 : decode cX9_wouldSay 48 = .ok (.invokevirtual 344, 3) := by decide +kernel
theorem dX9_wouldSay_51 : decode cX9_wouldSay 51 = .ok (.putfield 350, 3) := by decide +kernel
theorem dX9_wouldSay_54 : decode cX9_wouldSay 54 = .ok (.aload_n 0, 1) := by decide +kernel
theorem dX9_wouldSay_55 : decode cX9_wouldSay 55 = .ok (.iload_n 1, 1) := by decide +kernel
theorem dX9_wouldSay_56 : decode cX9_wouldSay 56 = .ok (.iconst 0, 1) := by decide +kernel
theorem dX9_wouldSay_57 : decode cX9_wouldSay 57 = .ok (.invokevirtual 329, 3) := by decide +kernel
theorem dX9_wouldSay_60 : decode cX9_wouldSay 60 = .ok (.istore_n 3, 1) := by decide +kernel
theorem dX9_wouldSay_61 : decode cX9_wouldSay 61 = .ok (.aload_n 0, 1) := by decide +kernel
theorem dX9_wouldSay_62 : decode cX9_wouldSay 62 = .ok (.invokevirtual 347, 3) := by decide +kernel
theorem dX9_wouldSay_65 : decode cX9_wouldSay 65 = .ok (.iload_n 3, 1) := by decide +kernel
theorem dX9_wouldSay_66 : decode cX9_wouldSay 66 = .ok (.ireturn, 1) := by decide +kernel
theorem dX9_wouldFail_0 : decode cX9_wouldFail 0 = .ok (.aload_n 0, 1) := by decide +kernel
theorem dX9_wouldFail_1 : decode cX9_wouldFail 1 = .ok (.aload_n 0, 1) := by decide +kernel
theorem dX9_wouldFail_2 : decode cX9_wouldFail 2 = .ok (.iload_n 1, 1) := by decide +kernel
theorem dX9_wouldFail_3 : decode cX9_wouldFail 3 = .ok (.invokevirtual 319, 3) := by decide +kernel
theorem dX9_wouldFail_6 : decode cX9_wouldFail 6 = .ok (.ifCond .eq 7, 3) := by decide +kernel
theorem dX9_wouldFail_9 : decode cX9_wouldFail 9 = .ok (.iconst 0, 1) := by decide +kernel
theorem dX9_wouldFail_10 : decode cX9_wouldFail 10 = .ok (.goto 4, 3) := by decide +kernel
theorem dX9_wouldFail_13 : decode cX9_wouldFail 13 = .ok (.iconst 1, 1) := by decide +kernel
theorem dX9_wouldFail_14 : decode cX9_wouldFail 14 = .ok (.putfield 46, 3) := by decide +kernel
theorem dX9_wouldFail_17 : decode cX9_wouldFail 17 = .ok (.aload_n 0, 1) := by decide +kernel
theorem dX9_wouldFail_18 : decode cX9_wouldFail 18 = .ok (.getfield 46, 3) := by decide +kernel
theorem dX9_wouldFail_21 : decode cX9_wouldFail 21 = .ok (.ifCond .le 5, 3) := by decide +kernel
theorem dX9_wouldFail_24 : decode cX9_wouldFail 24 = .ok (.iconst 0, 1) := by decide +kernel
theorem dX9_wouldFail_25 : decode cX9_wouldFail 25 = .ok (.ireturn, 1) := by decide +kernel
theorem dX9_wouldFail_26 : decode cX9_wouldFail 26 = .ok (.aload_n 0, 1) := by decide +kernel
theorem dX9_wouldFail_27 : decode cX9_wouldFail 27 = .ok (.invokevirtual 341, 3) := by decide +kernel
theorem dX9_wouldFail_30 : decode cX9_wouldFail 30 = .ok (.aload_n 0, 1) := by decide +kernel
theorem dX9_wouldFail_31 : decode cX9_wouldFail 31 = .ok (.aload_n 0, 1) := by decide +kernel
theorem dX9_wouldFail_32 : decode cX9_wouldFail 32 = .ok (.sipush 300, 3) := by decide +kernel
theorem dX9_wouldFail_35 : decode cX9_wouldFail 35 = .ok (.invokevirtual 344, 3) := by decide +kernel
theorem dX9_wouldFail_38 : decode cX9_wouldFail 38 = .ok (.putfield 350, 3) := by decide +kernel
theorem dX9_wouldFail_41 : decode cX9_wouldFail 41 = .ok (.aload_n 0, 1) := by decide +kernel
theorem dX9_wouldFail_42 : decode cX9_wouldFail 42 = .ok (.iload_n 1, 1) := by decide +kernel
theorem dX9_wouldFail_43 : decode cX9_wouldFail 43 = .ok (.iconst 1, 1) := by decide +kernel
theorem dX9_wouldFail_44 : decode cX9_wouldFail 44 = .ok (.invokevirtual 135, 3) := by decide +kernel
theorem dX9_wouldFail_47 : decode cX9_wouldFail 47 = .ok (.istore_n 2, 1) := by decide +kernel
theorem dX9_wouldFail_48 : decode cX9_wouldFail 48 = .ok (.aload_n 0, 1) := by decide +kernel
theorem dX9_wouldFail_49 : decode cX9_wouldFail 49 = .ok (.invokevirtual 347, 3) := by decide +kernel
theorem dX9_wouldFail_52 : decode cX9_wouldFail 52 = .ok (.iload_n 2, 1) := by decide +kernel
theorem dX9_wouldFail_53 : decode cX9_wouldFail 53 = .ok (.ireturn, 1) := by decide +kernel
theorem dX9_fairest_0 : decode cX9_fairest 0 = .ok (.aload_n 0, 1) := by decide +kernel
theorem dX9_fairest_1 : decode cX9_fairest 1 = .ok (.iconst 0, 1) := by decide +kernel
theorem dX9_fairest_2 : decode cX9_fairest 2 = .ok (.putfield 46, 3) := by decide +kernel
theorem dX9_fairest_5 : decode cX9_fairest 5 = .ok (.iconst 0, 1) := by decide +kernel
theorem dX9_fairest_6 : decode cX9_fairest 6 = .ok (.istore_n 1, 1) := by decide +kernel
theorem dX9_fairest_7 : decode cX9_fairest 7 = .ok (.iconst 0, 1) := by decide +kernel
theorem dX9_fairest_8 : decode cX9_fairest 8 = .ok (.istore_n 2, 1) := by decide +kernel
theorem dX9_fairest_9 : decode cX9_fairest 9 = .ok (.iconst 1, 1) := by decide +kernel
theorem dX9_fairest_10 : decode cX9_fairest 10 = .ok (.istore_n 3, 1) := by decide +kernel
theorem dX9_fairest_11 : decode cX9_fairest 11 = .ok (.iload_n 3, 1) := by decide +kernel
theorem dX9_fairest_12 : decode cX9_fairest 12 = .ok (.bipush 10, 2) := by decide +kernel
theorem dX9_fairest_14 : decode cX9_fairest 14 = .ok (.if_icmp .ge 79, 3) := by decide +kernel
theorem dX9_fairest_17 : decode cX9_fairest 17 = .ok (.aload_n 0, 1) := by decide +kernel
theorem dX9_fairest_18 : decode cX9_fairest 18 = .ok (.invokevirtual 341, 3) := by decide +kernel
theorem dX9_fairest_21 : decode cX9_fairest 21 = .ok (.iconst 0, 1) := by decide +kernel
theorem dX9_fairest_22 : decode cX9_fairest 22 = .ok (.istore 4, 2) := by decide +kernel
theorem dX9_fairest_24 : decode cX9_fairest 24 = .ok (.iload 4, 2) := by decide +kernel
theorem dX9_fairest_26 : decode cX9_fairest 26 = .ok (.aload_n 0, 1) := by decide +kernel
theorem dX9_fairest_27 : decode cX9_fairest 27 = .ok (.getfield 7, 3) := by decide +kernel
theorem dX9_fairest_30 : decode cX9_fairest 30 = .ok (.iconst 1, 1) := by decide +kernel
theorem dX9_fairest_31 : decode cX9_fairest 31 = .ok (.iaload, 1) := by decide +kernel
theorem dX9_fairest_32 : decode cX9_fairest 32 = .ok (.if_icmp .ge 17, 3) := by decide +kernel
theorem dX9_fairest_35 : decode cX9_fairest 35 = .ok (.aload_n 0, 1) := by decide +kernel
theorem dX9_fairest_36 : decode cX9_fairest 36 = .ok (.iload 4, 2) := by decide +kernel
theorem dX9_fairest_38 : decode cX9_fairest 38 = .ok (.iconst 4, 1) := by decide +kernel
theorem dX9_fairest_39 : decode cX9_fairest 39 = .ok (.iload_n 3, 1) := by decide +kernel
theorem dX9_fairest_40 : decode cX9_fairest 40 = .ok (.invokevirtual 42, 3) := by decide +kernel
theorem dX9_fairest_43 : decode cX9_fairest 43 = .ok (.iinc 4 1, 3) := by decide +kernel
theorem dX9_fairest_46 : decode cX9_fairest 46 = .ok (.goto (-22), 3) := by decide +kernel
theorem dX9_fairest_49 : decode cX9_fairest 49 = .ok (.aload_n 0, 1) := by decide +kernel
theorem dX9_fairest_50 : decode cX9_fairest 50 = .ok (.aload_n 0, 1) := by decide +kernel
theorem dX9_fairest_51 : decode cX9_fairest 51 = .ok (.bipush 60, 2) := by decide +kernel
theorem dX9_fairest_53 : decode cX9_fairest 53 = .ok (.invokevirtual 344, 3) := by decide +kernel
theorem dX9_fairest_56 : decode cX9_fairest 56 = .ok (.putfield 350, 3) := by decide +kernel
theorem dX9_fairest_59 : decode cX9_fairest 59 = .ok (.aload_n 0, 1) := by decide +kernel
theorem dX9_fairest_60 : decode cX9_fairest 60 = .ok (.invokevirtual 338, 3) := by decide +kernel
theorem dX9_fairest_63 : decode cX9_fairest 63 = .ok (.istore 4, 2) := by decide +kernel
theorem dX9_fairest_65 : decode cX9_fairest 65 = .ok (.aload_n 0, 1) := by decide +kernel
theorem dX9_fairest_66 : decode cX9_fairest 66 = .ok (.invokevirtual 347, 3) := by decide +kernel
theorem dX9_fairest_69 : decode cX9_fairest 69 = .ok (.iload_n 1, 1) := by decide +kernel
theorem dX9_fairest_70 : decode cX9_fairest 70 = .ok (.ifCond .le 12, 3) := by decide +kernel
theorem dX9_fairest_73 : decode cX9_fairest 73 = .ok (.iload 4, 2) := by decide +kernel
theorem dX9_fairest_75 : decode cX9_fairest 75 = .ok (.iload_n 2, 1) := by decide +kernel
theorem dX9_fairest_76 : decode cX9_fairest 76 = .ok (.if_icmp .lt 6, 3) := by decide +kernel
theorem dX9_fairest_79 : decode cX9_fairest 79 = .ok (.goto 8, 3) := by decide +kernel
theorem dX9_fairest_82 : decode cX9_fairest 82 = .ok (.iload_n 3, 1) := by decide +kernel
theorem dX9_fairest_83 : decode cX9_fairest 83 = .ok (.istore_n 1, 1) := by decide +kernel
theorem dX9_fairest_84 : decode cX9_fairest 84 = .ok (.iload 4, 2) := by decide +kernel
theorem dX9_fairest_86 : decode cX9_fairest 86 = .ok (.istore_n 2, 1) := by decide +kernel
theorem dX9_fairest_87 : decode cX9_fairest 87 = .ok (.iinc 3 1, 3) := by decide +kernel
theorem dX9_fairest_90 : decode cX9_fairest 90 = .ok (.goto (-79), 3) := by decide +kernel
theorem dX9_fairest_93 : decode cX9_fairest 93 = .ok (.iload_n 1, 1) := by decide +kernel
theorem dX9_fairest_94 : decode cX9_fairest 94 = .ok (.ireturn, 1) := by decide +kernel
theorem dX9_endedWith_0 : decode cX9_endedWith 0 = .ok (.aload_n 0, 1) := by decide +kernel
theorem dX9_endedWith_1 : decode cX9_endedWith 1 = .ok (.invokevirtual 341, 3) := by decide +kernel
theorem dX9_endedWith_4 : decode cX9_endedWith 4 = .ok (.iload_n 2, 1) := by decide +kernel
theorem dX9_endedWith_5 : decode cX9_endedWith 5 = .ok (.iconst (-1), 1) := by decide +kernel
theorem dX9_endedWith_6 : decode cX9_endedWith 6 = .ok (.if_icmp .eq 19, 3) := by decide +kernel
theorem dX9_endedWith_9 : decode cX9_endedWith 9 = .ok (.aload_n 0, 1) := by decide +kernel
theorem dX9_endedWith_10 : decode cX9_endedWith 10 = .ok (.iload_n 1, 1) := by decide +kernel
theorem dX9_endedWith_11 : decode cX9_endedWith 11 = .ok (.iconst 5, 1) := by decide +kernel
theorem dX9_endedWith_12 : decode cX9_endedWith 12 = .ok (.aload_n 0, 1) := by decide +kernel
theorem dX9_endedWith_13 : decode cX9_endedWith 13 = .ok (.iload_n 1, 1) := by decide +kernel
theorem dX9_endedWith_14 : decode cX9_endedWith 14 = .ok (.iconst 5, 1) := by decide +kernel
theorem dX9_endedWith_15 : decode cX9_endedWith 15 = .ok (.invokevirtual 135, 3) := by decide +kernel
theorem dX9_endedWith_18 : decode cX9_endedWith 18 = .ok (.iconst 1, 1) := by decide +kernel
theorem dX9_endedWith_19 : decode cX9_endedWith 19 = .ok (.iload_n 2, 1) := by decide +kernel
theorem dX9_endedWith_20 : decode cX9_endedWith 20 = .ok (.ishl, 1) := by decide +kernel
theorem dX9_endedWith_21 : decode cX9_endedWith 21 = .ok (.ior, 1) := by decide +kernel
theorem dX9_endedWith_22 : decode cX9_endedWith 22 = .ok (.invokevirtual 42, 3) := by decide +kernel
theorem dX9_endedWith_25 : decode cX9_endedWith 25 = .ok (.aload_n 0, 1) := by decide +kernel
theorem dX9_endedWith_26 : decode cX9_endedWith 26 = .ok (.aload_n 0, 1) := by decide +kernel
theorem dX9_endedWith_27 : decode cX9_endedWith 27 = .ok (.sipush 300, 3) := by decide +kernel
theorem dX9_endedWith_30 : decode cX9_endedWith 30 = .ok (.invokevirtual 344, 3) := by decide +kernel
theorem dX9_endedWith_33 : decode cX9_endedWith 33 = .ok (.putfield 350, 3) := by decide +kernel
theorem dX9_endedWith_36 : decode cX9_endedWith 36 = .ok (.aload_n 0, 1) := by decide +kernel
theorem dX9_endedWith_37 : decode cX9_endedWith 37 = .ok (.iconst 1, 1) := by decide +kernel
theorem dX9_endedWith_38 : decode cX9_endedWith 38 = .ok (.invokevirtual 264, 3) := by decide +kernel
theorem dX9_endedWith_41 : decode cX9_endedWith 41 = .ok (.istore_n 3, 1) := by decide +kernel
theorem dX9_endedWith_42 : decode cX9_endedWith 42 = .ok (.aload_n 0, 1) := by decide +kernel
theorem dX9_endedWith_43 : decode cX9_endedWith 43 = .ok (.invokevirtual 347, 3) := by decide +kernel
theorem dX9_endedWith_46 : decode cX9_endedWith 46 = .ok (.iload_n 3, 1) := by decide +kernel
theorem dX9_endedWith_47 : decode cX9_endedWith 47 = .ok (.ireturn, 1) := by decide +kernel
theorem dX9_bestSlot_0 : decode cX9_bestSlot 0 = .ok (.aload_n 0, 1) := by decide +kernel
theorem dX9_bestSlot_1 : decode cX9_bestSlot 1 = .ok (.aload_n 0, 1) := by decide +kernel
theorem dX9_bestSlot_2 : decode cX9_bestSlot 2 = .ok (.iload_n 1, 1) := by decide +kernel
theorem dX9_bestSlot_3 : decode cX9_bestSlot 3 = .ok (.invokevirtual 319, 3) := by decide +kernel
theorem dX9_bestSlot_6 : decode cX9_bestSlot 6 = .ok (.ifCond .eq 7, 3) := by decide +kernel
theorem dX9_bestSlot_9 : decode cX9_bestSlot 9 = .ok (.iconst 0, 1) := by decide +kernel
theorem dX9_bestSlot_10 : decode cX9_bestSlot 10 = .ok (.goto 4, 3) := by decide +kernel
theorem dX9_bestSlot_13 : decode cX9_bestSlot 13 = .ok (.iconst 1, 1) := by decide +kernel
theorem dX9_bestSlot_14 : decode cX9_bestSlot 14 = .ok (.putfield 46, 3) := by decide +kernel
theorem dX9_bestSlot_17 : decode cX9_bestSlot 17 = .ok (.aload_n 0, 1) := by decide +kernel
theorem dX9_bestSlot_18 : decode cX9_bestSlot 18 = .ok (.getfield 46, 3) := by decide +kernel
theorem dX9_bestSlot_21 : decode cX9_bestSlot 21 = .ok (.ifCond .le 5, 3) := by decide +kernel
theorem dX9_bestSlot_24 : decode cX9_bestSlot 24 = .ok (.iconst 0, 1) := by decide +kernel
theorem dX9_bestSlot_25 : decode cX9_bestSlot 25 = .ok (.ireturn, 1) := by decide +kernel
theorem dX9_bestSlot_26 : decode cX9_bestSlot 26 = .ok (.iconst (-1), 1) := by decide +kernel
theorem dX9_bestSlot_27 : decode cX9_bestSlot 27 = .ok (.istore_n 2, 1) := by decide +kernel
theorem dX9_bestSlot_28 : decode cX9_bestSlot 28 = .ok (.aload_n 0, 1) := by decide +kernel
theorem dX9_bestSlot_29 : decode cX9_bestSlot 29 = .ok (.iload_n 1, 1) := by decide +kernel
theorem dX9_bestSlot_30 : decode cX9_bestSlot 30 = .ok (.iconst (-1), 1) := by decide +kernel
theorem dX9_bestSlot_31 : decode cX9_bestSlot 31 = .ok (.invokevirtual 353, 3) := by decide +kernel
theorem dX9_bestSlot_34 : decode cX9_bestSlot 34 = .ok (.istore_n 3, 1) := by decide +kernel
theorem dX9_bestSlot_35 : decode cX9_bestSlot 35 = .ok (.iconst 0, 1) := by decide +kernel
theorem dX9_bestSlot_36 : decode cX9_bestSlot 36 = .ok (.istore 4, 2) := by decide +kernel
theorem dX9_bestSlot_38 : decode cX9_bestSlot 38 = .ok (.iload 4, 2) := by decide +kernel
theorem dX9_bestSlot_40 : decode cX9_bestSlot 40 = .ok (.aload_n 0, 1) := by decide +kernel
theorem dX9_bestSlot_41 : decode cX9_bestSlot 41 = .ok (.getfield 7, 3) := by decide +kernel
theorem dX9_bestSlot_44 : decode cX9_bestSlot 44 = .ok (.iconst 0, 1) := by decide +kernel
theorem dX9_bestSlot_45 : decode cX9_bestSlot 45 = .ok (.iaload, 1) := by decide +kernel
theorem dX9_bestSlot_46 : decode cX9_bestSlot 46 = .ok (.if_icmp .ge 46, 3) := by decide +kernel
theorem dX9_bestSlot_49 : decode cX9_bestSlot 49 = .ok (.aload_n 0, 1) := by decide +kernel
theorem dX9_bestSlot_50 : decode cX9_bestSlot 50 = .ok (.iload_n 1, 1) := by decide +kernel
theorem dX9_bestSlot_51 : decode cX9_bestSlot 51 = .ok (.iload 4, 2) := by decide +kernel
theorem dX9_bestSlot_53 : decode cX9_bestSlot 53 = .ok (.invokevirtual 206, 3) := by decide +kernel
theorem dX9_bestSlot_56 : decode cX9_bestSlot 56 = .ok (.ifCond .eq 6, 3) := by decide +kernel
theorem dX9_bestSlot_59 : decode cX9_bestSlot 59 = .ok (.goto 27, 3) := by decide +kernel
theorem dX9_bestSlot_62 : decode cX9_bestSlot 62 = .ok (.aload_n 0, 1) := by decide +kernel
theorem dX9_bestSlot_63 : decode cX9_bestSlot 63 = .ok (.iload_n 1, 1) := by decide +kernel
theorem dX9_bestSlot_64 : decode cX9_bestSlot 64 = .ok (.iload 4, 2) := by decide +kernel
theorem dX9_bestSlot_66 : decode cX9_bestSlot 66 = .ok (.invokevirtual 353, 3) := by decide +kernel
theorem dX9_bestSlot_69 : decode cX9_bestSlot 69 = .ok (.istore 5, 2) := by decide +kernel
theorem dX9_bestSlot_71 : decode cX9_bestSlot 71 = .ok (.iload 5, 2) := by decide +kernel
theorem dX9_bestSlot_73 : decode cX9_bestSlot 73 = .ok (.iload_n 3, 1) := by decide +kernel
theorem dX9_bestSlot_74 : decode cX9_bestSlot 74 = .ok (.if_icmp .gt 6, 3) := by decide +kernel
theorem dX9_bestSlot_77 : decode cX9_bestSlot 77 = .ok (.goto 9, 3) := by decide +kernel
theorem dX9_bestSlot_80 : decode cX9_bestSlot 80 = .ok (.iload 5, 2) := by decide +kernel
theorem dX9_bestSlot_82 : decode cX9_bestSlot 82 = .ok (.istore_n 3, 1) := by decide +kernel
theorem dX9_bestSlot_83 : decode cX9_bestSlot 83 = .ok (.iload 4, 2) := by decide +kernel
theorem dX9_bestSlot_85 : decode cX9_bestSlot 85 = .ok (.istore_n 2, 1) := by decide +kernel
theorem dX9_bestSlot_86 : decode cX9_bestSlot 86 = .ok (.iinc 4 1, 3) := by decide +kernel
theorem dX9_bestSlot_89 : decode cX9_bestSlot 89 = .ok (.goto (-51), 3) := by decide +kernel
theorem dX9_bestSlot_92 : decode cX9_bestSlot 92 = .ok (.iload_n 2, 1) := by decide +kernel
theorem dX9_bestSlot_93 : decode cX9_bestSlot 93 = .ok (.ireturn, 1) := by decide +kernel
theorem dX9_run_0 : decode cX9_run 0 = .ok (.aload_n 0, 1) := by decide +kernel
theorem dX9_run_1 : decode cX9_run 1 = .ok (.iload_n 1, 1) := by decide +kernel
theorem dX9_run_2 : decode cX9_run 2 = .ok (.iconst 1, 1) := by decide +kernel
theorem dX9_run_3 : decode cX9_run 3 = .ok (.sipush 300, 3) := by decide +kernel
theorem dX9_run_6 : decode cX9_run 6 = .ok (.invokestatic 56, 3) := by decide +kernel
theorem dX9_run_9 : decode cX9_run 9 = .ok (.ifCond .eq 7, 3) := by decide +kernel
theorem dX9_run_12 : decode cX9_run 12 = .ok (.iconst 0, 1) := by decide +kernel
theorem dX9_run_13 : decode cX9_run 13 = .ok (.goto 4, 3) := by decide +kernel
theorem dX9_run_16 : decode cX9_run 16 = .ok (.iconst 1, 1) := by decide +kernel
theorem dX9_run_17 : decode cX9_run 17 = .ok (.putfield 46, 3) := by decide +kernel
theorem dX9_run_20 : decode cX9_run 20 = .ok (.aload_n 0, 1) := by decide +kernel
theorem dX9_run_21 : decode cX9_run 21 = .ok (.getfield 46, 3) := by decide +kernel
theorem dX9_run_24 : decode cX9_run 24 = .ok (.ifCond .le 5, 3) := by decide +kernel
theorem dX9_run_27 : decode cX9_run 27 = .ok (.iconst 0, 1) := by decide +kernel
theorem dX9_run_28 : decode cX9_run 28 = .ok (.ireturn, 1) := by decide +kernel
theorem dX9_run_29 : decode cX9_run 29 = .ok (.aload_n 0, 1) := by decide +kernel
theorem dX9_run_30 : decode cX9_run 30 = .ok (.aload_n 0, 1) := by decide +kernel
theorem dX9_run_31 : decode cX9_run 31 = .ok (.getfield 7, 3) := by decide +kernel
theorem dX9_run_34 : decode cX9_run 34 = .ok (.invokevirtual 60, 3) := by decide +kernel
theorem dX9_run_37 : decode cX9_run 37 = .ok (.aload_n 0, 1) := by decide +kernel
theorem dX9_run_38 : decode cX9_run 38 = .ok (.iload_n 1, 1) := by decide +kernel
theorem dX9_run_39 : decode cX9_run 39 = .ok (.invokevirtual 344, 3) := by decide +kernel
theorem dX9_run_42 : decode cX9_run 42 = .ok (.ireturn, 1) := by decide +kernel
theorem dX9_allow_0 : decode cX9_allow 0 = .ok (.aload_n 0, 1) := by decide +kernel
theorem dX9_allow_1 : decode cX9_allow 1 = .ok (.aload_n 0, 1) := by decide +kernel
theorem dX9_allow_2 : decode cX9_allow 2 = .ok (.iload_n 1, 1) := by decide +kernel
theorem dX9_allow_3 : decode cX9_allow 3 = .ok (.invokevirtual 319, 3) := by decide +kernel
theorem dX9_allow_6 : decode cX9_allow 6 = .ok (.ifCond .eq 15, 3) := by decide +kernel
theorem dX9_allow_9 : decode cX9_allow 9 = .ok (.aload_n 0, 1) := by decide +kernel
theorem dX9_allow_10 : decode cX9_allow 10 = .ok (.iload_n 2, 1) := by decide +kernel
theorem dX9_allow_11 : decode cX9_allow 11 = .ok (.invokevirtual 326, 3) := by decide +kernel
theorem dX9_allow_14 : decode cX9_allow 14 = .ok (.ifCond .eq 7, 3) := by decide +kernel
theorem dX9_allow_17 : decode cX9_allow 17 = .ok (.iconst 0, 1) := by decide +kernel
theorem dX9_allow_18 : decode cX9_allow 18 = .ok (.goto 4, 3) := by decide +kernel
theorem dX9_allow_21 : decode cX9_allow 21 = .ok (.iconst 1, 1) := by decide +kernel
theorem dX9_allow_22 : decode cX9_allow 22 = .ok (.putfield 46, 3) := by decide +kernel
theorem dX9_allow_25 : decode cX9_allow 25 = .ok (.aload_n 0, 1) := by decide +kernel
theorem dX9_allow_26 : decode cX9_allow 26 = .ok (.getfield 46, 3) := by decide +kernel
theorem dX9_allow_29 : decode cX9_allow 29 = .ok (.ifCond .le 5, 3) := by decide +kernel
theorem dX9_allow_32 : decode cX9_allow 32 = .ok (.iconst 0, 1) := by decide +kernel
theorem dX9_allow_33 : decode cX9_allow 33 = .ok (.ireturn, 1) := by decide +kernel
theorem dX9_allow_34 : decode cX9_allow 34 = .ok (.aload_n 0, 1) := by decide +kernel
theorem dX9_allow_35 : decode cX9_allow 35 = .ok (.aload_n 0, 1) := by decide +kernel
theorem dX9_allow_36 : decode cX9_allow 36 = .ok (.getfield 7, 3) := by decide +kernel
theorem dX9_allow_39 : decode cX9_allow 39 = .ok (.invokevirtual 60, 3) := by decide +kernel
theorem dX9_allow_42 : decode cX9_allow 42 = .ok (.aload_n 0, 1) := by decide +kernel
theorem dX9_allow_43 : decode cX9_allow 43 = .ok (.iload_n 1, 1) := by decide +kernel
theorem dX9_allow_44 : decode cX9_allow 44 = .ok (.iconst 5, 1) := by decide +kernel
theorem dX9_allow_45 : decode cX9_allow 45 = .ok (.iload_n 3, 1) := by decide +kernel
theorem dX9_allow_46 : decode cX9_allow 46 = .ok (.ifCond .eq 16, 3) := by decide +kernel
theorem dX9_allow_49 : decode cX9_allow 49 = .ok (.aload_n 0, 1) := by decide +kernel
theorem dX9_allow_50 : decode cX9_allow 50 = .ok (.iload_n 1, 1) := by decide +kernel
theorem dX9_allow_51 : decode cX9_allow 51 = .ok (.iconst 5, 1) := by decide +kernel
theorem dX9_allow_52 : decode cX9_allow 52 = .ok (.invokevirtual 135, 3) := by decide +kernel
theorem dX9_allow_55 : decode cX9_allow 55 = .ok (.iconst 1, 1) := by decide +kernel
theorem dX9_allow_56 : decode cX9_allow 56 = .ok (.iload_n 2, 1) := by decide +kernel
theorem dX9_allow_57 : decode cX9_allow 57 = .ok (.ishl, 1) := by decide +kernel
theorem dX9_allow_58 : decode cX9_allow 58 = .ok (.ior, 1) := by decide +kernel
theorem dX9_allow_59 : decode cX9_allow 59 = .ok (.goto 15, 3) := by decide +kernel
theorem dX9_allow_62 : decode cX9_allow 62 = .ok (.aload_n 0, 1) := by decide +kernel
theorem dX9_allow_63 : decode cX9_allow 63 = .ok (.iload_n 1, 1) := by decide +kernel
theorem dX9_allow_64 : decode cX9_allow 64 = .ok (.iconst 5, 1) := by decide +kernel
theorem dX9_allow_65 : decode cX9_allow 65 = .ok (.invokevirtual 135, 3) := by decide +kernel
theorem dX9_allow_68 : decode cX9_allow 68 = .ok (.iconst 1, 1) := by decide +kernel
theorem dX9_allow_69 : decode cX9_allow 69 = .ok (.iload_n 2, 1) := by decide +kernel
theorem dX9_allow_70 : decode cX9_allow 70 = .ok (.ishl, 1) := by decide +kernel
theorem dX9_allow_71 : decode cX9_allow 71 = .ok (.iconst (-1), 1) := by decide +kernel
theorem dX9_allow_72 : decode cX9_allow 72 = .ok (.ixor, 1) := by decide +kernel
theorem dX9_allow_73 : decode cX9_allow 73 = .ok (.iand, 1) := by decide +kernel
theorem dX9_allow_74 : decode cX9_allow 74 = .ok (.invokevirtual 42, 3) := by decide +kernel
theorem dX9_allow_77 : decode cX9_allow 77 = .ok (.aload_n 0, 1) := by decide +kernel
theorem dX9_allow_78 : decode cX9_allow 78 = .ok (.iload_n 1, 1) := by decide +kernel
theorem dX9_allow_79 : decode cX9_allow 79 = .ok (.iconst 5, 1) := by decide +kernel
theorem dX9_allow_80 : decode cX9_allow 80 = .ok (.invokevirtual 135, 3) := by decide +kernel
theorem dX9_allow_83 : decode cX9_allow 83 = .ok (.ireturn, 1) := by decide +kernel
theorem dX9_setTurn_0 : decode cX9_setTurn 0 = .ok (.aload_n 0, 1) := by decide +kernel
theorem dX9_setTurn_1 : decode cX9_setTurn 1 = .ok (.aload_n 0, 1) := by decide +kernel
theorem dX9_setTurn_2 : decode cX9_setTurn 2 = .ok (.iload_n 1, 1) := by decide +kernel
theorem dX9_setTurn_3 : decode cX9_setTurn 3 = .ok (.invokevirtual 319, 3) := by decide +kernel
theorem dX9_setTurn_6 : decode cX9_setTurn 6 = .ok (.ifCond .ne 7, 3) := by decide +kernel
theorem dX9_setTurn_9 : decode cX9_setTurn 9 = .ok (.iconst 1, 1) := by decide +kernel
theorem dX9_setTurn_10 : decode cX9_setTurn 10 = .ok (.goto 18, 3) := by decide +kernel
theorem dX9_setTurn_13 : decode cX9_setTurn 13 = .ok (.iload_n 2, 1) := by decide +kernel
theorem dX9_setTurn_14 : decode cX9_setTurn 14 = .ok (.iconst 1, 1) := by decide +kernel
theorem dX9_setTurn_15 : decode cX9_setTurn 15 = .ok (.bipush 9, 2) := by decide +kernel
theorem dX9_setTurn_17 : decode cX9_setTurn 17 = .ok (.invokestatic 56, 3) := by decide +kernel
theorem dX9_setTurn_20 : decode cX9_setTurn 20 = .ok (.ifCond .eq 7, 3) := by decide +kernel
theorem dX9_setTurn_23 : decode cX9_setTurn 23 = .ok (.iconst 0, 1) := by decide +kernel
theorem dX9_setTurn_24 : decode cX9_setTurn 24 = .ok (.goto 4, 3) := by decide +kernel
theorem dX9_setTurn_27 : decode cX9_setTurn 27 = .ok (.iconst 2, 1) := by decide +kernel
theorem dX9_setTurn_28 : decode cX9_setTurn 28 = .ok (.putfield 46, 3) := by decide +kernel
theorem dX9_setTurn_31 : decode cX9_setTurn 31 = .ok (.aload_n 0, 1) := by decide +kernel
theorem dX9_setTurn_32 : decode cX9_setTurn 32 = .ok (.getfield 46, 3) := by decide +kernel
theorem dX9_setTurn_35 : decode cX9_setTurn 35 = .ok (.ifCond .le 5, 3) := by decide +kernel
theorem dX9_setTurn_38 : decode cX9_setTurn 38 = .ok (.iconst 0, 1) := by decide +kernel
theorem dX9_setTurn_39 : decode cX9_setTurn 39 = .ok (.ireturn, 1) := by decide +kernel
theorem dX9_setTurn_40 : decode cX9_setTurn 40 = .ok (.aload_n 0, 1) := by decide +kernel
theorem dX9_setTurn_41 : decode cX9_setTurn 41 = .ok (.aload_n 0, 1) := by decide +kernel
theorem dX9_setTurn_42 : decode cX9_setTurn 42 = .ok (.getfield 7, 3) := by decide +kernel
theorem dX9_setTurn_45 : decode cX9_setTurn 45 = .ok (.invokevirtual 60, 3) := by decide +kernel
theorem dX9_setTurn_48 : decode cX9_setTurn 48 = .ok (.aload_n 0, 1) := by decide +kernel
theorem dX9_setTurn_49 : decode cX9_setTurn 49 = .ok (.iload_n 1, 1) := by decide +kernel
theorem dX9_setTurn_50 : decode cX9_setTurn 50 = .ok (.iconst 4, 1) := by decide +kernel
theorem dX9_setTurn_51 : decode cX9_setTurn 51 = .ok (.invokevirtual 135, 3) := by decide +kernel
theorem dX9_setTurn_54 : decode cX9_setTurn 54 = .ok (.istore_n 3, 1) := by decide +kernel
theorem dX9_setTurn_55 : decode cX9_setTurn 55 = .ok (.aload_n 0, 1) := by decide +kernel
theorem dX9_setTurn_56 : decode cX9_setTurn 56 = .ok (.iload_n 1, 1) := by decide +kernel
theorem dX9_setTurn_57 : decode cX9_setTurn 57 = .ok (.iconst 4, 1) := by decide +kernel
theorem dX9_setTurn_58 : decode cX9_setTurn 58 = .ok (.iload_n 2, 1) := by decide +kernel
theorem dX9_setTurn_59 : decode cX9_setTurn 59 = .ok (.invokevirtual 42, 3) := by decide +kernel
theorem dX9_setTurn_62 : decode cX9_setTurn 62 = .ok (.iload_n 3, 1) := by decide +kernel
theorem dX9_setTurn_63 : decode cX9_setTurn 63 = .ok (.ireturn, 1) := by decide +kernel
theorem dX9_put_0 : decode cX9_put 0 = .ok (.aload_n 0, 1) := by decide +kernel
theorem dX9_put_1 : decode cX9_put 1 = .ok (.aload_n 0, 1) := by decide +kernel
theorem dX9_put_2 : decode cX9_put 2 = .ok (.iload_n 1, 1) := by decide +kernel
theorem dX9_put_3 : decode cX9_put 3 = .ok (.invokevirtual 322, 3) := by decide +kernel
theorem dX9_put_6 : decode cX9_put 6 = .ok (.ifCond .ne 7, 3) := by decide +kernel
theorem dX9_put_9 : decode cX9_put 9 = .ok (.iconst 1, 1) := by decide +kernel
theorem dX9_put_10 : decode cX9_put 10 = .ok (.goto 20, 3) := by decide +kernel
theorem dX9_put_13 : decode cX9_put 13 = .ok (.iload_n 2, 1) := by decide +kernel
theorem dX9_put_14 : decode cX9_put 14 = .ok (.ldc_w 356, 3) := by decide +kernel
theorem dX9_put_17 : decode cX9_put 17 = .ok (.ldc 131, 2) := by decide +kernel
theorem dX9_put_19 : decode cX9_put 19 = .ok (.invokestatic 56, 3) := by decide +kernel
theorem dX9_put_22 : decode cX9_put 22 = .ok (.ifCond .eq 7, 3) := by decide +kernel
theorem dX9_put_25 : decode cX9_put 25 = .ok (.iconst 0, 1) := by decide +kernel
theorem dX9_put_26 : decode cX9_put 26 = .ok (.goto 4, 3) := by decide +kernel
theorem dX9_put_29 : decode cX9_put 29 = .ok (.iconst 2, 1) := by decide +kernel
theorem dX9_put_30 : decode cX9_put 30 = .ok (.putfield 46, 3) := by decide +kernel
theorem dX9_put_33 : decode cX9_put 33 = .ok (.aload_n 0, 1) := by decide +kernel
theorem dX9_put_34 : decode cX9_put 34 = .ok (.getfield 46, 3) := by decide +kernel
theorem dX9_put_37 : decode cX9_put 37 = .ok (.ifCond .le 5, 3) := by decide +kernel
theorem dX9_put_40 : decode cX9_put 40 = .ok (.iconst 0, 1) := by decide +kernel
theorem dX9_put_41 : decode cX9_put 41 = .ok (.ireturn, 1) := by decide +kernel
theorem dX9_put_42 : decode cX9_put 42 = .ok (.aload_n 0, 1) := by decide +kernel
theorem dX9_put_43 : decode cX9_put 43 = .ok (.iload_n 1, 1) := by decide +kernel
theorem dX9_put_44 : decode cX9_put 44 = .ok (.iconst 1, 1) := by decide +kernel
theorem dX9_put_45 : decode cX9_put 45 = .ok (.invokevirtual 232, 3) := by decide +kernel
theorem dX9_put_48 : decode cX9_put 48 = .ok (.aload_n 0, 1) := by decide +kernel
theorem dX9_put_49 : decode cX9_put 49 = .ok (.iload_n 1, 1) := by decide +kernel
theorem dX9_put_50 : decode cX9_put 50 = .ok (.iconst 0, 1) := by decide +kernel
theorem dX9_put_51 : decode cX9_put 51 = .ok (.invokevirtual 232, 3) := by decide +kernel
theorem dX9_put_54 : decode cX9_put 54 = .ok (.if_icmp .ne 6, 3) := by decide +kernel
theorem dX9_put_57 : decode cX9_put 57 = .ok (.bipush (-11), 2) := by decide +kernel
theorem dX9_put_59 : decode cX9_put 59 = .ok (.ireturn, 1) := by decide +kernel
theorem dX9_put_60 : decode cX9_put 60 = .ok (.aload_n 0, 1) := by decide +kernel
theorem dX9_put_61 : decode cX9_put 61 = .ok (.aload_n 0, 1) := by decide +kernel
theorem dX9_put_62 : decode cX9_put 62 = .ok (.getfield 7, 3) := by decide +kernel
theorem dX9_put_65 : decode cX9_put 65 = .ok (.invokevirtual 60, 3) := by decide +kernel
theorem dX9_put_68 : decode cX9_put 68 = .ok (.aload_n 0, 1) := by decide +kernel
theorem dX9_put_69 : decode cX9_put 69 = .ok (.iload_n 1, 1) := by decide +kernel
theorem dX9_put_70 : decode cX9_put 70 = .ok (.iload_n 2, 1) := by decide +kernel
theorem dX9_put_71 : decode cX9_put 71 = .ok (.invokevirtual 270, 3) := by decide +kernel
theorem dX9_put_74 : decode cX9_put 74 = .ok (.aload_n 0, 1) := by decide +kernel
theorem dX9_put_75 : decode cX9_put 75 = .ok (.iload_n 1, 1) := by decide +kernel
theorem dX9_put_76 : decode cX9_put 76 = .ok (.iconst 1, 1) := by decide +kernel
theorem dX9_put_77 : decode cX9_put 77 = .ok (.invokevirtual 232, 3) := by decide +kernel
theorem dX9_put_80 : decode cX9_put 80 = .ok (.ireturn, 1) := by decide +kernel
theorem dX9_hand_0 : decode cX9_hand 0 = .ok (.aload_n 0, 1) := by decide +kernel
theorem dX9_hand_1 : decode cX9_hand 1 = .ok (.aload_n 0, 1) := by decide +kernel
theorem dX9_hand_2 : decode cX9_hand 2 = .ok (.iload_n 1, 1) := by decide +kernel
theorem dX9_hand_3 : decode cX9_hand 3 = .ok (.invokevirtual 326, 3) := by decide +kernel
theorem dX9_hand_6 : decode cX9_hand 6 = .ok (.ifCond .eq 15, 3) := by decide +kernel
theorem dX9_hand_9 : decode cX9_hand 9 = .ok (.aload_n 0, 1) := by decide +kernel
theorem dX9_hand_10 : decode cX9_hand 10 = .ok (.iload_n 2, 1) := by decide +kernel
theorem dX9_hand_11 : decode cX9_hand 11 = .ok (.invokevirtual 319, 3) := by decide +kernel
theorem dX9_hand_14 : decode cX9_hand 14 = .ok (.ifCond .eq 7, 3) := by decide +kernel
theorem dX9_hand_17 : decode cX9_hand 17 = .ok (.iconst 0, 1) := by decide +kernel
theorem dX9_hand_18 : decode cX9_hand 18 = .ok (.goto 4, 3) := by decide +kernel
theorem dX9_hand_21 : decode cX9_hand 21 = .ok (.iconst 1, 1) := by decide +kernel
theorem dX9_hand_22 : decode cX9_hand 22 = .ok (.putfield 46, 3) := by decide +kernel
theorem dX9_hand_25 : decode cX9_hand 25 = .ok (.aload_n 0, 1) := by decide +kernel
theorem dX9_hand_26 : decode cX9_hand 26 = .ok (.getfield 46, 3) := by decide +kernel
theorem dX9_hand_29 : decode cX9_hand 29 = .ok (.ifCond .le 5, 3) := by decide +kernel
theorem dX9_hand_32 : decode cX9_hand 32 = .ok (.iconst 0, 1) := by decide +kernel
theorem dX9_hand_33 : decode cX9_hand 33 = .ok (.ireturn, 1) := by decide +kernel
theorem dX9_hand_34 : decode cX9_hand 34 = .ok (.aload_n 0, 1) := by decide +kernel
theorem dX9_hand_35 : decode cX9_hand 35 = .ok (.iload_n 1, 1) := by decide +kernel
theorem dX9_hand_36 : decode cX9_hand 36 = .ok (.invokevirtual 216, 3) := by decide +kernel
theorem dX9_hand_39 : decode cX9_hand 39 = .ok (.istore_n 3, 1) := by decide +kernel
theorem dX9_hand_40 : decode cX9_hand 40 = .ok (.iload_n 3, 1) := by decide +kernel
theorem dX9_hand_41 : decode cX9_hand 41 = .ok (.iconst (-1), 1) := by decide +kernel
theorem dX9_hand_42 : decode cX9_hand 42 = .ok (.if_icmp .ne 6, 3) := by decide +kernel
theorem dX9_hand_45 : decode cX9_hand 45 = .ok (.bipush (-12), 2) := by decide +kernel
theorem dX9_hand_47 : decode cX9_hand 47 = .ok (.ireturn, 1) := by decide +kernel
theorem dX9_hand_48 : decode cX9_hand 48 = .ok (.aload_n 0, 1) := by decide +kernel
theorem dX9_hand_49 : decode cX9_hand 49 = .ok (.iload_n 2, 1) := by decide +kernel
theorem dX9_hand_50 : decode cX9_hand 50 = .ok (.invokevirtual 212, 3) := by decide +kernel
theorem dX9_hand_53 : decode cX9_hand 53 = .ok (.iconst (-1), 1) := by decide +kernel
theorem dX9_hand_54 : decode cX9_hand 54 = .ok (.if_icmp .eq 6, 3) := by decide +kernel
theorem dX9_hand_57 : decode cX9_hand 57 = .ok (.bipush (-13), 2) := by decide +kernel
theorem dX9_hand_59 : decode cX9_hand 59 = .ok (.ireturn, 1) := by decide +kernel
theorem dX9_hand_60 : decode cX9_hand 60 = .ok (.aload_n 0, 1) := by decide +kernel
theorem dX9_hand_61 : decode cX9_hand 61 = .ok (.aload_n 0, 1) := by decide +kernel
theorem dX9_hand_62 : decode cX9_hand 62 = .ok (.getfield 7, 3) := by decide +kernel
theorem dX9_hand_65 : decode cX9_hand 65 = .ok (.invokevirtual 60, 3) := by decide +kernel
theorem dX9_hand_68 : decode cX9_hand 68 = .ok (.aload_n 0, 1) := by decide +kernel
theorem dX9_hand_69 : decode cX9_hand 69 = .ok (.iload_n 3, 1) := by decide +kernel
theorem dX9_hand_70 : decode cX9_hand 70 = .ok (.iconst 2, 1) := by decide +kernel
theorem dX9_hand_71 : decode cX9_hand 71 = .ok (.iload_n 2, 1) := by decide +kernel
theorem dX9_hand_72 : decode cX9_hand 72 = .ok (.invokevirtual 219, 3) := by decide +kernel
theorem dX9_hand_75 : decode cX9_hand 75 = .ok (.aload_n 0, 1) := by decide +kernel
theorem dX9_hand_76 : decode cX9_hand 76 = .ok (.iload_n 3, 1) := by decide +kernel
theorem dX9_hand_77 : decode cX9_hand 77 = .ok (.iconst 3, 1) := by decide +kernel
theorem dX9_hand_78 : decode cX9_hand 78 = .ok (.iconst (-1), 1) := by decide +kernel
theorem dX9_hand_79 : decode cX9_hand 79 = .ok (.invokevirtual 219, 3) := by decide +kernel
theorem dX9_hand_82 : decode cX9_hand 82 = .ok (.iload_n 3, 1) := by decide +kernel
theorem dX9_hand_83 : decode cX9_hand 83 = .ok (.ireturn, 1) := by decide +kernel
theorem dX9_kill_0 : decode cX9_kill 0 = .ok (.aload_n 0, 1) := by decide +kernel
theorem dX9_kill_1 : decode cX9_kill 1 = .ok (.aload_n 0, 1) := by decide +kernel
theorem dX9_kill_2 : decode cX9_kill 2 = .ok (.iload_n 1, 1) := by decide +kernel
theorem dX9_kill_3 : decode cX9_kill 3 = .ok (.invokevirtual 319, 3) := by decide +kernel
theorem dX9_kill_6 : decode cX9_kill 6 = .ok (.ifCond .eq 7, 3) := by decide +kernel
theorem dX9_kill_9 : decode cX9_kill 9 = .ok (.iconst 0, 1) := by decide +kernel
theorem dX9_kill_10 : decode cX9_kill 10 = .ok (.goto 4, 3) := by decide +kernel
theorem dX9_kill_13 : decode cX9_kill 13 = .ok (.iconst 1, 1) := by decide +kernel
theorem dX9_kill_14 : decode cX9_kill 14 = .ok (.putfield 46, 3) := by decide +kernel
theorem dX9_kill_17 : decode cX9_kill 17 = .ok (.aload_n 0, 1) := by decide +kernel
theorem dX9_kill_18 : decode cX9_kill 18 = .ok (.getfield 46, 3) := by decide +kernel
theorem dX9_kill_21 : decode cX9_kill 21 = .ok (.ifCond .le 5, 3) := by decide +kernel
theorem dX9_kill_24 : decode cX9_kill 24 = .ok (.iconst 0, 1) := by decide +kernel
theorem dX9_kill_25 : decode cX9_kill 25 = .ok (.ireturn, 1) := by decide +kernel
theorem dX9_kill_26 : decode cX9_kill 26 = .ok (.aload_n 0, 1) := by decide +kernel
theorem dX9_kill_27 : decode cX9_kill 27 = .ok (.iload_n 1, 1) := by decide +kernel
theorem dX9_kill_28 : decode cX9_kill 28 = .ok (.invokevirtual 252, 3) := by decide +kernel
theorem dX9_kill_31 : decode cX9_kill 31 = .ok (.ifCond .ne 6, 3) := by decide +kernel
theorem dX9_kill_34 : decode cX9_kill 34 = .ok (.bipush (-14), 2) := by decide +kernel
theorem dX9_kill_36 : decode cX9_kill 36 = .ok (.ireturn, 1) := by decide +kernel
theorem dX9_kill_37 : decode cX9_kill 37 = .ok (.aload_n 0, 1) := by decide +kernel
theorem dX9_kill_38 : decode cX9_kill 38 = .ok (.aload_n 0, 1) := by decide +kernel
theorem dX9_kill_39 : decode cX9_kill 39 = .ok (.getfield 7, 3) := by decide +kernel
theorem dX9_kill_42 : decode cX9_kill 42 = .ok (.invokevirtual 60, 3) := by decide +kernel
theorem dX9_kill_45 : decode cX9_kill 45 = .ok (.aload_n 0, 1) := by decide +kernel
theorem dX9_kill_46 : decode cX9_kill 46 = .ok (.iload_n 1, 1) := by decide +kernel
theorem dX9_kill_47 : decode cX9_kill 47 = .ok (.iconst 0, 1) := by decide +kernel
theorem dX9_kill_48 : decode cX9_kill 48 = .ok (.iconst 1, 1) := by decide +kernel
theorem dX9_kill_49 : decode cX9_kill 49 = .ok (.invokevirtual 42, 3) := by decide +kernel
theorem dX9_kill_52 : decode cX9_kill 52 = .ok (.aload_n 0, 1) := by decide +kernel
theorem dX9_kill_53 : decode cX9_kill 53 = .ok (.iload_n 1, 1) := by decide +kernel
theorem dX9_kill_54 : decode cX9_kill 54 = .ok (.invokevirtual 212, 3) := by decide +kernel
theorem dX9_kill_57 : decode cX9_kill 57 = .ok (.istore_n 2, 1) := by decide +kernel
theorem dX9_kill_58 : decode cX9_kill 58 = .ok (.iconst 0, 1) := by decide +kernel
theorem dX9_kill_59 : decode cX9_kill 59 = .ok (.istore_n 3, 1) := by decide +kernel
theorem dX9_kill_60 : decode cX9_kill 60 = .ok (.iload_n 3, 1) := by decide +kernel
theorem dX9_kill_61 : decode cX9_kill 61 = .ok (.aload_n 0, 1) := by decide +kernel
theorem dX9_kill_62 : decode cX9_kill 62 = .ok (.getfield 7, 3) := by decide +kernel
theorem dX9_kill_65 : decode cX9_kill 65 = .ok (.iconst 0, 1) := by decide +kernel
theorem dX9_kill_66 : decode cX9_kill 66 = .ok (.iaload, 1) := by decide +kernel
theorem dX9_kill_67 : decode cX9_kill 67 = .ok (.if_icmp .ge 18, 3) := by decide +kernel
theorem dX9_kill_70 : decode cX9_kill 70 = .ok (.aload_n 0, 1) := by decide +kernel
theorem dX9_kill_71 : decode cX9_kill 71 = .ok (.iload_n 3, 1) := by decide +kernel
theorem dX9_kill_72 : decode cX9_kill 72 = .ok (.invokevirtual 216, 3) := by decide +kernel
theorem dX9_kill_75 : decode cX9_kill 75 = .ok (.iconst (-1), 1) := by decide +kernel
theorem dX9_kill_76 : decode cX9_kill 76 = .ok (.if_icmp .eq 9, 3) := by decide +kernel
theorem dX9_kill_79 : decode cX9_kill 79 = .ok (.iinc 3 1, 3) := by decide +kernel
theorem dX9_kill_82 : decode cX9_kill 82 = .ok (.goto (-22), 3) := by decide +kernel
theorem dX9_kill_85 : decode cX9_kill 85 = .ok (.iload_n 2, 1) := by decide +kernel
theorem dX9_kill_86 : decode cX9_kill 86 = .ok (.iconst (-1), 1) := by decide +kernel
theorem dX9_kill_87 : decode cX9_kill 87 = .ok (.if_icmp .eq 13, 3) := by decide +kernel
theorem dX9_kill_90 : decode cX9_kill 90 = .ok (.iload_n 3, 1) := by decide +kernel
theorem dX9_kill_91 : decode cX9_kill 91 = .ok (.aload_n 0, 1) := by decide +kernel
theorem dX9_kill_92 : decode cX9_kill 92 = .ok (.getfield 7, 3) := by decide +kernel
theorem dX9_kill_95 : decode cX9_kill 95 = .ok (.iconst 0, 1) := by decide +kernel
theorem dX9_kill_96 : decode cX9_kill 96 = .ok (.iaload, 1) := by decide +kernel
theorem dX9_kill_97 : decode cX9_kill 97 = .ok (.if_icmp .ne 5, 3) := by decide +kernel
theorem dX9_kill_100 : decode cX9_kill 100 = .ok (.iconst (-1), 1) := by decide +kernel
theorem dX9_kill_101 : decode cX9_kill 101 = .ok (.ireturn, 1) := by decide +kernel
theorem dX9_kill_102 : decode cX9_kill 102 = .ok (.aload_n 0, 1) := by decide +kernel
theorem dX9_kill_103 : decode cX9_kill 103 = .ok (.iload_n 2, 1) := by decide +kernel
theorem dX9_kill_104 : decode cX9_kill 104 = .ok (.iconst 2, 1) := by decide +kernel
theorem dX9_kill_105 : decode cX9_kill 105 = .ok (.iconst (-1), 1) := by decide +kernel
theorem dX9_kill_106 : decode cX9_kill 106 = .ok (.invokevirtual 219, 3) := by decide +kernel
theorem dX9_kill_109 : decode cX9_kill 109 = .ok (.aload_n 0, 1) := by decide +kernel
theorem dX9_kill_110 : decode cX9_kill 110 = .ok (.iload_n 2, 1) := by decide +kernel
theorem dX9_kill_111 : decode cX9_kill 111 = .ok (.iconst 3, 1) := by decide +kernel
theorem dX9_kill_112 : decode cX9_kill 112 = .ok (.iload_n 3, 1) := by decide +kernel
theorem dX9_kill_113 : decode cX9_kill 113 = .ok (.invokevirtual 219, 3) := by decide +kernel
theorem dX9_kill_116 : decode cX9_kill 116 = .ok (.iload_n 3, 1) := by decide +kernel
theorem dX9_kill_117 : decode cX9_kill 117 = .ok (.ireturn, 1) := by decide +kernel
theorem dX9_wake_0 : decode cX9_wake 0 = .ok (.aload_n 0, 1) := by decide +kernel
theorem dX9_wake_1 : decode cX9_wake 1 = .ok (.aload_n 0, 1) := by decide +kernel
theorem dX9_wake_2 : decode cX9_wake 2 = .ok (.iload_n 1, 1) := by decide +kernel
theorem dX9_wake_3 : decode cX9_wake 3 = .ok (.invokevirtual 319, 3) := by decide +kernel
theorem dX9_wake_6 : decode cX9_wake 6 = .ok (.ifCond .eq 7, 3) := by decide +kernel
theorem dX9_wake_9 : decode cX9_wake 9 = .ok (.iconst 0, 1) := by decide +kernel
theorem dX9_wake_10 : decode cX9_wake 10 = .ok (.goto 4, 3) := by decide +kernel
theorem dX9_wake_13 : decode cX9_wake 13 = .ok (.iconst 1, 1) := by decide +kernel
theorem dX9_wake_14 : decode cX9_wake 14 = .ok (.putfield 46, 3) := by decide +kernel
theorem dX9_wake_17 : decode cX9_wake 17 = .ok (.aload_n 0, 1) := by decide +kernel
theorem dX9_wake_18 : decode cX9_wake 18 = .ok (.getfield 46, 3) := by decide +kernel
theorem dX9_wake_21 : decode cX9_wake 21 = .ok (.ifCond .le 5, 3) := by decide +kernel
theorem dX9_wake_24 : decode cX9_wake 24 = .ok (.iconst 0, 1) := by decide +kernel
theorem dX9_wake_25 : decode cX9_wake 25 = .ok (.ireturn, 1) := by decide +kernel
theorem dX9_wake_26 : decode cX9_wake 26 = .ok (.aload_n 0, 1) := by decide +kernel
theorem dX9_wake_27 : decode cX9_wake 27 = .ok (.iload_n 1, 1) := by decide +kernel
theorem dX9_wake_28 : decode cX9_wake 28 = .ok (.invokevirtual 252, 3) := by decide +kernel
theorem dX9_wake_31 : decode cX9_wake 31 = .ok (.ifCond .eq 6, 3) := by decide +kernel
theorem dX9_wake_34 : decode cX9_wake 34 = .ok (.bipush (-15), 2) := by decide +kernel
theorem dX9_wake_36 : decode cX9_wake 36 = .ok (.ireturn, 1) := by decide +kernel
theorem dX9_wake_37 : decode cX9_wake 37 = .ok (.aload_n 0, 1) := by decide +kernel
theorem dX9_wake_38 : decode cX9_wake 38 = .ok (.aload_n 0, 1) := by decide +kernel
theorem dX9_wake_39 : decode cX9_wake 39 = .ok (.getfield 7, 3) := by decide +kernel
theorem dX9_wake_42 : decode cX9_wake 42 = .ok (.invokevirtual 60, 3) := by decide +kernel
theorem dX9_wake_45 : decode cX9_wake 45 = .ok (.aload_n 0, 1) := by decide +kernel
theorem dX9_wake_46 : decode cX9_wake 46 = .ok (.iload_n 1, 1) := by decide +kernel
theorem dX9_wake_47 : decode cX9_wake 47 = .ok (.iconst 0, 1) := by decide +kernel
theorem dX9_wake_48 : decode cX9_wake 48 = .ok (.invokevirtual 135, 3) := by decide +kernel
theorem dX9_wake_51 : decode cX9_wake 51 = .ok (.istore_n 2, 1) := by decide +kernel
theorem dX9_wake_52 : decode cX9_wake 52 = .ok (.aload_n 0, 1) := by decide +kernel
theorem dX9_wake_53 : decode cX9_wake 53 = .ok (.iload_n 1, 1) := by decide +kernel
theorem dX9_wake_54 : decode cX9_wake 54 = .ok (.iconst 0, 1) := by decide +kernel
theorem dX9_wake_55 : decode cX9_wake 55 = .ok (.iconst 0, 1) := by decide +kernel
theorem dX9_wake_56 : decode cX9_wake 56 = .ok (.invokevirtual 42, 3) := by decide +kernel
theorem dX9_wake_59 : decode cX9_wake 59 = .ok (.aload_n 0, 1) := by decide +kernel
theorem dX9_wake_60 : decode cX9_wake 60 = .ok (.iload_n 1, 1) := by decide +kernel
theorem dX9_wake_61 : decode cX9_wake 61 = .ok (.iconst 2, 1) := by decide +kernel
theorem dX9_wake_62 : decode cX9_wake 62 = .ok (.iconst 0, 1) := by decide +kernel
theorem dX9_wake_63 : decode cX9_wake 63 = .ok (.invokevirtual 42, 3) := by decide +kernel
theorem dX9_wake_66 : decode cX9_wake 66 = .ok (.aload_n 0, 1) := by decide +kernel
theorem dX9_wake_67 : decode cX9_wake 67 = .ok (.iload_n 1, 1) := by decide +kernel
theorem dX9_wake_68 : decode cX9_wake 68 = .ok (.iconst 1, 1) := by decide +kernel
theorem dX9_wake_69 : decode cX9_wake 69 = .ok (.iconst 0, 1) := by decide +kernel
theorem dX9_wake_70 : decode cX9_wake 70 = .ok (.invokevirtual 42, 3) := by decide +kernel
theorem dX9_wake_73 : decode cX9_wake 73 = .ok (.iload_n 2, 1) := by decide +kernel
theorem dX9_wake_74 : decode cX9_wake 74 = .ok (.ireturn, 1) := by decide +kernel
theorem dX9_writes_0 : decode cX9_writes 0 = .ok (.aload_n 0, 1) := by decide +kernel
theorem dX9_writes_1 : decode cX9_writes 1 = .ok (.getfield 36, 3) := by decide +kernel
theorem dX9_writes_4 : decode cX9_writes 4 = .ok (.aload_n 0, 1) := by decide +kernel
theorem dX9_writes_5 : decode cX9_writes 5 = .ok (.getfield 357, 3) := by decide +kernel
theorem dX9_writes_8 : decode cX9_writes 8 = .ok (.iload_n 1, 1) := by decide +kernel
theorem dX9_writes_9 : decode cX9_writes 9 = .ok (.iastore, 1) := by decide +kernel
theorem dX9_writes_10 : decode cX9_writes 10 = .ok (.aload_n 0, 1) := by decide +kernel
theorem dX9_writes_11 : decode cX9_writes 11 = .ok (.dup, 1) := by decide +kernel
theorem dX9_writes_12 : decode cX9_writes 12 = .ok (.getfield 357, 3) := by decide +kernel
theorem dX9_writes_15 : decode cX9_writes 15 = .ok (.iconst 1, 1) := by decide +kernel
theorem dX9_writes_16 : decode cX9_writes 16 = .ok (.iadd, 1) := by decide +kernel
theorem dX9_writes_17 : decode cX9_writes 17 = .ok (.putfield 357, 3) := by decide +kernel
theorem dX9_writes_20 : decode cX9_writes 20 = .ok (.return_, 1) := by decide +kernel
theorem dX9_writesNumber_0 : decode cX9_writesNumber 0 = .ok (.iload_n 1, 1) := by decide +kernel
theorem dX9_writesNumber_1 : decode cX9_writesNumber 1 = .ok (.ifCond .ge 9, 3) := by decide +kernel
theorem dX9_writesNumber_4 : decode cX9_writesNumber 4 = .ok (.aload_n 0, 1) := by decide +kernel
theorem dX9_writesNumber_5 : decode cX9_writesNumber 5 = .ok (.bipush 45, 2) := by decide +kernel
theorem dX9_writesNumber_7 : decode cX9_writesNumber 7 = .ok (.invokevirtual 360, 3) := by decide +kernel
theorem dX9_writesNumber_10 : decode cX9_writesNumber 10 = .ok (.iload_n 1, 1) := by decide +kernel
theorem dX9_writesNumber_11 : decode cX9_writesNumber 11 = .ok (.ifCond .ge 8, 3) := by decide +kernel
theorem dX9_writesNumber_14 : decode cX9_writesNumber 14 = .ok (.iload_n 1, 1) := by decide +kernel
theorem dX9_writesNumber_15 : decode cX9_writesNumber 15 = .ok (.ineg, 1) := by decide +kernel
theorem dX9_writesNumber_16 : decode cX9_writesNumber 16 = .ok (.goto 4, 3) := by decide +kernel
theorem dX9_writesNumber_19 : decode cX9_writesNumber 19 = .ok (.iload_n 1, 1) := by decide +kernel
theorem dX9_writesNumber_20 : decode cX9_writesNumber 20 = .ok (.istore_n 2, 1) := by decide +kernel
theorem dX9_writesNumber_21 : decode cX9_writesNumber 21 = .ok (.iload_n 2, 1) := by decide +kernel
theorem dX9_writesNumber_22 : decode cX9_writesNumber 22 = .ok (.bipush 9, 2) := by decide +kernel
theorem dX9_writesNumber_24 : decode cX9_writesNumber 24 = .ok (.if_icmp .le 11, 3) := by decide +kernel
theorem dX9_writesNumber_27 : decode cX9_writesNumber 27 = .ok (.aload_n 0, 1) := by decide +kernel
theorem dX9_writesNumber_28 : decode cX9_writesNumber 28 = .ok (.iload_n 2, 1) := by decide +kernel
theorem dX9_writesNumber_29 : decode cX9_writesNumber 29 = .ok (.bipush 10, 2) := by decide +kernel
theorem dX9_writesNumber_31 : decode cX9_writesNumber 31 = .ok (.idiv, 1) := by decide +kernel
theorem dX9_writesNumber_32 : decode cX9_writesNumber 32 = .ok (.invokevirtual 363, 3) := by decide +kernel
theorem dX9_writesNumber_35 : decode cX9_writesNumber 35 = .ok (.aload_n 0, 1) := by decide +kernel
theorem dX9_writesNumber_36 : decode cX9_writesNumber 36 = .ok (.bipush 48, 2) := by decide +kernel
theorem dX9_writesNumber_38 : decode cX9_writesNumber 38 = .ok (.iload_n 2, 1) := by decide +kernel
theorem dX9_writesNumber_39 : decode cX9_writesNumber 39 = .ok (.bipush 10, 2) := by decide +kernel
theorem dX9_writesNumber_41 : decode cX9_writesNumber 41 = .ok (.irem, 1) := by decide +kernel
theorem dX9_writesNumber_42 : decode cX9_writesNumber 42 = .ok (.iadd, 1) := by decide +kernel
theorem dX9_writesNumber_43 : decode cX9_writesNumber 43 = .ok (.invokevirtual 360, 3) := by decide +kernel
theorem dX9_writesNumber_46 : decode cX9_writesNumber 46 = .ok (.return_, 1) := by decide +kernel
theorem dX9_writeStacks_0 : decode cX9_writeStacks 0 = .ok (.aload_n 0, 1) := by decide +kernel
theorem dX9_writeStacks_1 : decode cX9_writeStacks 1 = .ok (.iconst 0, 1) := by decide +kernel
theorem dX9_writeStacks_2 : decode cX9_writeStacks 2 = .ok (.putfield 46, 3) := by decide +kernel
theorem dX9_writeStacks_5 : decode cX9_writeStacks 5 = .ok (.aload_n 0, 1) := by decide +kernel
theorem dX9_writeStacks_6 : decode cX9_writeStacks 6 = .ok (.iconst 0, 1) := by decide +kernel
theorem dX9_writeStacks_7 : decode cX9_writeStacks 7 = .ok (.putfield 357, 3) := by decide +kernel
theorem dX9_writeStacks_10 : decode cX9_writeStacks 10 = .ok (.iconst 0, 1) := by decide +kernel
theorem dX9_writeStacks_11 : decode cX9_writeStacks 11 = .ok (.istore_n 1, 1) := by decide +kernel
theorem dX9_writeStacks_12 : decode cX9_writeStacks 12 = .ok (.iload_n 1, 1) := by decide +kernel
theorem dX9_writeStacks_13 : decode cX9_writeStacks 13 = .ok (.aload_n 0, 1) := by decide +kernel
theorem dX9_writeStacks_14 : decode cX9_writeStacks 14 = .ok (.getfield 7, 3) := by decide +kernel
theorem dX9_writeStacks_17 : decode cX9_writeStacks 17 = .ok (.iconst 2, 1) := by decide +kernel
theorem dX9_writeStacks_18 : decode cX9_writeStacks 18 = .ok (.iaload, 1) := by decide +kernel
theorem dX9_writeStacks_19 : decode cX9_writeStacks 19 = .ok (.if_icmp .ge 141, 3) := by decide +kernel
theorem dX9_writeStacks_22 : decode cX9_writeStacks 22 = .ok (.iload_n 1, 1) := by decide +kernel
theorem dX9_writeStacks_23 : decode cX9_writeStacks 23 = .ok (.ifCond .le 9, 3) := by decide +kernel
theorem dX9_writeStacks_26 : decode cX9_writeStacks 26 = .ok (.aload_n 0, 1) := by decide +kernel
theorem dX9_writeStacks_27 : decode cX9_writeStacks 27 = .ok (.bipush 32, 2) := by decide +kernel
theorem dX9_writeStacks_29 : decode cX9_writeStacks 29 = .ok (.invokevirtual 360, 3) := by decide +kernel
theorem dX9_writeStacks_32 : decode cX9_writeStacks 32 = .ok (.iconst 0, 1) := by decide +kernel
theorem dX9_writeStacks_33 : decode cX9_writeStacks 33 = .ok (.istore_n 2, 1) := by decide +kernel
theorem dX9_writeStacks_34 : decode cX9_writeStacks 34 = .ok (.iload_n 2, 1) := by decide +kernel
theorem dX9_writeStacks_35 : decode cX9_writeStacks 35 = .ok (.aload_n 0, 1) := by decide +kernel
theorem dX9_writeStacks_36 : decode cX9_writeStacks 36 = .ok (.iload_n 1, 1) := by decide +kernel
theorem dX9_writeStacks_37 : decode cX9_writeStacks 37 = .ok (.iconst 1, 1) := by decide +kernel
theorem dX9_writeStacks_38 : decode cX9_writeStacks 38 = .ok (.invokevirtual 232, 3) := by decide +kernel
theorem dX9_writeStacks_41 : decode cX9_writeStacks 41 = .ok (.if_icmp .ge 31, 3) := by decide +kernel
theorem dX9_writeStacks_44 : decode cX9_writeStacks 44 = .ok (.iload_n 2, 1) := by decide +kernel
theorem dX9_writeStacks_45 : decode cX9_writeStacks 45 = .ok (.ifCond .le 9, 3) := by decide +kernel
theorem dX9_writeStacks_48 : decode cX9_writeStacks 48 = .ok (.aload_n 0, 1) := by decide +kernel
theorem dX9_writeStacks_49 : decode cX9_writeStacks 49 = .ok (.bipush 44, 2) := by decide +kernel
theorem dX9_writeStacks_51 : decode cX9_writeStacks 51 = .ok (.invokevirtual 360, 3) := by decide +kernel
theorem dX9_writeStacks_54 : decode cX9_writeStacks 54 = .ok (.aload_n 0, 1) := by decide +kernel
theorem dX9_writeStacks_55 : decode cX9_writeStacks 55 = .ok (.aload_n 0, 1) := by decide +kernel
theorem dX9_writeStacks_56 : decode cX9_writeStacks 56 = .ok (.iload_n 1, 1) := by decide +kernel
theorem dX9_writeStacks_57 : decode cX9_writeStacks 57 = .ok (.iconst 5, 1) := by decide +kernel
theorem dX9_writeStacks_58 : decode cX9_writeStacks 58 = .ok (.iload_n 2, 1) := by decide +kernel
theorem dX9_writeStacks_59 : decode cX9_writeStacks 59 = .ok (.iadd, 1) := by decide +kernel
theorem dX9_writeStacks_60 : decode cX9_writeStacks 60 = .ok (.invokevirtual 232, 3) := by decide +kernel
theorem dX9_writeStacks_63 : decode cX9_writeStacks 63 = .ok (.invokevirtual 363, 3) := by decide +kernel
theorem dX9_writeStacks_66 : decode cX9_writeStacks 66 = .ok (.iinc 2 1, 3) := by decide +kernel
theorem dX9_writeStacks_69 : decode cX9_writeStacks 69 = .ok (.goto (-35), 3) := by decide +kernel
theorem dX9_writeStacks_72 : decode cX9_writeStacks 72 = .ok (.aload_n 0, 1) := by decide +kernel
theorem dX9_writeStacks_73 : decode cX9_writeStacks 73 = .ok (.iload_n 1, 1) := by decide +kernel
theorem dX9_writeStacks_74 : decode cX9_writeStacks 74 = .ok (.iconst 2, 1) := by decide +kernel
theorem dX9_writeStacks_75 : decode cX9_writeStacks 75 = .ok (.invokevirtual 232, 3) := by decide +kernel
theorem dX9_writeStacks_78 : decode cX9_writeStacks 78 = .ok (.istore_n 2, 1) := by decide +kernel
theorem dX9_writeStacks_79 : decode cX9_writeStacks 79 = .ok (.aload_n 0, 1) := by decide +kernel
theorem dX9_writeStacks_80 : decode cX9_writeStacks 80 = .ok (.iload_n 2, 1) := by decide +kernel
theorem dX9_writeStacks_81 : decode cX9_writeStacks 81 = .ok (.iconst (-1), 1) := by decide +kernel
theorem dX9_writeStacks_82 : decode cX9_writeStacks 82 = .ok (.if_icmp .ne 8, 3) := by decide +kernel
theorem dX9_writeStacks_85 : decode cX9_writeStacks 85 = .ok (.bipush 35, 2) := by decide +kernel
theorem dX9_writeStacks_87 : decode cX9_writeStacks 87 = .ok (.goto 5, 3) := by decide +kernel
theorem dX9_writeStacks_90 : decode cX9_writeStacks 90 = .ok (.bipush 64, 2) := by decide +kernel
theorem dX9_writeStacks_92 : decode cX9_writeStacks 92 = .ok (.invokevirtual 360, 3) := by decide +kernel
theorem dX9_writeStacks_95 : decode cX9_writeStacks 95 = .ok (.iload_n 2, 1) := by decide +kernel
theorem dX9_writeStacks_96 : decode cX9_writeStacks 96 = .ok (.iconst (-1), 1) := by decide +kernel
theorem dX9_writeStacks_97 : decode cX9_writeStacks 97 = .ok (.if_icmp .ne 13, 3) := by decide +kernel
theorem dX9_writeStacks_100 : decode cX9_writeStacks 100 = .ok (.aload_n 0, 1) := by decide +kernel
theorem dX9_writeStacks_101 : decode cX9_writeStacks 101 = .ok (.aload_n 0, 1) := by decide +kernel
theorem dX9_writeStacks_102 : decode cX9_writeStacks 102 = .ok (.iload_n 1, 1) := by decide +kernel
theorem dX9_writeStacks_103 : decode cX9_writeStacks 103 = .ok (.iconst 3, 1) := by decide +kernel
theorem dX9_writeStacks_104 : decode cX9_writeStacks 104 = .ok (.invokevirtual 232, 3) := by decide +kernel
theorem dX9_writeStacks_107 : decode cX9_writeStacks 107 = .ok (.invokevirtual 363, 3) := by decide +kernel
theorem dX9_writeStacks_110 : decode cX9_writeStacks 110 = .ok (.iconst 0, 1) := by decide +kernel
theorem dX9_writeStacks_111 : decode cX9_writeStacks 111 = .ok (.istore_n 3, 1) := by decide +kernel
theorem dX9_writeStacks_112 : decode cX9_writeStacks 112 = .ok (.iload_n 2, 1) := by decide +kernel
theorem dX9_writeStacks_113 : decode cX9_writeStacks 113 = .ok (.iconst (-1), 1) := by decide +kernel
theorem dX9_writeStacks_114 : decode cX9_writeStacks 114 = .ok (.if_icmp .eq 40, 3) := by decide +kernel
theorem dX9_writeStacks_117 : decode cX9_writeStacks 117 = .ok (.iload_n 3, 1) := by decide +kernel
theorem dX9_writeStacks_118 : decode cX9_writeStacks 118 = .ok (.bipush 8, 2) := by decide +kernel
theorem dX9_writeStacks_120 : decode cX9_writeStacks 120 = .ok (.if_icmp .ge 34, 3) := by decide +kernel
theorem dX9_writeStacks_123 : decode cX9_writeStacks 123 = .ok (.aload_n 0, 1) := by decide +kernel
theorem dX9_writeStacks_124 : decode cX9_writeStacks 124 = .ok (.iload_n 2, 1) := by decide +kernel
theorem dX9_writeStacks_125 : decode cX9_writeStacks 125 = .ok (.bipush 10, 2) := by decide +kernel
theorem dX9_writeStacks_127 : decode cX9_writeStacks 127 = .ok (.iload_n 3, 1) := by decide +kernel
theorem dX9_writeStacks_128 : decode cX9_writeStacks 128 = .ok (.iadd, 1) := by decide +kernel
theorem dX9_writeStacks_129 : decode cX9_writeStacks 129 = .ok (.invokevirtual 135, 3) := by decide +kernel
theorem dX9_writeStacks_132 : decode cX9_writeStacks 132 = .ok (.ifCond .le 22, 3) := by decide +kernel
theorem dX9_writeStacks_135 : decode cX9_writeStacks 135 = .ok (.aload_n 0, 1) := by decide +kernel
theorem dX9_writeStacks_136 : decode cX9_writeStacks 136 = .ok (.aload_n 0, 1) := by decide +kernel
theorem dX9_writeStacks_137 : decode cX9_writeStacks 137 = .ok (.iload_n 2, 1) := by decide +kernel
theorem dX9_writeStacks_138 : decode cX9_writeStacks 138 = .ok (.bipush 10, 2) := by decide +kernel
theorem dX9_writeStacks_140 : decode cX9_writeStacks 140 = .ok (.iload_n 3, 1) := by decide +kernel
theorem dX9_writeStacks_141 : decode cX9_writeStacks 141 = .ok (.iadd, 1) := by decide +kernel
theorem dX9_writeStacks_142 : decode cX9_writeStacks 142 = .ok (.invokevirtual 135, 3) := by decide +kernel
theorem dX9_writeStacks_145 : decode cX9_writeStacks 145 = .ok (.invokevirtual 360, 3) := by decide +kernel
theorem dX9_writeStacks_148 : decode cX9_writeStacks 148 = .ok (.iinc 3 1, 3) := by decide +kernel
theorem dX9_writeStacks_151 : decode cX9_writeStacks 151 = .ok (.goto (-39), 3) := by decide +kernel
theorem dX9_writeStacks_154 : decode cX9_writeStacks 154 = .ok (.iinc 1 1, 3) := by decide +kernel
theorem dX9_writeStacks_157 : decode cX9_writeStacks 157 = .ok (.goto (-145), 3) := by decide +kernel
theorem dX9_writeStacks_160 : decode cX9_writeStacks 160 = .ok (.aload_n 0, 1) := by decide +kernel
theorem dX9_writeStacks_161 : decode cX9_writeStacks 161 = .ok (.getfield 357, 3) := by decide +kernel
theorem dX9_writeStacks_164 : decode cX9_writeStacks 164 = .ok (.ireturn, 1) := by decide +kernel
theorem dX9_writtenByte_0 : decode cX9_writtenByte 0 = .ok (.aload_n 0, 1) := by decide +kernel
theorem dX9_writtenByte_1 : decode cX9_writtenByte 1 = .ok (.iload_n 1, 1) := by decide +kernel
theorem dX9_writtenByte_2 : decode cX9_writtenByte 2 = .ok (.iconst 0, 1) := by decide +kernel
theorem dX9_writtenByte_3 : decode cX9_writtenByte 3 = .ok (.aload_n 0, 1) := by decide +kernel
theorem dX9_writtenByte_4 : decode cX9_writtenByte 4 = .ok (.getfield 357, 3) := by decide +kernel
theorem dX9_writtenByte_7 : decode cX9_writtenByte 7 = .ok (.iconst 1, 1) := by decide +kernel
theorem dX9_writtenByte_8 : decode cX9_writtenByte 8 = .ok (.isub, 1) := by decide +kernel
theorem dX9_writtenByte_9 : decode cX9_writtenByte 9 = .ok (.invokestatic 56, 3) := by decide +kernel
theorem dX9_writtenByte_12 : decode cX9_writtenByte 12 = .ok (.ifCond .eq 7, 3) := by decide +kernel
theorem dX9_writtenByte_15 : decode cX9_writtenByte 15 = .ok (.iconst 0, 1) := by decide +kernel
theorem dX9_writtenByte_16 : decode cX9_writtenByte 16 = .ok (.goto 4, 3) := by decide +kernel
theorem dX9_writtenByte_19 : decode cX9_writtenByte 19 = .ok (.iconst 1, 1) := by decide +kernel
theorem dX9_writtenByte_20 : decode cX9_writtenByte 20 = .ok (.putfield 46, 3) := by decide +kernel
theorem dX9_writtenByte_23 : decode cX9_writtenByte 23 = .ok (.aload_n 0, 1) := by decide +kernel
theorem dX9_writtenByte_24 : decode cX9_writtenByte 24 = .ok (.getfield 46, 3) := by decide +kernel
theorem dX9_writtenByte_27 : decode cX9_writtenByte 27 = .ok (.ifCond .le 7, 3) := by decide +kernel
theorem dX9_writtenByte_30 : decode cX9_writtenByte 30 = .ok (.iconst 0, 1) := by decide +kernel
theorem dX9_writtenByte_31 : decode cX9_writtenByte 31 = .ok (.goto 9, 3) := by decide +kernel
theorem dX9_writtenByte_34 : decode cX9_writtenByte 34 = .ok (.aload_n 0, 1) := by decide +kernel
theorem dX9_writtenByte_35 : decode cX9_writtenByte 35 = .ok (.getfield 36, 3) := by decide +kernel
theorem dX9_writtenByte_38 : decode cX9_writtenByte 38 = .ok (.iload_n 1, 1) := by decide +kernel
theorem dX9_writtenByte_39 : decode cX9_writtenByte 39 = .ok (.iaload, 1) := by decide +kernel
theorem dX9_writtenByte_40 : decode cX9_writtenByte 40 = .ok (.ireturn, 1) := by decide +kernel
theorem dJ9_max_7cf53_0 : decode cJ9_max_7cf53 0 = .ok (.iload_n 0, 1) := by decide +kernel
theorem dJ9_max_7cf53_1 : decode cJ9_max_7cf53 1 = .ok (.iload_n 1, 1) := by decide +kernel
theorem dJ9_max_7cf53_2 : decode cJ9_max_7cf53 2 = .ok (.if_icmp .lt 7, 3) := by decide +kernel
theorem dJ9_max_7cf53_5 : decode cJ9_max_7cf53 5 = .ok (.iload_n 0, 1) := by decide +kernel
theorem dJ9_max_7cf53_6 : decode cJ9_max_7cf53 6 = .ok (.goto 4, 3) := by decide +kernel
theorem dJ9_max_7cf53_9 : decode cJ9_max_7cf53 9 = .ok (.iload_n 1, 1) := by decide +kernel
theorem dJ9_max_7cf53_10 : decode cJ9_max_7cf53 10 = .ok (.ireturn, 1) := by decide +kernel
theorem dJ9_min_7cf53_0 : decode cJ9_min_7cf53 0 = .ok (.iload_n 0, 1) := by decide +kernel
theorem dJ9_min_7cf53_1 : decode cJ9_min_7cf53 1 = .ok (.iload_n 1, 1) := by decide +kernel
theorem dJ9_min_7cf53_2 : decode cJ9_min_7cf53 2 = .ok (.if_icmp .gt 7, 3) := by decide +kernel
theorem dJ9_min_7cf53_5 : decode cJ9_min_7cf53 5 = .ok (.iload_n 0, 1) := by decide +kernel
theorem dJ9_min_7cf53_6 : decode cJ9_min_7cf53 6 = .ok (.goto 4, 3) := by decide +kernel
theorem dJ9_min_7cf53_9 : decode cJ9_min_7cf53 9 = .ok (.iload_n 1, 1) := by decide +kernel
theorem dJ9_min_7cf53_10 : decode cJ9_min_7cf53 10 = .ok (.ireturn, 1) := by decide +kernel
theorem dJ0_length_8abf5_0 : decode cJ0_length_8abf5 0 = .ok (.aload_n 0, 1) := by decide +kernel
theorem dJ0_length_8abf5_1 : decode cJ0_length_8abf5 1 = .ok (.getfield 9, 3) := by decide +kernel
theorem dJ0_length_8abf5_4 : decode cJ0_length_8abf5 4 = .ok (.arraylength, 1) := by decide +kernel
theorem dJ0_length_8abf5_5 : decode cJ0_length_8abf5 5 = .ok (.aload_n 0, 1) := by decide +kernel
theorem dJ0_length_8abf5_6 : decode cJ0_length_8abf5 6 = .ok (.invokevirtual 335, 3) := by decide +kernel
theorem dJ0_length_8abf5_9 : decode cJ0_length_8abf5 9 = .ok (.ishr, 1) := by decide +kernel
theorem dJ0_length_8abf5_10 : decode cJ0_length_8abf5 10 = .ok (.ireturn, 1) := by decide +kernel
theorem dJ0_charAt_5068e_0 : decode cJ0_charAt_5068e 0 = .ok (.aload_n 0, 1) := by decide +kernel
theorem dJ0_charAt_5068e_1 : decode cJ0_charAt_5068e 1 = .ok (.invokevirtual 492, 3) := by decide +kernel
theorem dJ0_charAt_5068e_4 : decode cJ0_charAt_5068e 4 = .ok (.ifCond .eq 12, 3) := by decide +kernel
theorem dJ0_charAt_5068e_7 : decode cJ0_charAt_5068e 7 = .ok (.aload_n 0, 1) := by decide +kernel
theorem dJ0_charAt_5068e_8 : decode cJ0_charAt_5068e 8 = .ok (.getfield 9, 3) := by decide +kernel
theorem dJ0_charAt_5068e_11 : decode cJ0_charAt_5068e 11 = .ok (.iload_n 1, 1) := by decide +kernel
theorem dJ0_charAt_5068e_12 : decode cJ0_charAt_5068e 12 = .ok (.invokestatic 495, 3) := by decide +kernel
theorem dJ0_charAt_5068e_15 : decode cJ0_charAt_5068e 15 = .ok (.ireturn, 1) := by decide +kernel
theorem dJ0_charAt_5068e_16 : decode cJ0_charAt_5068e 16 = .ok (.aload_n 0, 1) := by decide +kernel
theorem dJ0_charAt_5068e_17 : decode cJ0_charAt_5068e 17 = .ok (.getfield 9, 3) := by decide +kernel
theorem dJ0_charAt_5068e_20 : decode cJ0_charAt_5068e 20 = .ok (.iload_n 1, 1) := by decide +kernel
theorem dJ0_charAt_5068e_21 : decode cJ0_charAt_5068e 21 = .ok (.invokestatic 498, 3) := by decide +kernel
theorem dJ0_charAt_5068e_24 : decode cJ0_charAt_5068e 24 = .ok (.ireturn, 1) := by decide +kernel
theorem dJ0_coder_7d493_0 : decode cJ0_coder_7d493 0 = .ok (.getstatic 38, 3) := by decide +kernel
theorem dJ0_coder_7d493_3 : decode cJ0_coder_7d493 3 = .ok (.ifCond .eq 10, 3) := by decide +kernel
theorem dJ0_coder_7d493_6 : decode cJ0_coder_7d493 6 = .ok (.aload_n 0, 1) := by decide +kernel
theorem dJ0_coder_7d493_7 : decode cJ0_coder_7d493 7 = .ok (.getfield 15, 3) := by decide +kernel
theorem dJ0_coder_7d493_10 : decode cJ0_coder_7d493 10 = .ok (.goto 4, 3) := by decide +kernel
theorem dJ0_coder_7d493_13 : decode cJ0_coder_7d493 13 = .ok (.iconst 1, 1) := by decide +kernel
theorem dJ0_coder_7d493_14 : decode cJ0_coder_7d493 14 = .ok (.ireturn, 1) := by decide +kernel
theorem dJ0_isLatin1_aae02_0 : decode cJ0_isLatin1_aae02 0 = .ok (.getstatic 38, 3) := by decide +kernel
theorem dJ0_isLatin1_aae02_3 : decode cJ0_isLatin1_aae02 3 = .ok (.ifCond .eq 14, 3) := by decide +kernel
theorem dJ0_isLatin1_aae02_6 : decode cJ0_isLatin1_aae02 6 = .ok (.aload_n 0, 1) := by decide +kernel
theorem dJ0_isLatin1_aae02_7 : decode cJ0_isLatin1_aae02 7 = .ok (.getfield 15, 3) := by decide +kernel
theorem dJ0_isLatin1_aae02_10 : decode cJ0_isLatin1_aae02 10 = .ok (.ifCond .ne 7, 3) := by decide +kernel
theorem dJ0_isLatin1_aae02_13 : decode cJ0_isLatin1_aae02 13 = .ok (.iconst 1, 1) := by decide +kernel
theorem dJ0_isLatin1_aae02_14 : decode cJ0_isLatin1_aae02 14 = .ok (.goto 4, 3) := by decide +kernel
theorem dJ0_isLatin1_aae02_17 : decode cJ0_isLatin1_aae02 17 = .ok (.iconst 0, 1) := by decide +kernel
theorem dJ0_isLatin1_aae02_18 : decode cJ0_isLatin1_aae02 18 = .ok (.ireturn, 1) := by decide +kernel
theorem dJ0_checkIndex_df160_0 : decode cJ0_checkIndex_df160 0 = .ok (.iload_n 0, 1) := by decide +kernel
theorem dJ0_checkIndex_df160_1 : decode cJ0_checkIndex_df160 1 = .ok (.iload_n 1, 1) := by decide +kernel
theorem dJ0_checkIndex_df160_2 : decode cJ0_checkIndex_df160 2 = .ok (.getstatic 1053, 3) := by decide +kernel
theorem dJ0_checkIndex_df160_5 : decode cJ0_checkIndex_df160 5 = .ok (.invokestatic 1059, 3) := by decide +kernel
theorem dJ0_checkIndex_df160_8 : decode cJ0_checkIndex_df160 8 = .ok (.pop, 1) := by decide +kernel
theorem dJ0_checkIndex_df160_9 : decode cJ0_checkIndex_df160 9 = .ok (.return_, 1) := by decide +kernel
theorem dJ1_charAt_3b067_0 : decode cJ1_charAt_3b067 0 = .ok (.iload_n 1, 1) := by decide +kernel
theorem dJ1_charAt_3b067_1 : decode cJ1_charAt_3b067 1 = .ok (.aload_n 0, 1) := by decide +kernel
theorem dJ1_charAt_3b067_2 : decode cJ1_charAt_3b067 2 = .ok (.arraylength, 1) := by decide +kernel
theorem dJ1_charAt_3b067_3 : decode cJ1_charAt_3b067 3 = .ok (.invokestatic 9, 3) := by decide +kernel
theorem dJ1_charAt_3b067_6 : decode cJ1_charAt_3b067 6 = .ok (.aload_n 0, 1) := by decide +kernel
theorem dJ1_charAt_3b067_7 : decode cJ1_charAt_3b067 7 = .ok (.iload_n 1, 1) := by decide +kernel
theorem dJ1_charAt_3b067_8 : decode cJ1_charAt_3b067 8 = .ok (.baload, 1) := by decide +kernel
theorem dJ1_charAt_3b067_9 : decode cJ1_charAt_3b067 9 = .ok (.sipush 255, 3) := by decide +kernel
theorem dJ1_charAt_3b067_12 : decode cJ1_charAt_3b067 12 = .ok (.iand, 1) := by decide +kernel
theorem dJ1_charAt_3b067_13 : decode cJ1_charAt_3b067 13 = .ok (.i2c, 1) := by decide +kernel
theorem dJ1_charAt_3b067_14 : decode cJ1_charAt_3b067 14 = .ok (.ireturn, 1) := by decide +kernel
theorem dJ2_getChar_3b067_0 : decode cJ2_getChar_3b067 0 = .ok (.getstatic 44, 3) := by decide +kernel
theorem dJ2_getChar_3b067_3 : decode cJ2_getChar_3b067 3 = .ok (.ifCond .ne 25, 3) := by decide +kernel
theorem dJ2_getChar_3b067_6 : decode cJ2_getChar_3b067 6 = .ok (.iload_n 1, 1) := by decide +kernel
theorem dJ2_getChar_3b067_7 : decode cJ2_getChar_3b067 7 = .ok (.ifCond .lt 11, 3) := by decide +kernel
theorem dJ2_getChar_3b067_10 : decode cJ2_getChar_3b067 10 = .ok (.iload_n 1, 1) := by decide +kernel
theorem dJ2_getChar_3b067_11 : decode cJ2_getChar_3b067 11 = .ok (.aload_n 0, 1) := by decide +kernel
theorem dJ2_getChar_3b067_12 : decode cJ2_getChar_3b067 12 = .ok (.invokestatic 48, 3) := by decide +kernel
theorem dJ2_getChar_3b067_15 : decode cJ2_getChar_3b067 15 = .ok (.if_icmp .lt 13, 3) := by decide +kernel
theorem dJ2_getChar_3b067_18 : decode cJ2_getChar_3b067 18 = .ok (.new 52, 3) := by decide +kernel
theorem dJ2_getChar_3b067_21 : decode cJ2_getChar_3b067 21 = .ok (.dup, 1) := by decide +kernel
theorem dJ2_getChar_3b067_22 : decode cJ2_getChar_3b067 22 = .ok (.ldc 54, 2) := by decide +kernel
theorem dJ2_getChar_3b067_24 : decode cJ2_getChar_3b067 24 = .ok (.invokespecial 56, 3) := by decide +kernel
theorem dJ2_getChar_3b067_27 : decode cJ2_getChar_3b067 27 = .ok (.athrow, 1) := by decide +kernel
theorem dJ2_getChar_3b067_28 : decode cJ2_getChar_3b067 28 = .ok (.iload_n 1, 1) := by decide +kernel
theorem dJ2_getChar_3b067_29 : decode cJ2_getChar_3b067 29 = .ok (.iconst 1, 1) := by decide +kernel
theorem dJ2_getChar_3b067_30 : decode cJ2_getChar_3b067 30 = .ok (.ishl, 1) := by decide +kernel
theorem dJ2_getChar_3b067_31 : decode cJ2_getChar_3b067 31 = .ok (.istore_n 1, 1) := by decide +kernel
theorem dJ2_getChar_3b067_32 : decode cJ2_getChar_3b067 32 = .ok (.aload_n 0, 1) := by decide +kernel
theorem dJ2_getChar_3b067_33 : decode cJ2_getChar_3b067 33 = .ok (.iload_n 1, 1) := by decide +kernel
theorem dJ2_getChar_3b067_34 : decode cJ2_getChar_3b067 34 = .ok (.iinc 1 1, 3) := by decide +kernel
theorem dJ2_getChar_3b067_37 : decode cJ2_getChar_3b067 37 = .ok (.baload, 1) := by decide +kernel
theorem dJ2_getChar_3b067_38 : decode cJ2_getChar_3b067 38 = .ok (.sipush 255, 3) := by decide +kernel
theorem dJ2_getChar_3b067_41 : decode cJ2_getChar_3b067 41 = .ok (.iand, 1) := by decide +kernel
theorem dJ2_getChar_3b067_42 : decode cJ2_getChar_3b067 42 = .ok (.getstatic 59, 3) := by decide +kernel
theorem dJ2_getChar_3b067_45 : decode cJ2_getChar_3b067 45 = .ok (.ishl, 1) := by decide +kernel
theorem dJ2_getChar_3b067_46 : decode cJ2_getChar_3b067 46 = .ok (.aload_n 0, 1) := by decide +kernel
theorem dJ2_getChar_3b067_47 : decode cJ2_getChar_3b067 47 = .ok (.iload_n 1, 1) := by decide +kernel
theorem dJ2_getChar_3b067_48 : decode cJ2_getChar_3b067 48 = .ok (.baload, 1) := by decide +kernel
theorem dJ2_getChar_3b067_49 : decode cJ2_getChar_3b067 49 = .ok (.sipush 255, 3) := by decide +kernel
theorem dJ2_getChar_3b067_52 : decode cJ2_getChar_3b067 52 = .ok (.iand, 1) := by decide +kernel
theorem dJ2_getChar_3b067_53 : decode cJ2_getChar_3b067 53 = .ok (.getstatic 63, 3) := by decide +kernel
theorem dJ2_getChar_3b067_56 : decode cJ2_getChar_3b067 56 = .ok (.ishl, 1) := by decide +kernel
theorem dJ2_getChar_3b067_57 : decode cJ2_getChar_3b067 57 = .ok (.ior, 1) := by decide +kernel
theorem dJ2_getChar_3b067_58 : decode cJ2_getChar_3b067 58 = .ok (.i2c, 1) := by decide +kernel
theorem dJ2_getChar_3b067_59 : decode cJ2_getChar_3b067 59 = .ok (.ireturn, 1) := by decide +kernel
theorem dJ2_length_9d52b_0 : decode cJ2_length_9d52b 0 = .ok (.aload_n 0, 1) := by decide +kernel
theorem dJ2_length_9d52b_1 : decode cJ2_length_9d52b 1 = .ok (.arraylength, 1) := by decide +kernel
theorem dJ2_length_9d52b_2 : decode cJ2_length_9d52b 2 = .ok (.iconst 1, 1) := by decide +kernel
theorem dJ2_length_9d52b_3 : decode cJ2_length_9d52b 3 = .ok (.ishr, 1) := by decide +kernel
theorem dJ2_length_9d52b_4 : decode cJ2_length_9d52b 4 = .ok (.ireturn, 1) := by decide +kernel
theorem dJ2_charAt_3b067_0 : decode cJ2_charAt_3b067 0 = .ok (.iload_n 1, 1) := by decide +kernel
theorem dJ2_charAt_3b067_1 : decode cJ2_charAt_3b067 1 = .ok (.aload_n 0, 1) := by decide +kernel
theorem dJ2_charAt_3b067_2 : decode cJ2_charAt_3b067 2 = .ok (.invokestatic 67, 3) := by decide +kernel
theorem dJ2_charAt_3b067_5 : decode cJ2_charAt_3b067 5 = .ok (.aload_n 0, 1) := by decide +kernel
theorem dJ2_charAt_3b067_6 : decode cJ2_charAt_3b067 6 = .ok (.iload_n 1, 1) := by decide +kernel
theorem dJ2_charAt_3b067_7 : decode cJ2_charAt_3b067 7 = .ok (.invokestatic 71, 3) := by decide +kernel
theorem dJ2_charAt_3b067_10 : decode cJ2_charAt_3b067 10 = .ok (.ireturn, 1) := by decide +kernel
theorem dJ2_checkIndex_2214a_0 : decode cJ2_checkIndex_2214a 0 = .ok (.iload_n 0, 1) := by decide +kernel
theorem dJ2_checkIndex_2214a_1 : decode cJ2_checkIndex_2214a 1 = .ok (.aload_n 1, 1) := by decide +kernel
theorem dJ2_checkIndex_2214a_2 : decode cJ2_checkIndex_2214a 2 = .ok (.invokestatic 48, 3) := by decide +kernel
theorem dJ2_checkIndex_2214a_5 : decode cJ2_checkIndex_2214a 5 = .ok (.invokestatic 414, 3) := by decide +kernel
theorem dJ2_checkIndex_2214a_8 : decode cJ2_checkIndex_2214a 8 = .ok (.return_, 1) := by decide +kernel
theorem dJ3_checkIndex_8e157_0 : decode cJ3_checkIndex_8e157 0 = .ok (.iload_n 0, 1) := by decide +kernel
theorem dJ3_checkIndex_8e157_1 : decode cJ3_checkIndex_8e157 1 = .ok (.ifCond .lt 8, 3) := by decide +kernel
theorem dJ3_checkIndex_8e157_4 : decode cJ3_checkIndex_8e157 4 = .ok (.iload_n 0, 1) := by decide +kernel
theorem dJ3_checkIndex_8e157_5 : decode cJ3_checkIndex_8e157 5 = .ok (.iload_n 1, 1) := by decide +kernel
theorem dJ3_checkIndex_8e157_6 : decode cJ3_checkIndex_8e157 6 = .ok (.if_icmp .lt 10, 3) := by decide +kernel
theorem dJ3_checkIndex_8e157_9 : decode cJ3_checkIndex_8e157 9 = .ok (.aload_n 2, 1) := by decide +kernel
theorem dJ3_checkIndex_8e157_10 : decode cJ3_checkIndex_8e157 10 = .ok (.iload_n 0, 1) := by decide +kernel
theorem dJ3_checkIndex_8e157_11 : decode cJ3_checkIndex_8e157 11 = .ok (.iload_n 1, 1) := by decide +kernel
theorem dJ3_checkIndex_8e157_12 : decode cJ3_checkIndex_8e157 12 = .ok (.invokestatic 95, 3) := by decide +kernel
theorem dJ3_checkIndex_8e157_15 : decode cJ3_checkIndex_8e157 15 = .ok (.athrow, 1) := by decide +kernel
theorem dJ3_checkIndex_8e157_16 : decode cJ3_checkIndex_8e157 16 = .ok (.iload_n 0, 1) := by decide +kernel
theorem dJ3_checkIndex_8e157_17 : decode cJ3_checkIndex_8e157 17 = .ok (.ireturn, 1) := by decide +kernel

theorem dX0_init_0 : decode cX0_init 0 = .ok (.aload_n 0, 1) := by decide +kernel
theorem dX0_init_1 : decode cX0_init 1 = .ok (.invokespecial 3, 3) := by decide +kernel
theorem dX0_init_4 : decode cX0_init 4 = .ok (.aload_n 0, 1) := by decide +kernel
theorem dX0_init_5 : decode cX0_init 5 = .ok (.bipush 8, 2) := by decide +kernel
theorem dX0_init_7 : decode cX0_init 7 = .ok (.anewarray 9, 3) := by decide +kernel
theorem dX0_init_10 : decode cX0_init 10 = .ok (.putfield 11, 3) := by decide +kernel
theorem dX0_init_13 : decode cX0_init 13 = .ok (.aload_n 0, 1) := by decide +kernel
theorem dX0_init_14 : decode cX0_init 14 = .ok (.bipush 12, 2) := by decide +kernel
theorem dX0_init_16 : decode cX0_init 16 = .ok (.anewarray 17, 3) := by decide +kernel
theorem dX0_init_19 : decode cX0_init 19 = .ok (.putfield 19, 3) := by decide +kernel
theorem dX0_init_22 : decode cX0_init 22 = .ok (.aload_n 0, 1) := by decide +kernel
theorem dX0_init_23 : decode cX0_init 23 = .ok (.iconst 4, 1) := by decide +kernel
theorem dX0_init_24 : decode cX0_init 24 = .ok (.newarray .int, 2) := by decide +kernel
theorem dX0_init_26 : decode cX0_init 26 = .ok (.putfield 23, 3) := by decide +kernel
theorem dX0_init_29 : decode cX0_init 29 = .ok (.aload_n 0, 1) := by decide +kernel
theorem dX0_init_30 : decode cX0_init 30 = .ok (.new 27, 3) := by decide +kernel
theorem dX0_init_33 : decode cX0_init 33 = .ok (.dup, 1) := by decide +kernel
theorem dX0_init_34 : decode cX0_init 34 = .ok (.invokespecial 29, 3) := by decide +kernel
theorem dX0_init_37 : decode cX0_init 37 = .ok (.putfield 30, 3) := by decide +kernel
theorem dX0_init_40 : decode cX0_init 40 = .ok (.iconst 0, 1) := by decide +kernel
theorem dX0_init_41 : decode cX0_init 41 = .ok (.istore_n 1, 1) := by decide +kernel
theorem dX0_init_42 : decode cX0_init 42 = .ok (.iload_n 1, 1) := by decide +kernel
theorem dX0_init_43 : decode cX0_init 43 = .ok (.aload_n 0, 1) := by decide +kernel
theorem dX0_init_44 : decode cX0_init 44 = .ok (.getfield 11, 3) := by decide +kernel
theorem dX0_init_47 : decode cX0_init 47 = .ok (.arraylength, 1) := by decide +kernel
theorem dX0_init_48 : decode cX0_init 48 = .ok (.if_icmp .ge 22, 3) := by decide +kernel
theorem dX0_init_51 : decode cX0_init 51 = .ok (.aload_n 0, 1) := by decide +kernel
theorem dX0_init_52 : decode cX0_init 52 = .ok (.getfield 11, 3) := by decide +kernel
theorem dX0_init_55 : decode cX0_init 55 = .ok (.iload_n 1, 1) := by decide +kernel
theorem dX0_init_56 : decode cX0_init 56 = .ok (.new 9, 3) := by decide +kernel
theorem dX0_init_59 : decode cX0_init 59 = .ok (.dup, 1) := by decide +kernel
theorem dX0_init_60 : decode cX0_init 60 = .ok (.invokespecial 34, 3) := by decide +kernel
theorem dX0_init_63 : decode cX0_init 63 = .ok (.aastore, 1) := by decide +kernel
theorem dX0_init_64 : decode cX0_init 64 = .ok (.iinc 1 1, 3) := by decide +kernel
theorem dX0_init_67 : decode cX0_init 67 = .ok (.goto (-25), 3) := by decide +kernel
theorem dX0_init_70 : decode cX0_init 70 = .ok (.iconst 0, 1) := by decide +kernel
theorem dX0_init_71 : decode cX0_init 71 = .ok (.istore_n 1, 1) := by decide +kernel
theorem dX0_init_72 : decode cX0_init 72 = .ok (.iload_n 1, 1) := by decide +kernel
theorem dX0_init_73 : decode cX0_init 73 = .ok (.aload_n 0, 1) := by decide +kernel
theorem dX0_init_74 : decode cX0_init 74 = .ok (.getfield 19, 3) := by decide +kernel
theorem dX0_init_77 : decode cX0_init 77 = .ok (.arraylength, 1) := by decide +kernel
theorem dX0_init_78 : decode cX0_init 78 = .ok (.if_icmp .ge 22, 3) := by decide +kernel
theorem dX0_init_81 : decode cX0_init 81 = .ok (.aload_n 0, 1) := by decide +kernel
theorem dX0_init_82 : decode cX0_init 82 = .ok (.getfield 19, 3) := by decide +kernel
theorem dX0_init_85 : decode cX0_init 85 = .ok (.iload_n 1, 1) := by decide +kernel
theorem dX0_init_86 : decode cX0_init 86 = .ok (.new 17, 3) := by decide +kernel
theorem dX0_init_89 : decode cX0_init 89 = .ok (.dup, 1) := by decide +kernel
theorem dX0_init_90 : decode cX0_init 90 = .ok (.invokespecial 35, 3) := by decide +kernel
theorem dX0_init_93 : decode cX0_init 93 = .ok (.aastore, 1) := by decide +kernel
theorem dX0_init_94 : decode cX0_init 94 = .ok (.iinc 1 1, 3) := by decide +kernel
theorem dX0_init_97 : decode cX0_init 97 = .ok (.goto (-25), 3) := by decide +kernel
theorem dX0_init_100 : decode cX0_init 100 = .ok (.return_, 1) := by decide +kernel
theorem dX0_begin_0 : decode cX0_begin 0 = .ok (.iconst 0, 1) := by decide +kernel
theorem dX0_begin_1 : decode cX0_begin 1 = .ok (.istore_n 2, 1) := by decide +kernel
theorem dX0_begin_2 : decode cX0_begin 2 = .ok (.iload_n 2, 1) := by decide +kernel
theorem dX0_begin_3 : decode cX0_begin 3 = .ok (.aload_n 0, 1) := by decide +kernel
theorem dX0_begin_4 : decode cX0_begin 4 = .ok (.getfield 23, 3) := by decide +kernel
theorem dX0_begin_7 : decode cX0_begin 7 = .ok (.arraylength, 1) := by decide +kernel
theorem dX0_begin_8 : decode cX0_begin 8 = .ok (.if_icmp .ge 16, 3) := by decide +kernel
theorem dX0_begin_11 : decode cX0_begin 11 = .ok (.aload_n 0, 1) := by decide +kernel
theorem dX0_begin_12 : decode cX0_begin 12 = .ok (.getfield 23, 3) := by decide +kernel
theorem dX0_begin_15 : decode cX0_begin 15 = .ok (.iload_n 2, 1) := by decide +kernel
theorem dX0_begin_16 : decode cX0_begin 16 = .ok (.iconst (-1), 1) := by decide +kernel
theorem dX0_begin_17 : decode cX0_begin 17 = .ok (.iastore, 1) := by decide +kernel
theorem dX0_begin_18 : decode cX0_begin 18 = .ok (.iinc 2 1, 3) := by decide +kernel
theorem dX0_begin_21 : decode cX0_begin 21 = .ok (.goto (-19), 3) := by decide +kernel
theorem dX0_begin_24 : decode cX0_begin 24 = .ok (.aload_n 0, 1) := by decide +kernel
theorem dX0_begin_25 : decode cX0_begin 25 = .ok (.getfield 30, 3) := by decide +kernel
theorem dX0_begin_28 : decode cX0_begin 28 = .ok (.iconst 0, 1) := by decide +kernel
theorem dX0_begin_29 : decode cX0_begin 29 = .ok (.putfield 36, 3) := by decide +kernel
theorem dX0_begin_32 : decode cX0_begin 32 = .ok (.aload_n 0, 1) := by decide +kernel
theorem dX0_begin_33 : decode cX0_begin 33 = .ok (.iload_n 1, 1) := by decide +kernel
theorem dX0_begin_34 : decode cX0_begin 34 = .ok (.putfield 40, 3) := by decide +kernel
theorem dX0_begin_37 : decode cX0_begin 37 = .ok (.aload_n 0, 1) := by decide +kernel
theorem dX0_begin_38 : decode cX0_begin 38 = .ok (.iconst 0, 1) := by decide +kernel
theorem dX0_begin_39 : decode cX0_begin 39 = .ok (.putfield 43, 3) := by decide +kernel
theorem dX0_begin_42 : decode cX0_begin 42 = .ok (.aload_n 0, 1) := by decide +kernel
theorem dX0_begin_43 : decode cX0_begin 43 = .ok (.iconst 0, 1) := by decide +kernel
theorem dX0_begin_44 : decode cX0_begin 44 = .ok (.putfield 46, 3) := by decide +kernel
theorem dX0_begin_47 : decode cX0_begin 47 = .ok (.aload_n 0, 1) := by decide +kernel
theorem dX0_begin_48 : decode cX0_begin 48 = .ok (.iconst 0, 1) := by decide +kernel
theorem dX0_begin_49 : decode cX0_begin 49 = .ok (.putfield 49, 3) := by decide +kernel
theorem dX0_begin_52 : decode cX0_begin 52 = .ok (.aload_n 0, 1) := by decide +kernel
theorem dX0_begin_53 : decode cX0_begin 53 = .ok (.iconst (-1), 1) := by decide +kernel
theorem dX0_begin_54 : decode cX0_begin 54 = .ok (.putfield 52, 3) := by decide +kernel
theorem dX0_begin_57 : decode cX0_begin 57 = .ok (.return_, 1) := by decide +kernel
theorem dX0_copyFrom_0 : decode cX0_copyFrom 0 = .ok (.iconst 0, 1) := by decide +kernel
theorem dX0_copyFrom_1 : decode cX0_copyFrom 1 = .ok (.istore_n 2, 1) := by decide +kernel
theorem dX0_copyFrom_2 : decode cX0_copyFrom 2 = .ok (.iload_n 2, 1) := by decide +kernel
theorem dX0_copyFrom_3 : decode cX0_copyFrom 3 = .ok (.aload_n 0, 1) := by decide +kernel
theorem dX0_copyFrom_4 : decode cX0_copyFrom 4 = .ok (.getfield 11, 3) := by decide +kernel
theorem dX0_copyFrom_7 : decode cX0_copyFrom 7 = .ok (.arraylength, 1) := by decide +kernel
theorem dX0_copyFrom_8 : decode cX0_copyFrom 8 = .ok (.if_icmp .ge 33, 3) := by decide +kernel
theorem dX0_copyFrom_11 : decode cX0_copyFrom 11 = .ok (.iload_n 2, 1) := by decide +kernel
theorem dX0_copyFrom_12 : decode cX0_copyFrom 12 = .ok (.aload_n 1, 1) := by decide +kernel
theorem dX0_copyFrom_13 : decode cX0_copyFrom 13 = .ok (.getfield 11, 3) := by decide +kernel
theorem dX0_copyFrom_16 : decode cX0_copyFrom 16 = .ok (.arraylength, 1) := by decide +kernel
theorem dX0_copyFrom_17 : decode cX0_copyFrom 17 = .ok (.if_icmp .ge 24, 3) := by decide +kernel
theorem dX0_copyFrom_20 : decode cX0_copyFrom 20 = .ok (.aload_n 0, 1) := by decide +kernel
theorem dX0_copyFrom_21 : decode cX0_copyFrom 21 = .ok (.getfield 11, 3) := by decide +kernel
theorem dX0_copyFrom_24 : decode cX0_copyFrom 24 = .ok (.iload_n 2, 1) := by decide +kernel
theorem dX0_copyFrom_25 : decode cX0_copyFrom 25 = .ok (.aaload, 1) := by decide +kernel
theorem dX0_copyFrom_26 : decode cX0_copyFrom 26 = .ok (.aload_n 1, 1) := by decide +kernel
theorem dX0_copyFrom_27 : decode cX0_copyFrom 27 = .ok (.getfield 11, 3) := by decide +kernel
theorem dX0_copyFrom_30 : decode cX0_copyFrom 30 = .ok (.iload_n 2, 1) := by decide +kernel
theorem dX0_copyFrom_31 : decode cX0_copyFrom 31 = .ok (.aaload, 1) := by decide +kernel
theorem dX0_copyFrom_32 : decode cX0_copyFrom 32 = .ok (.invokevirtual 55, 3) := by decide +kernel
theorem dX0_copyFrom_35 : decode cX0_copyFrom 35 = .ok (.iinc 2 1, 3) := by decide +kernel
theorem dX0_copyFrom_38 : decode cX0_copyFrom 38 = .ok (.goto (-36), 3) := by decide +kernel
theorem dX0_copyFrom_41 : decode cX0_copyFrom 41 = .ok (.iconst 0, 1) := by decide +kernel
theorem dX0_copyFrom_42 : decode cX0_copyFrom 42 = .ok (.istore_n 2, 1) := by decide +kernel
theorem dX0_copyFrom_43 : decode cX0_copyFrom 43 = .ok (.iload_n 2, 1) := by decide +kernel
theorem dX0_copyFrom_44 : decode cX0_copyFrom 44 = .ok (.aload_n 0, 1) := by decide +kernel
theorem dX0_copyFrom_45 : decode cX0_copyFrom 45 = .ok (.getfield 19, 3) := by decide +kernel
theorem dX0_copyFrom_48 : decode cX0_copyFrom 48 = .ok (.arraylength, 1) := by decide +kernel
theorem dX0_copyFrom_49 : decode cX0_copyFrom 49 = .ok (.if_icmp .ge 33, 3) := by decide +kernel
theorem dX0_copyFrom_52 : decode cX0_copyFrom 52 = .ok (.iload_n 2, 1) := by decide +kernel
theorem dX0_copyFrom_53 : decode cX0_copyFrom 53 = .ok (.aload_n 1, 1) := by decide +kernel
theorem dX0_copyFrom_54 : decode cX0_copyFrom 54 = .ok (.getfield 19, 3) := by decide +kernel
theorem dX0_copyFrom_57 : decode cX0_copyFrom 57 = .ok (.arraylength, 1) := by decide +kernel
theorem dX0_copyFrom_58 : decode cX0_copyFrom 58 = .ok (.if_icmp .ge 24, 3) := by decide +kernel
theorem dX0_copyFrom_61 : decode cX0_copyFrom 61 = .ok (.aload_n 0, 1) := by decide +kernel
theorem dX0_copyFrom_62 : decode cX0_copyFrom 62 = .ok (.getfield 19, 3) := by decide +kernel
theorem dX0_copyFrom_65 : decode cX0_copyFrom 65 = .ok (.iload_n 2, 1) := by decide +kernel
theorem dX0_copyFrom_66 : decode cX0_copyFrom 66 = .ok (.aaload, 1) := by decide +kernel
theorem dX0_copyFrom_67 : decode cX0_copyFrom 67 = .ok (.aload_n 1, 1) := by decide +kernel
theorem dX0_copyFrom_68 : decode cX0_copyFrom 68 = .ok (.getfield 19, 3) := by decide +kernel
theorem dX0_copyFrom_71 : decode cX0_copyFrom 71 = .ok (.iload_n 2, 1) := by decide +kernel
theorem dX0_copyFrom_72 : decode cX0_copyFrom 72 = .ok (.aaload, 1) := by decide +kernel
theorem dX0_copyFrom_73 : decode cX0_copyFrom 73 = .ok (.invokevirtual 59, 3) := by decide +kernel
theorem dX0_copyFrom_76 : decode cX0_copyFrom 76 = .ok (.iinc 2 1, 3) := by decide +kernel
theorem dX0_copyFrom_79 : decode cX0_copyFrom 79 = .ok (.goto (-36), 3) := by decide +kernel
theorem dX0_copyFrom_82 : decode cX0_copyFrom 82 = .ok (.aload_n 1, 1) := by decide +kernel
theorem dX0_copyFrom_83 : decode cX0_copyFrom 83 = .ok (.getfield 23, 3) := by decide +kernel
theorem dX0_copyFrom_86 : decode cX0_copyFrom 86 = .ok (.iconst 0, 1) := by decide +kernel
theorem dX0_copyFrom_87 : decode cX0_copyFrom 87 = .ok (.aload_n 0, 1) := by decide +kernel
theorem dX0_copyFrom_88 : decode cX0_copyFrom 88 = .ok (.getfield 23, 3) := by decide +kernel
theorem dX0_copyFrom_91 : decode cX0_copyFrom 91 = .ok (.iconst 0, 1) := by decide +kernel
theorem dX0_copyFrom_92 : decode cX0_copyFrom 92 = .ok (.iconst 4, 1) := by decide +kernel
theorem dX0_copyFrom_93 : decode cX0_copyFrom 93 = .ok (.invokestatic 62, 3) := by decide +kernel
theorem dX0_copyFrom_96 : decode cX0_copyFrom 96 = .ok (.aload_n 0, 1) := by decide +kernel
theorem dX0_copyFrom_97 : decode cX0_copyFrom 97 = .ok (.getfield 30, 3) := by decide +kernel
theorem dX0_copyFrom_100 : decode cX0_copyFrom 100 = .ok (.aload_n 1, 1) := by decide +kernel
theorem dX0_copyFrom_101 : decode cX0_copyFrom 101 = .ok (.getfield 30, 3) := by decide +kernel
theorem dX0_copyFrom_104 : decode cX0_copyFrom 104 = .ok (.invokevirtual 68, 3) := by decide +kernel
theorem dX0_copyFrom_107 : decode cX0_copyFrom 107 = .ok (.aload_n 0, 1) := by decide +kernel
theorem dX0_copyFrom_108 : decode cX0_copyFrom 108 = .ok (.aload_n 1, 1) := by decide +kernel
theorem dX0_copyFrom_109 : decode cX0_copyFrom 109 = .ok (.getfield 40, 3) := by decide +kernel
theorem dX0_copyFrom_112 : decode cX0_copyFrom 112 = .ok (.putfield 40, 3) := by decide +kernel
theorem dX0_copyFrom_115 : decode cX0_copyFrom 115 = .ok (.aload_n 0, 1) := by decide +kernel
theorem dX0_copyFrom_116 : decode cX0_copyFrom 116 = .ok (.aload_n 1, 1) := by decide +kernel
theorem dX0_copyFrom_117 : decode cX0_copyFrom 117 = .ok (.getfield 43, 3) := by decide +kernel
theorem dX0_copyFrom_120 : decode cX0_copyFrom 120 = .ok (.putfield 43, 3) := by decide +kernel
theorem dX0_copyFrom_123 : decode cX0_copyFrom 123 = .ok (.aload_n 0, 1) := by decide +kernel
theorem dX0_copyFrom_124 : decode cX0_copyFrom 124 = .ok (.aload_n 1, 1) := by decide +kernel
theorem dX0_copyFrom_125 : decode cX0_copyFrom 125 = .ok (.getfield 46, 3) := by decide +kernel
theorem dX0_copyFrom_128 : decode cX0_copyFrom 128 = .ok (.putfield 46, 3) := by decide +kernel
theorem dX0_copyFrom_131 : decode cX0_copyFrom 131 = .ok (.aload_n 0, 1) := by decide +kernel
theorem dX0_copyFrom_132 : decode cX0_copyFrom 132 = .ok (.aload_n 1, 1) := by decide +kernel
theorem dX0_copyFrom_133 : decode cX0_copyFrom 133 = .ok (.getfield 49, 3) := by decide +kernel
theorem dX0_copyFrom_136 : decode cX0_copyFrom 136 = .ok (.putfield 49, 3) := by decide +kernel
theorem dX0_copyFrom_139 : decode cX0_copyFrom 139 = .ok (.aload_n 0, 1) := by decide +kernel
theorem dX0_copyFrom_140 : decode cX0_copyFrom 140 = .ok (.aload_n 1, 1) := by decide +kernel
theorem dX0_copyFrom_141 : decode cX0_copyFrom 141 = .ok (.getfield 52, 3) := by decide +kernel
theorem dX0_copyFrom_144 : decode cX0_copyFrom 144 = .ok (.putfield 52, 3) := by decide +kernel
theorem dX0_copyFrom_147 : decode cX0_copyFrom 147 = .ok (.return_, 1) := by decide +kernel
theorem dX0_addProc_0 : decode cX0_addProc 0 = .ok (.aload_n 0, 1) := by decide +kernel
theorem dX0_addProc_1 : decode cX0_addProc 1 = .ok (.getfield 43, 3) := by decide +kernel
theorem dX0_addProc_4 : decode cX0_addProc 4 = .ok (.ifCond .lt 15, 3) := by decide +kernel
theorem dX0_addProc_7 : decode cX0_addProc 7 = .ok (.aload_n 0, 1) := by decide +kernel
theorem dX0_addProc_8 : decode cX0_addProc 8 = .ok (.getfield 43, 3) := by decide +kernel
theorem dX0_addProc_11 : decode cX0_addProc 11 = .ok (.aload_n 0, 1) := by decide +kernel
theorem dX0_addProc_12 : decode cX0_addProc 12 = .ok (.getfield 11, 3) := by decide +kernel
theorem dX0_addProc_15 : decode cX0_addProc 15 = .ok (.arraylength, 1) := by decide +kernel
theorem dX0_addProc_16 : decode cX0_addProc 16 = .ok (.if_icmp .lt 5, 3) := by decide +kernel
theorem dX0_addProc_19 : decode cX0_addProc 19 = .ok (.aconst_null, 1) := by decide +kernel
theorem dX0_addProc_20 : decode cX0_addProc 20 = .ok (.areturn, 1) := by decide +kernel
theorem dX0_addProc_21 : decode cX0_addProc 21 = .ok (.aload_n 0, 1) := by decide +kernel
theorem dX0_addProc_22 : decode cX0_addProc 22 = .ok (.getfield 11, 3) := by decide +kernel
theorem dX0_addProc_25 : decode cX0_addProc 25 = .ok (.aload_n 0, 1) := by decide +kernel
theorem dX0_addProc_26 : decode cX0_addProc 26 = .ok (.getfield 43, 3) := by decide +kernel
theorem dX0_addProc_29 : decode cX0_addProc 29 = .ok (.aaload, 1) := by decide +kernel
theorem dX0_addProc_30 : decode cX0_addProc 30 = .ok (.astore_n 3, 1) := by decide +kernel
theorem dX0_addProc_31 : decode cX0_addProc 31 = .ok (.aload_n 3, 1) := by decide +kernel
theorem dX0_addProc_32 : decode cX0_addProc 32 = .ok (.lload_n 1, 1) := by decide +kernel
theorem dX0_addProc_33 : decode cX0_addProc 33 = .ok (.invokevirtual 71, 3) := by decide +kernel
theorem dX0_addProc_36 : decode cX0_addProc 36 = .ok (.aload_n 0, 1) := by decide +kernel
theorem dX0_addProc_37 : decode cX0_addProc 37 = .ok (.dup, 1) := by decide +kernel
theorem dX0_addProc_38 : decode cX0_addProc 38 = .ok (.getfield 43, 3) := by decide +kernel
theorem dX0_addProc_41 : decode cX0_addProc 41 = .ok (.iconst 1, 1) := by decide +kernel
theorem dX0_addProc_42 : decode cX0_addProc 42 = .ok (.iadd, 1) := by decide +kernel
theorem dX0_addProc_43 : decode cX0_addProc 43 = .ok (.putfield 43, 3) := by decide +kernel
theorem dX0_addProc_46 : decode cX0_addProc 46 = .ok (.aload_n 3, 1) := by decide +kernel
theorem dX0_addProc_47 : decode cX0_addProc 47 = .ok (.areturn, 1) := by decide +kernel
theorem dX0_addPile_0 : decode cX0_addPile 0 = .ok (.aload_n 0, 1) := by decide +kernel
theorem dX0_addPile_1 : decode cX0_addPile 1 = .ok (.getfield 46, 3) := by decide +kernel
theorem dX0_addPile_4 : decode cX0_addPile 4 = .ok (.ifCond .lt 15, 3) := by decide +kernel
theorem dX0_addPile_7 : decode cX0_addPile 7 = .ok (.aload_n 0, 1) := by decide +kernel
theorem dX0_addPile_8 : decode cX0_addPile 8 = .ok (.getfield 46, 3) := by decide +kernel
theorem dX0_addPile_11 : decode cX0_addPile 11 = .ok (.aload_n 0, 1) := by decide +kernel
theorem dX0_addPile_12 : decode cX0_addPile 12 = .ok (.getfield 19, 3) := by decide +kernel
theorem dX0_addPile_15 : decode cX0_addPile 15 = .ok (.arraylength, 1) := by decide +kernel
theorem dX0_addPile_16 : decode cX0_addPile 16 = .ok (.if_icmp .lt 5, 3) := by decide +kernel
theorem dX0_addPile_19 : decode cX0_addPile 19 = .ok (.aconst_null, 1) := by decide +kernel
theorem dX0_addPile_20 : decode cX0_addPile 20 = .ok (.areturn, 1) := by decide +kernel
theorem dX0_addPile_21 : decode cX0_addPile 21 = .ok (.aload_n 0, 1) := by decide +kernel
theorem dX0_addPile_22 : decode cX0_addPile 22 = .ok (.getfield 19, 3) := by decide +kernel
theorem dX0_addPile_25 : decode cX0_addPile 25 = .ok (.aload_n 0, 1) := by decide +kernel
theorem dX0_addPile_26 : decode cX0_addPile 26 = .ok (.getfield 46, 3) := by decide +kernel
theorem dX0_addPile_29 : decode cX0_addPile 29 = .ok (.aaload, 1) := by decide +kernel
theorem dX0_addPile_30 : decode cX0_addPile 30 = .ok (.astore_n 2, 1) := by decide +kernel
theorem dX0_addPile_31 : decode cX0_addPile 31 = .ok (.aload_n 2, 1) := by decide +kernel
theorem dX0_addPile_32 : decode cX0_addPile 32 = .ok (.iload_n 1, 1) := by decide +kernel
theorem dX0_addPile_33 : decode cX0_addPile 33 = .ok (.invokevirtual 75, 3) := by decide +kernel
theorem dX0_addPile_36 : decode cX0_addPile 36 = .ok (.aload_n 0, 1) := by decide +kernel
theorem dX0_addPile_37 : decode cX0_addPile 37 = .ok (.dup, 1) := by decide +kernel
theorem dX0_addPile_38 : decode cX0_addPile 38 = .ok (.getfield 46, 3) := by decide +kernel
theorem dX0_addPile_41 : decode cX0_addPile 41 = .ok (.iconst 1, 1) := by decide +kernel
theorem dX0_addPile_42 : decode cX0_addPile 42 = .ok (.iadd, 1) := by decide +kernel
theorem dX0_addPile_43 : decode cX0_addPile 43 = .ok (.putfield 46, 3) := by decide +kernel
theorem dX0_addPile_46 : decode cX0_addPile 46 = .ok (.aload_n 2, 1) := by decide +kernel
theorem dX0_addPile_47 : decode cX0_addPile 47 = .ok (.areturn, 1) := by decide +kernel
theorem dX0_procAt_0 : decode cX0_procAt 0 = .ok (.iload_n 1, 1) := by decide +kernel
theorem dX0_procAt_1 : decode cX0_procAt 1 = .ok (.ifCond .lt 29, 3) := by decide +kernel
theorem dX0_procAt_4 : decode cX0_procAt 4 = .ok (.iload_n 1, 1) := by decide +kernel
theorem dX0_procAt_5 : decode cX0_procAt 5 = .ok (.aload_n 0, 1) := by decide +kernel
theorem dX0_procAt_6 : decode cX0_procAt 6 = .ok (.getfield 43, 3) := by decide +kernel
theorem dX0_procAt_9 : decode cX0_procAt 9 = .ok (.if_icmp .ge 21, 3) := by decide +kernel
theorem dX0_procAt_12 : decode cX0_procAt 12 = .ok (.iload_n 1, 1) := by decide +kernel
theorem dX0_procAt_13 : decode cX0_procAt 13 = .ok (.aload_n 0, 1) := by decide +kernel
theorem dX0_procAt_14 : decode cX0_procAt 14 = .ok (.getfield 11, 3) := by decide +kernel
theorem dX0_procAt_17 : decode cX0_procAt 17 = .ok (.arraylength, 1) := by decide +kernel
theorem dX0_procAt_18 : decode cX0_procAt 18 = .ok (.if_icmp .ge 12, 3) := by decide +kernel
theorem dX0_procAt_21 : decode cX0_procAt 21 = .ok (.aload_n 0, 1) := by decide +kernel
theorem dX0_procAt_22 : decode cX0_procAt 22 = .ok (.getfield 11, 3) := by decide +kernel
theorem dX0_procAt_25 : decode cX0_procAt 25 = .ok (.iload_n 1, 1) := by decide +kernel
theorem dX0_procAt_26 : decode cX0_procAt 26 = .ok (.aaload, 1) := by decide +kernel
theorem dX0_procAt_27 : decode cX0_procAt 27 = .ok (.goto 4, 3) := by decide +kernel
theorem dX0_procAt_30 : decode cX0_procAt 30 = .ok (.aconst_null, 1) := by decide +kernel
theorem dX0_procAt_31 : decode cX0_procAt 31 = .ok (.areturn, 1) := by decide +kernel
theorem dX0_pileAt_0 : decode cX0_pileAt 0 = .ok (.iload_n 1, 1) := by decide +kernel
theorem dX0_pileAt_1 : decode cX0_pileAt 1 = .ok (.ifCond .lt 29, 3) := by decide +kernel
theorem dX0_pileAt_4 : decode cX0_pileAt 4 = .ok (.iload_n 1, 1) := by decide +kernel
theorem dX0_pileAt_5 : decode cX0_pileAt 5 = .ok (.aload_n 0, 1) := by decide +kernel
theorem dX0_pileAt_6 : decode cX0_pileAt 6 = .ok (.getfield 46, 3) := by decide +kernel
theorem dX0_pileAt_9 : decode cX0_pileAt 9 = .ok (.if_icmp .ge 21, 3) := by decide +kernel
theorem dX0_pileAt_12 : decode cX0_pileAt 12 = .ok (.iload_n 1, 1) := by decide +kernel
theorem dX0_pileAt_13 : decode cX0_pileAt 13 = .ok (.aload_n 0, 1) := by decide +kernel
theorem dX0_pileAt_14 : decode cX0_pileAt 14 = .ok (.getfield 19, 3) := by decide +kernel
theorem dX0_pileAt_17 : decode cX0_pileAt 17 = .ok (.arraylength, 1) := by decide +kernel
theorem dX0_pileAt_18 : decode cX0_pileAt 18 = .ok (.if_icmp .ge 12, 3) := by decide +kernel
theorem dX0_pileAt_21 : decode cX0_pileAt 21 = .ok (.aload_n 0, 1) := by decide +kernel
theorem dX0_pileAt_22 : decode cX0_pileAt 22 = .ok (.getfield 19, 3) := by decide +kernel
theorem dX0_pileAt_25 : decode cX0_pileAt 25 = .ok (.iload_n 1, 1) := by decide +kernel
theorem dX0_pileAt_26 : decode cX0_pileAt 26 = .ok (.aaload, 1) := by decide +kernel
theorem dX0_pileAt_27 : decode cX0_pileAt 27 = .ok (.goto 4, 3) := by decide +kernel
theorem dX0_pileAt_30 : decode cX0_pileAt 30 = .ok (.aconst_null, 1) := by decide +kernel
theorem dX0_pileAt_31 : decode cX0_pileAt 31 = .ok (.areturn, 1) := by decide +kernel
theorem dX0_hasSlot_0 : decode cX0_hasSlot 0 = .ok (.iload_n 1, 1) := by decide +kernel
theorem dX0_hasSlot_1 : decode cX0_hasSlot 1 = .ok (.ifCond .lt 15, 3) := by decide +kernel
theorem dX0_hasSlot_4 : decode cX0_hasSlot 4 = .ok (.iload_n 1, 1) := by decide +kernel
theorem dX0_hasSlot_5 : decode cX0_hasSlot 5 = .ok (.aload_n 0, 1) := by decide +kernel
theorem dX0_hasSlot_6 : decode cX0_hasSlot 6 = .ok (.getfield 40, 3) := by decide +kernel
theorem dX0_hasSlot_9 : decode cX0_hasSlot 9 = .ok (.if_icmp .ge 7, 3) := by decide +kernel
theorem dX0_hasSlot_12 : decode cX0_hasSlot 12 = .ok (.iconst 1, 1) := by decide +kernel
theorem dX0_hasSlot_13 : decode cX0_hasSlot 13 = .ok (.goto 4, 3) := by decide +kernel
theorem dX0_hasSlot_16 : decode cX0_hasSlot 16 = .ok (.iconst 0, 1) := by decide +kernel
theorem dX0_hasSlot_17 : decode cX0_hasSlot 17 = .ok (.ireturn, 1) := by decide +kernel
theorem dX0_lyingOn_0 : decode cX0_lyingOn 0 = .ok (.iload_n 1, 1) := by decide +kernel
theorem dX0_lyingOn_1 : decode cX0_lyingOn 1 = .ok (.ifCond .lt 21, 3) := by decide +kernel
theorem dX0_lyingOn_4 : decode cX0_lyingOn 4 = .ok (.iload_n 1, 1) := by decide +kernel
theorem dX0_lyingOn_5 : decode cX0_lyingOn 5 = .ok (.aload_n 0, 1) := by decide +kernel
theorem dX0_lyingOn_6 : decode cX0_lyingOn 6 = .ok (.getfield 23, 3) := by decide +kernel
theorem dX0_lyingOn_9 : decode cX0_lyingOn 9 = .ok (.arraylength, 1) := by decide +kernel
theorem dX0_lyingOn_10 : decode cX0_lyingOn 10 = .ok (.if_icmp .ge 12, 3) := by decide +kernel
theorem dX0_lyingOn_13 : decode cX0_lyingOn 13 = .ok (.aload_n 0, 1) := by decide +kernel
theorem dX0_lyingOn_14 : decode cX0_lyingOn 14 = .ok (.getfield 23, 3) := by decide +kernel
theorem dX0_lyingOn_17 : decode cX0_lyingOn 17 = .ok (.iload_n 1, 1) := by decide +kernel
theorem dX0_lyingOn_18 : decode cX0_lyingOn 18 = .ok (.iaload, 1) := by decide +kernel
theorem dX0_lyingOn_19 : decode cX0_lyingOn 19 = .ok (.goto 4, 3) := by decide +kernel
theorem dX0_lyingOn_22 : decode cX0_lyingOn 22 = .ok (.iconst (-1), 1) := by decide +kernel
theorem dX0_lyingOn_23 : decode cX0_lyingOn 23 = .ok (.ireturn, 1) := by decide +kernel
theorem dX0_lowestEmptySlot_0 : decode cX0_lowestEmptySlot 0 = .ok (.iconst 0, 1) := by decide +kernel
theorem dX0_lowestEmptySlot_1 : decode cX0_lowestEmptySlot 1 = .ok (.istore_n 1, 1) := by decide +kernel
theorem dX0_lowestEmptySlot_2 : decode cX0_lowestEmptySlot 2 = .ok (.iload_n 1, 1) := by decide +kernel
theorem dX0_lowestEmptySlot_3 : decode cX0_lowestEmptySlot 3 = .ok (.aload_n 0, 1) := by decide +kernel
theorem dX0_lowestEmptySlot_4 : decode cX0_lowestEmptySlot 4 = .ok (.getfield 40, 3) := by decide +kernel
theorem dX0_lowestEmptySlot_7 : decode cX0_lowestEmptySlot 7 = .ok (.if_icmp .ge 20, 3) := by decide +kernel
theorem dX0_lowestEmptySlot_10 : decode cX0_lowestEmptySlot 10 = .ok (.aload_n 0, 1) := by decide +kernel
theorem dX0_lowestEmptySlot_11 : decode cX0_lowestEmptySlot 11 = .ok (.iload_n 1, 1) := by decide +kernel
theorem dX0_lowestEmptySlot_12 : decode cX0_lowestEmptySlot 12 = .ok (.invokevirtual 78, 3) := by decide +kernel
theorem dX0_lowestEmptySlot_15 : decode cX0_lowestEmptySlot 15 = .ok (.iconst (-1), 1) := by decide +kernel
theorem dX0_lowestEmptySlot_16 : decode cX0_lowestEmptySlot 16 = .ok (.if_icmp .ne 5, 3) := by decide +kernel
theorem dX0_lowestEmptySlot_19 : decode cX0_lowestEmptySlot 19 = .ok (.iload_n 1, 1) := by decide +kernel
theorem dX0_lowestEmptySlot_20 : decode cX0_lowestEmptySlot 20 = .ok (.ireturn, 1) := by decide +kernel
theorem dX0_lowestEmptySlot_21 : decode cX0_lowestEmptySlot 21 = .ok (.iinc 1 1, 3) := by decide +kernel
theorem dX0_lowestEmptySlot_24 : decode cX0_lowestEmptySlot 24 = .ok (.goto (-22), 3) := by decide +kernel
theorem dX0_lowestEmptySlot_27 : decode cX0_lowestEmptySlot 27 = .ok (.iconst (-1), 1) := by decide +kernel
theorem dX0_lowestEmptySlot_28 : decode cX0_lowestEmptySlot 28 = .ok (.ireturn, 1) := by decide +kernel
theorem dX0_setOnSlot_0 : decode cX0_setOnSlot 0 = .ok (.iload_n 1, 1) := by decide +kernel
theorem dX0_setOnSlot_1 : decode cX0_setOnSlot 1 = .ok (.ifCond .lt 19, 3) := by decide +kernel
theorem dX0_setOnSlot_4 : decode cX0_setOnSlot 4 = .ok (.iload_n 1, 1) := by decide +kernel
theorem dX0_setOnSlot_5 : decode cX0_setOnSlot 5 = .ok (.aload_n 0, 1) := by decide +kernel
theorem dX0_setOnSlot_6 : decode cX0_setOnSlot 6 = .ok (.getfield 23, 3) := by decide +kernel
theorem dX0_setOnSlot_9 : decode cX0_setOnSlot 9 = .ok (.arraylength, 1) := by decide +kernel
theorem dX0_setOnSlot_10 : decode cX0_setOnSlot 10 = .ok (.if_icmp .ge 10, 3) := by decide +kernel
theorem dX0_setOnSlot_13 : decode cX0_setOnSlot 13 = .ok (.aload_n 0, 1) := by decide +kernel
theorem dX0_setOnSlot_14 : decode cX0_setOnSlot 14 = .ok (.getfield 23, 3) := by decide +kernel
theorem dX0_setOnSlot_17 : decode cX0_setOnSlot 17 = .ok (.iload_n 1, 1) := by decide +kernel
theorem dX0_setOnSlot_18 : decode cX0_setOnSlot 18 = .ok (.iload_n 2, 1) := by decide +kernel
theorem dX0_setOnSlot_19 : decode cX0_setOnSlot 19 = .ok (.iastore, 1) := by decide +kernel
theorem dX0_setOnSlot_20 : decode cX0_setOnSlot 20 = .ok (.iload_n 2, 1) := by decide +kernel
theorem dX0_setOnSlot_21 : decode cX0_setOnSlot 21 = .ok (.ifCond .lt 32, 3) := by decide +kernel
theorem dX0_setOnSlot_24 : decode cX0_setOnSlot 24 = .ok (.iload_n 2, 1) := by decide +kernel
theorem dX0_setOnSlot_25 : decode cX0_setOnSlot 25 = .ok (.aload_n 0, 1) := by decide +kernel
theorem dX0_setOnSlot_26 : decode cX0_setOnSlot 26 = .ok (.getfield 19, 3) := by decide +kernel
theorem dX0_setOnSlot_29 : decode cX0_setOnSlot 29 = .ok (.arraylength, 1) := by decide +kernel
theorem dX0_setOnSlot_30 : decode cX0_setOnSlot 30 = .ok (.if_icmp .ge 23, 3) := by decide +kernel
theorem dX0_setOnSlot_33 : decode cX0_setOnSlot 33 = .ok (.aload_n 0, 1) := by decide +kernel
theorem dX0_setOnSlot_34 : decode cX0_setOnSlot 34 = .ok (.getfield 19, 3) := by decide +kernel
theorem dX0_setOnSlot_37 : decode cX0_setOnSlot 37 = .ok (.iload_n 2, 1) := by decide +kernel
theorem dX0_setOnSlot_38 : decode cX0_setOnSlot 38 = .ok (.aaload, 1) := by decide +kernel
theorem dX0_setOnSlot_39 : decode cX0_setOnSlot 39 = .ok (.iconst (-1), 1) := by decide +kernel
theorem dX0_setOnSlot_40 : decode cX0_setOnSlot 40 = .ok (.putfield 82, 3) := by decide +kernel
theorem dX0_setOnSlot_43 : decode cX0_setOnSlot 43 = .ok (.aload_n 0, 1) := by decide +kernel
theorem dX0_setOnSlot_44 : decode cX0_setOnSlot 44 = .ok (.getfield 19, 3) := by decide +kernel
theorem dX0_setOnSlot_47 : decode cX0_setOnSlot 47 = .ok (.iload_n 2, 1) := by decide +kernel
theorem dX0_setOnSlot_48 : decode cX0_setOnSlot 48 = .ok (.aaload, 1) := by decide +kernel
theorem dX0_setOnSlot_49 : decode cX0_setOnSlot 49 = .ok (.iload_n 1, 1) := by decide +kernel
theorem dX0_setOnSlot_50 : decode cX0_setOnSlot 50 = .ok (.putfield 85, 3) := by decide +kernel
theorem dX0_setOnSlot_53 : decode cX0_setOnSlot 53 = .ok (.return_, 1) := by decide +kernel
theorem dX0_setInHand_0 : decode cX0_setInHand 0 = .ok (.iload_n 1, 1) := by decide +kernel
theorem dX0_setInHand_1 : decode cX0_setInHand 1 = .ok (.ifCond .lt 22, 3) := by decide +kernel
theorem dX0_setInHand_4 : decode cX0_setInHand 4 = .ok (.iload_n 1, 1) := by decide +kernel
theorem dX0_setInHand_5 : decode cX0_setInHand 5 = .ok (.aload_n 0, 1) := by decide +kernel
theorem dX0_setInHand_6 : decode cX0_setInHand 6 = .ok (.getfield 11, 3) := by decide +kernel
theorem dX0_setInHand_9 : decode cX0_setInHand 9 = .ok (.arraylength, 1) := by decide +kernel
theorem dX0_setInHand_10 : decode cX0_setInHand 10 = .ok (.if_icmp .ge 13, 3) := by decide +kernel
theorem dX0_setInHand_13 : decode cX0_setInHand 13 = .ok (.aload_n 0, 1) := by decide +kernel
theorem dX0_setInHand_14 : decode cX0_setInHand 14 = .ok (.getfield 11, 3) := by decide +kernel
theorem dX0_setInHand_17 : decode cX0_setInHand 17 = .ok (.iload_n 1, 1) := by decide +kernel
theorem dX0_setInHand_18 : decode cX0_setInHand 18 = .ok (.aaload, 1) := by decide +kernel
theorem dX0_setInHand_19 : decode cX0_setInHand 19 = .ok (.iload_n 2, 1) := by decide +kernel
theorem dX0_setInHand_20 : decode cX0_setInHand 20 = .ok (.putfield 88, 3) := by decide +kernel
theorem dX0_setInHand_23 : decode cX0_setInHand 23 = .ok (.iload_n 2, 1) := by decide +kernel
theorem dX0_setInHand_24 : decode cX0_setInHand 24 = .ok (.ifCond .lt 32, 3) := by decide +kernel
theorem dX0_setInHand_27 : decode cX0_setInHand 27 = .ok (.iload_n 2, 1) := by decide +kernel
theorem dX0_setInHand_28 : decode cX0_setInHand 28 = .ok (.aload_n 0, 1) := by decide +kernel
theorem dX0_setInHand_29 : decode cX0_setInHand 29 = .ok (.getfield 19, 3) := by decide +kernel
theorem dX0_setInHand_32 : decode cX0_setInHand 32 = .ok (.arraylength, 1) := by decide +kernel
theorem dX0_setInHand_33 : decode cX0_setInHand 33 = .ok (.if_icmp .ge 23, 3) := by decide +kernel
theorem dX0_setInHand_36 : decode cX0_setInHand 36 = .ok (.aload_n 0, 1) := by decide +kernel
theorem dX0_setInHand_37 : decode cX0_setInHand 37 = .ok (.getfield 19, 3) := by decide +kernel
theorem dX0_setInHand_40 : decode cX0_setInHand 40 = .ok (.iload_n 2, 1) := by decide +kernel
theorem dX0_setInHand_41 : decode cX0_setInHand 41 = .ok (.aaload, 1) := by decide +kernel
theorem dX0_setInHand_42 : decode cX0_setInHand 42 = .ok (.iload_n 1, 1) := by decide +kernel
theorem dX0_setInHand_43 : decode cX0_setInHand 43 = .ok (.putfield 82, 3) := by decide +kernel
theorem dX0_setInHand_46 : decode cX0_setInHand 46 = .ok (.aload_n 0, 1) := by decide +kernel
theorem dX0_setInHand_47 : decode cX0_setInHand 47 = .ok (.getfield 19, 3) := by decide +kernel
theorem dX0_setInHand_50 : decode cX0_setInHand 50 = .ok (.iload_n 2, 1) := by decide +kernel
theorem dX0_setInHand_51 : decode cX0_setInHand 51 = .ok (.aaload, 1) := by decide +kernel
theorem dX0_setInHand_52 : decode cX0_setInHand 52 = .ok (.iconst (-1), 1) := by decide +kernel
theorem dX0_setInHand_53 : decode cX0_setInHand 53 = .ok (.putfield 85, 3) := by decide +kernel
theorem dX0_setInHand_56 : decode cX0_setInHand 56 = .ok (.return_, 1) := by decide +kernel
theorem dX0_procNamed_0 : decode cX0_procNamed 0 = .ok (.iconst 0, 1) := by decide +kernel
theorem dX0_procNamed_1 : decode cX0_procNamed 1 = .ok (.istore_n 3, 1) := by decide +kernel
theorem dX0_procNamed_2 : decode cX0_procNamed 2 = .ok (.iload_n 3, 1) := by decide +kernel
theorem dX0_procNamed_3 : decode cX0_procNamed 3 = .ok (.aload_n 0, 1) := by decide +kernel
theorem dX0_procNamed_4 : decode cX0_procNamed 4 = .ok (.getfield 43, 3) := by decide +kernel
theorem dX0_procNamed_7 : decode cX0_procNamed 7 = .ok (.if_icmp .ge 34, 3) := by decide +kernel
theorem dX0_procNamed_10 : decode cX0_procNamed 10 = .ok (.iload_n 3, 1) := by decide +kernel
theorem dX0_procNamed_11 : decode cX0_procNamed 11 = .ok (.aload_n 0, 1) := by decide +kernel
theorem dX0_procNamed_12 : decode cX0_procNamed 12 = .ok (.getfield 11, 3) := by decide +kernel
theorem dX0_procNamed_15 : decode cX0_procNamed 15 = .ok (.arraylength, 1) := by decide +kernel
theorem dX0_procNamed_16 : decode cX0_procNamed 16 = .ok (.if_icmp .ge 25, 3) := by decide +kernel
theorem dX0_procNamed_19 : decode cX0_procNamed 19 = .ok (.aload_n 0, 1) := by decide +kernel
theorem dX0_procNamed_20 : decode cX0_procNamed 20 = .ok (.getfield 11, 3) := by decide +kernel
theorem dX0_procNamed_23 : decode cX0_procNamed 23 = .ok (.iload_n 3, 1) := by decide +kernel
theorem dX0_procNamed_24 : decode cX0_procNamed 24 = .ok (.aaload, 1) := by decide +kernel
theorem dX0_procNamed_25 : decode cX0_procNamed 25 = .ok (.getfield 91, 3) := by decide +kernel
theorem dX0_procNamed_28 : decode cX0_procNamed 28 = .ok (.lload_n 1, 1) := by decide +kernel
theorem dX0_procNamed_29 : decode cX0_procNamed 29 = .ok (.lcmp, 1) := by decide +kernel
theorem dX0_procNamed_30 : decode cX0_procNamed 30 = .ok (.ifCond .ne 5, 3) := by decide +kernel
theorem dX0_procNamed_33 : decode cX0_procNamed 33 = .ok (.iload_n 3, 1) := by decide +kernel
theorem dX0_procNamed_34 : decode cX0_procNamed 34 = .ok (.ireturn, 1) := by decide +kernel
theorem dX0_procNamed_35 : decode cX0_procNamed 35 = .ok (.iinc 3 1, 3) := by decide +kernel
theorem dX0_procNamed_38 : decode cX0_procNamed 38 = .ok (.goto (-36), 3) := by decide +kernel
theorem dX0_procNamed_41 : decode cX0_procNamed 41 = .ok (.iconst (-1), 1) := by decide +kernel
theorem dX0_procNamed_42 : decode cX0_procNamed 42 = .ok (.ireturn, 1) := by decide +kernel
theorem dX0_countInState_0 : decode cX0_countInState 0 = .ok (.iconst 0, 1) := by decide +kernel
theorem dX0_countInState_1 : decode cX0_countInState 1 = .ok (.istore_n 2, 1) := by decide +kernel
theorem dX0_countInState_2 : decode cX0_countInState 2 = .ok (.iconst 0, 1) := by decide +kernel
theorem dX0_countInState_3 : decode cX0_countInState 3 = .ok (.istore_n 3, 1) := by decide +kernel
theorem dX0_countInState_4 : decode cX0_countInState 4 = .ok (.iload_n 3, 1) := by decide +kernel
theorem dX0_countInState_5 : decode cX0_countInState 5 = .ok (.aload_n 0, 1) := by decide +kernel
theorem dX0_countInState_6 : decode cX0_countInState 6 = .ok (.getfield 43, 3) := by decide +kernel
theorem dX0_countInState_9 : decode cX0_countInState 9 = .ok (.if_icmp .ge 34, 3) := by decide +kernel
theorem dX0_countInState_12 : decode cX0_countInState 12 = .ok (.iload_n 3, 1) := by decide +kernel
theorem dX0_countInState_13 : decode cX0_countInState 13 = .ok (.aload_n 0, 1) := by decide +kernel
theorem dX0_countInState_14 : decode cX0_countInState 14 = .ok (.getfield 11, 3) := by decide +kernel
theorem dX0_countInState_17 : decode cX0_countInState 17 = .ok (.arraylength, 1) := by decide +kernel
theorem dX0_countInState_18 : decode cX0_countInState 18 = .ok (.if_icmp .ge 25, 3) := by decide +kernel
theorem dX0_countInState_21 : decode cX0_countInState 21 = .ok (.aload_n 0, 1) := by decide +kernel
theorem dX0_countInState_22 : decode cX0_countInState 22 = .ok (.getfield 11, 3) := by decide +kernel
theorem dX0_countInState_25 : decode cX0_countInState 25 = .ok (.iload_n 3, 1) := by decide +kernel
theorem dX0_countInState_26 : decode cX0_countInState 26 = .ok (.aaload, 1) := by decide +kernel
theorem dX0_countInState_27 : decode cX0_countInState 27 = .ok (.getfield 95, 3) := by decide +kernel
theorem dX0_countInState_30 : decode cX0_countInState 30 = .ok (.iload_n 1, 1) := by decide +kernel
theorem dX0_countInState_31 : decode cX0_countInState 31 = .ok (.if_icmp .ne 6, 3) := by decide +kernel
theorem dX0_countInState_34 : decode cX0_countInState 34 = .ok (.iinc 2 1, 3) := by decide +kernel
theorem dX0_countInState_37 : decode cX0_countInState 37 = .ok (.iinc 3 1, 3) := by decide +kernel
theorem dX0_countInState_40 : decode cX0_countInState 40 = .ok (.goto (-36), 3) := by decide +kernel
theorem dX0_countInState_43 : decode cX0_countInState 43 = .ok (.iload_n 2, 1) := by decide +kernel
theorem dX0_countInState_44 : decode cX0_countInState 44 = .ok (.ireturn, 1) := by decide +kernel
theorem dX0_allSteps_0 : decode cX0_allSteps 0 = .ok (.iconst 0, 1) := by decide +kernel
theorem dX0_allSteps_1 : decode cX0_allSteps 1 = .ok (.istore_n 1, 1) := by decide +kernel
theorem dX0_allSteps_2 : decode cX0_allSteps 2 = .ok (.iconst 0, 1) := by decide +kernel
theorem dX0_allSteps_3 : decode cX0_allSteps 3 = .ok (.istore_n 2, 1) := by decide +kernel
theorem dX0_allSteps_4 : decode cX0_allSteps 4 = .ok (.iload_n 2, 1) := by decide +kernel
theorem dX0_allSteps_5 : decode cX0_allSteps 5 = .ok (.aload_n 0, 1) := by decide +kernel
theorem dX0_allSteps_6 : decode cX0_allSteps 6 = .ok (.getfield 43, 3) := by decide +kernel
theorem dX0_allSteps_9 : decode cX0_allSteps 9 = .ok (.if_icmp .ge 30, 3) := by decide +kernel
theorem dX0_allSteps_12 : decode cX0_allSteps 12 = .ok (.iload_n 2, 1) := by decide +kernel
theorem dX0_allSteps_13 : decode cX0_allSteps 13 = .ok (.aload_n 0, 1) := by decide +kernel
theorem dX0_allSteps_14 : decode cX0_allSteps 14 = .ok (.getfield 11, 3) := by decide +kernel
theorem dX0_allSteps_17 : decode cX0_allSteps 17 = .ok (.arraylength, 1) := by decide +kernel
theorem dX0_allSteps_18 : decode cX0_allSteps 18 = .ok (.if_icmp .ge 21, 3) := by decide +kernel
theorem dX0_allSteps_21 : decode cX0_allSteps 21 = .ok (.iload_n 1, 1) := by decide +kernel
theorem dX0_allSteps_22 : decode cX0_allSteps 22 = .ok (.aload_n 0, 1) := by decide +kernel
theorem dX0_allSteps_23 : decode cX0_allSteps 23 = .ok (.getfield 11, 3) := by decide +kernel
theorem dX0_allSteps_26 : decode cX0_allSteps 26 = .ok (.iload_n 2, 1) := by decide +kernel
theorem dX0_allSteps_27 : decode cX0_allSteps 27 = .ok (.aaload, 1) := by decide +kernel
theorem dX0_allSteps_28 : decode cX0_allSteps 28 = .ok (.getfield 98, 3) := by decide +kernel
theorem dX0_allSteps_31 : decode cX0_allSteps 31 = .ok (.iadd, 1) := by decide +kernel
theorem dX0_allSteps_32 : decode cX0_allSteps 32 = .ok (.istore_n 1, 1) := by decide +kernel
theorem dX0_allSteps_33 : decode cX0_allSteps 33 = .ok (.iinc 2 1, 3) := by decide +kernel
theorem dX0_allSteps_36 : decode cX0_allSteps 36 = .ok (.goto (-32), 3) := by decide +kernel
theorem dX0_allSteps_39 : decode cX0_allSteps 39 = .ok (.iload_n 1, 1) := by decide +kernel
theorem dX0_allSteps_40 : decode cX0_allSteps 40 = .ok (.ireturn, 1) := by decide +kernel
theorem dX0_allWaits_0 : decode cX0_allWaits 0 = .ok (.iconst 0, 1) := by decide +kernel
theorem dX0_allWaits_1 : decode cX0_allWaits 1 = .ok (.istore_n 1, 1) := by decide +kernel
theorem dX0_allWaits_2 : decode cX0_allWaits 2 = .ok (.iconst 0, 1) := by decide +kernel
theorem dX0_allWaits_3 : decode cX0_allWaits 3 = .ok (.istore_n 2, 1) := by decide +kernel
theorem dX0_allWaits_4 : decode cX0_allWaits 4 = .ok (.iload_n 2, 1) := by decide +kernel
theorem dX0_allWaits_5 : decode cX0_allWaits 5 = .ok (.aload_n 0, 1) := by decide +kernel
theorem dX0_allWaits_6 : decode cX0_allWaits 6 = .ok (.getfield 43, 3) := by decide +kernel
theorem dX0_allWaits_9 : decode cX0_allWaits 9 = .ok (.if_icmp .ge 30, 3) := by decide +kernel
theorem dX0_allWaits_12 : decode cX0_allWaits 12 = .ok (.iload_n 2, 1) := by decide +kernel
theorem dX0_allWaits_13 : decode cX0_allWaits 13 = .ok (.aload_n 0, 1) := by decide +kernel
theorem dX0_allWaits_14 : decode cX0_allWaits 14 = .ok (.getfield 11, 3) := by decide +kernel
theorem dX0_allWaits_17 : decode cX0_allWaits 17 = .ok (.arraylength, 1) := by decide +kernel
theorem dX0_allWaits_18 : decode cX0_allWaits 18 = .ok (.if_icmp .ge 21, 3) := by decide +kernel
theorem dX0_allWaits_21 : decode cX0_allWaits 21 = .ok (.iload_n 1, 1) := by decide +kernel
theorem dX0_allWaits_22 : decode cX0_allWaits 22 = .ok (.aload_n 0, 1) := by decide +kernel
theorem dX0_allWaits_23 : decode cX0_allWaits 23 = .ok (.getfield 11, 3) := by decide +kernel
theorem dX0_allWaits_26 : decode cX0_allWaits 26 = .ok (.iload_n 2, 1) := by decide +kernel
theorem dX0_allWaits_27 : decode cX0_allWaits 27 = .ok (.aaload, 1) := by decide +kernel
theorem dX0_allWaits_28 : decode cX0_allWaits 28 = .ok (.getfield 101, 3) := by decide +kernel
theorem dX0_allWaits_31 : decode cX0_allWaits 31 = .ok (.iadd, 1) := by decide +kernel
theorem dX0_allWaits_32 : decode cX0_allWaits 32 = .ok (.istore_n 1, 1) := by decide +kernel
theorem dX0_allWaits_33 : decode cX0_allWaits 33 = .ok (.iinc 2 1, 3) := by decide +kernel
theorem dX0_allWaits_36 : decode cX0_allWaits 36 = .ok (.goto (-32), 3) := by decide +kernel
theorem dX0_allWaits_39 : decode cX0_allWaits 39 = .ok (.iload_n 1, 1) := by decide +kernel
theorem dX0_allWaits_40 : decode cX0_allWaits 40 = .ok (.ireturn, 1) := by decide +kernel
theorem dX0_stepSpread_0 : decode cX0_stepSpread 0 = .ok (.iconst 0, 1) := by decide +kernel
theorem dX0_stepSpread_1 : decode cX0_stepSpread 1 = .ok (.istore_n 1, 1) := by decide +kernel
theorem dX0_stepSpread_2 : decode cX0_stepSpread 2 = .ok (.iconst 0, 1) := by decide +kernel
theorem dX0_stepSpread_3 : decode cX0_stepSpread 3 = .ok (.istore_n 2, 1) := by decide +kernel
theorem dX0_stepSpread_4 : decode cX0_stepSpread 4 = .ok (.iconst 0, 1) := by decide +kernel
theorem dX0_stepSpread_5 : decode cX0_stepSpread 5 = .ok (.istore_n 3, 1) := by decide +kernel
theorem dX0_stepSpread_6 : decode cX0_stepSpread 6 = .ok (.iload_n 3, 1) := by decide +kernel
theorem dX0_stepSpread_7 : decode cX0_stepSpread 7 = .ok (.aload_n 0, 1) := by decide +kernel
theorem dX0_stepSpread_8 : decode cX0_stepSpread 8 = .ok (.getfield 43, 3) := by decide +kernel
theorem dX0_stepSpread_11 : decode cX0_stepSpread 11 = .ok (.if_icmp .ge 62, 3) := by decide +kernel
theorem dX0_stepSpread_14 : decode cX0_stepSpread 14 = .ok (.iload_n 3, 1) := by decide +kernel
theorem dX0_stepSpread_15 : decode cX0_stepSpread 15 = .ok (.aload_n 0, 1) := by decide +kernel
theorem dX0_stepSpread_16 : decode cX0_stepSpread 16 = .ok (.getfield 11, 3) := by decide +kernel
theorem dX0_stepSpread_19 : decode cX0_stepSpread 19 = .ok (.arraylength, 1) := by decide +kernel
theorem dX0_stepSpread_20 : decode cX0_stepSpread 20 = .ok (.if_icmp .ge 53, 3) := by decide +kernel
theorem dX0_stepSpread_23 : decode cX0_stepSpread 23 = .ok (.iload_n 1, 1) := by decide +kernel
theorem dX0_stepSpread_24 : decode cX0_stepSpread 24 = .ok (.aload_n 0, 1) := by decide +kernel
theorem dX0_stepSpread_25 : decode cX0_stepSpread 25 = .ok (.getfield 11, 3) := by decide +kernel
theorem dX0_stepSpread_28 : decode cX0_stepSpread 28 = .ok (.iload_n 3, 1) := by decide +kernel
theorem dX0_stepSpread_29 : decode cX0_stepSpread 29 = .ok (.aaload, 1) := by decide +kernel
theorem dX0_stepSpread_30 : decode cX0_stepSpread 30 = .ok (.getfield 98, 3) := by decide +kernel
theorem dX0_stepSpread_33 : decode cX0_stepSpread 33 = .ok (.invokestatic 104, 3) := by decide +kernel
theorem dX0_stepSpread_36 : decode cX0_stepSpread 36 = .ok (.istore_n 1, 1) := by decide +kernel
theorem dX0_stepSpread_37 : decode cX0_stepSpread 37 = .ok (.iload_n 3, 1) := by decide +kernel
theorem dX0_stepSpread_38 : decode cX0_stepSpread 38 = .ok (.ifCond .ne 15, 3) := by decide +kernel
theorem dX0_stepSpread_41 : decode cX0_stepSpread 41 = .ok (.aload_n 0, 1) := by decide +kernel
theorem dX0_stepSpread_42 : decode cX0_stepSpread 42 = .ok (.getfield 11, 3) := by decide +kernel
theorem dX0_stepSpread_45 : decode cX0_stepSpread 45 = .ok (.iload_n 3, 1) := by decide +kernel
theorem dX0_stepSpread_46 : decode cX0_stepSpread 46 = .ok (.aaload, 1) := by decide +kernel
theorem dX0_stepSpread_47 : decode cX0_stepSpread 47 = .ok (.getfield 98, 3) := by decide +kernel
theorem dX0_stepSpread_50 : decode cX0_stepSpread 50 = .ok (.goto 16, 3) := by decide +kernel
theorem dX0_stepSpread_53 : decode cX0_stepSpread 53 = .ok (.iload_n 2, 1) := by decide +kernel
theorem dX0_stepSpread_54 : decode cX0_stepSpread 54 = .ok (.aload_n 0, 1) := by decide +kernel
theorem dX0_stepSpread_55 : decode cX0_stepSpread 55 = .ok (.getfield 11, 3) := by decide +kernel
theorem dX0_stepSpread_58 : decode cX0_stepSpread 58 = .ok (.iload_n 3, 1) := by decide +kernel
theorem dX0_stepSpread_59 : decode cX0_stepSpread 59 = .ok (.aaload, 1) := by decide +kernel
theorem dX0_stepSpread_60 : decode cX0_stepSpread 60 = .ok (.getfield 98, 3) := by decide +kernel
theorem dX0_stepSpread_63 : decode cX0_stepSpread 63 = .ok (.invokestatic 110, 3) := by decide +kernel
theorem dX0_stepSpread_66 : decode cX0_stepSpread 66 = .ok (.istore_n 2, 1) := by decide +kernel
theorem dX0_stepSpread_67 : decode cX0_stepSpread 67 = .ok (.iinc 3 1, 3) := by decide +kernel
theorem dX0_stepSpread_70 : decode cX0_stepSpread 70 = .ok (.goto (-64), 3) := by decide +kernel
theorem dX0_stepSpread_73 : decode cX0_stepSpread 73 = .ok (.iload_n 1, 1) := by decide +kernel
theorem dX0_stepSpread_74 : decode cX0_stepSpread 74 = .ok (.iload_n 2, 1) := by decide +kernel
theorem dX0_stepSpread_75 : decode cX0_stepSpread 75 = .ok (.isub, 1) := by decide +kernel
theorem dX0_stepSpread_76 : decode cX0_stepSpread 76 = .ok (.ireturn, 1) := by decide +kernel
theorem dX0_nextProc_0 : decode cX0_nextProc 0 = .ok (.aload_n 0, 1) := by decide +kernel
theorem dX0_nextProc_1 : decode cX0_nextProc 1 = .ok (.getfield 52, 3) := by decide +kernel
theorem dX0_nextProc_4 : decode cX0_nextProc 4 = .ok (.istore_n 1, 1) := by decide +kernel
theorem dX0_nextProc_5 : decode cX0_nextProc 5 = .ok (.iconst 0, 1) := by decide +kernel
theorem dX0_nextProc_6 : decode cX0_nextProc 6 = .ok (.istore_n 2, 1) := by decide +kernel
theorem dX0_nextProc_7 : decode cX0_nextProc 7 = .ok (.iload_n 2, 1) := by decide +kernel
theorem dX0_nextProc_8 : decode cX0_nextProc 8 = .ok (.aload_n 0, 1) := by decide +kernel
theorem dX0_nextProc_9 : decode cX0_nextProc 9 = .ok (.getfield 43, 3) := by decide +kernel
theorem dX0_nextProc_12 : decode cX0_nextProc 12 = .ok (.if_icmp .ge 46, 3) := by decide +kernel
theorem dX0_nextProc_15 : decode cX0_nextProc 15 = .ok (.iload_n 1, 1) := by decide +kernel
theorem dX0_nextProc_16 : decode cX0_nextProc 16 = .ok (.iconst 1, 1) := by decide +kernel
theorem dX0_nextProc_17 : decode cX0_nextProc 17 = .ok (.iadd, 1) := by decide +kernel
theorem dX0_nextProc_18 : decode cX0_nextProc 18 = .ok (.aload_n 0, 1) := by decide +kernel
theorem dX0_nextProc_19 : decode cX0_nextProc 19 = .ok (.getfield 43, 3) := by decide +kernel
theorem dX0_nextProc_22 : decode cX0_nextProc 22 = .ok (.if_icmp .ge 9, 3) := by decide +kernel
theorem dX0_nextProc_25 : decode cX0_nextProc 25 = .ok (.iload_n 1, 1) := by decide +kernel
theorem dX0_nextProc_26 : decode cX0_nextProc 26 = .ok (.iconst 1, 1) := by decide +kernel
theorem dX0_nextProc_27 : decode cX0_nextProc 27 = .ok (.iadd, 1) := by decide +kernel
theorem dX0_nextProc_28 : decode cX0_nextProc 28 = .ok (.goto 4, 3) := by decide +kernel
theorem dX0_nextProc_31 : decode cX0_nextProc 31 = .ok (.iconst 0, 1) := by decide +kernel
theorem dX0_nextProc_32 : decode cX0_nextProc 32 = .ok (.istore_n 1, 1) := by decide +kernel
theorem dX0_nextProc_33 : decode cX0_nextProc 33 = .ok (.aload_n 0, 1) := by decide +kernel
theorem dX0_nextProc_34 : decode cX0_nextProc 34 = .ok (.iload_n 1, 1) := by decide +kernel
theorem dX0_nextProc_35 : decode cX0_nextProc 35 = .ok (.invokevirtual 113, 3) := by decide +kernel
theorem dX0_nextProc_38 : decode cX0_nextProc 38 = .ok (.astore_n 3, 1) := by decide +kernel
theorem dX0_nextProc_39 : decode cX0_nextProc 39 = .ok (.aload_n 3, 1) := by decide +kernel
theorem dX0_nextProc_40 : decode cX0_nextProc 40 = .ok (.ifnull 12, 3) := by decide +kernel
theorem dX0_nextProc_43 : decode cX0_nextProc 43 = .ok (.aload_n 3, 1) := by decide +kernel
theorem dX0_nextProc_44 : decode cX0_nextProc 44 = .ok (.getfield 95, 3) := by decide +kernel
theorem dX0_nextProc_47 : decode cX0_nextProc 47 = .ok (.ifCond .ne 5, 3) := by decide +kernel
theorem dX0_nextProc_50 : decode cX0_nextProc 50 = .ok (.iload_n 1, 1) := by decide +kernel
theorem dX0_nextProc_51 : decode cX0_nextProc 51 = .ok (.ireturn, 1) := by decide +kernel
theorem dX0_nextProc_52 : decode cX0_nextProc 52 = .ok (.iinc 2 1, 3) := by decide +kernel
theorem dX0_nextProc_55 : decode cX0_nextProc 55 = .ok (.goto (-48), 3) := by decide +kernel
theorem dX0_nextProc_58 : decode cX0_nextProc 58 = .ok (.iconst (-1), 1) := by decide +kernel
theorem dX0_nextProc_59 : decode cX0_nextProc 59 = .ok (.ireturn, 1) := by decide +kernel
theorem dX1_init_0 : decode cX1_init 0 = .ok (.aload_n 0, 1) := by decide +kernel
theorem dX1_init_1 : decode cX1_init 1 = .ok (.invokespecial 3, 3) := by decide +kernel
theorem dX1_init_4 : decode cX1_init 4 = .ok (.aload_n 0, 1) := by decide +kernel
theorem dX1_init_5 : decode cX1_init 5 = .ok (.bipush 8, 2) := by decide +kernel
theorem dX1_init_7 : decode cX1_init 7 = .ok (.anewarray 9, 3) := by decide +kernel
theorem dX1_init_10 : decode cX1_init 10 = .ok (.putfield 11, 3) := by decide +kernel
theorem dX1_init_13 : decode cX1_init 13 = .ok (.iconst 0, 1) := by decide +kernel
theorem dX1_init_14 : decode cX1_init 14 = .ok (.istore_n 1, 1) := by decide +kernel
theorem dX1_init_15 : decode cX1_init 15 = .ok (.iload_n 1, 1) := by decide +kernel
theorem dX1_init_16 : decode cX1_init 16 = .ok (.aload_n 0, 1) := by decide +kernel
theorem dX1_init_17 : decode cX1_init 17 = .ok (.getfield 11, 3) := by decide +kernel
theorem dX1_init_20 : decode cX1_init 20 = .ok (.arraylength, 1) := by decide +kernel
theorem dX1_init_21 : decode cX1_init 21 = .ok (.if_icmp .ge 22, 3) := by decide +kernel
theorem dX1_init_24 : decode cX1_init 24 = .ok (.aload_n 0, 1) := by decide +kernel
theorem dX1_init_25 : decode cX1_init 25 = .ok (.getfield 11, 3) := by decide +kernel
theorem dX1_init_28 : decode cX1_init 28 = .ok (.iload_n 1, 1) := by decide +kernel
theorem dX1_init_29 : decode cX1_init 29 = .ok (.new 9, 3) := by decide +kernel
theorem dX1_init_32 : decode cX1_init 32 = .ok (.dup, 1) := by decide +kernel
theorem dX1_init_33 : decode cX1_init 33 = .ok (.invokespecial 17, 3) := by decide +kernel
theorem dX1_init_36 : decode cX1_init 36 = .ok (.aastore, 1) := by decide +kernel
theorem dX1_init_37 : decode cX1_init 37 = .ok (.iinc 1 1, 3) := by decide +kernel
theorem dX1_init_40 : decode cX1_init 40 = .ok (.goto (-25), 3) := by decide +kernel
theorem dX1_init_43 : decode cX1_init 43 = .ok (.return_, 1) := by decide +kernel
theorem dX1_remember_0 : decode cX1_remember 0 = .ok (.aload_n 0, 1) := by decide +kernel
theorem dX1_remember_1 : decode cX1_remember 1 = .ok (.getfield 18, 3) := by decide +kernel
theorem dX1_remember_4 : decode cX1_remember 4 = .ok (.ifCond .lt 28, 3) := by decide +kernel
theorem dX1_remember_7 : decode cX1_remember 7 = .ok (.aload_n 0, 1) := by decide +kernel
theorem dX1_remember_8 : decode cX1_remember 8 = .ok (.getfield 18, 3) := by decide +kernel
theorem dX1_remember_11 : decode cX1_remember 11 = .ok (.aload_n 0, 1) := by decide +kernel
theorem dX1_remember_12 : decode cX1_remember 12 = .ok (.getfield 11, 3) := by decide +kernel
theorem dX1_remember_15 : decode cX1_remember 15 = .ok (.arraylength, 1) := by decide +kernel
theorem dX1_remember_16 : decode cX1_remember 16 = .ok (.if_icmp .ge 16, 3) := by decide +kernel
theorem dX1_remember_19 : decode cX1_remember 19 = .ok (.aload_n 0, 1) := by decide +kernel
theorem dX1_remember_20 : decode cX1_remember 20 = .ok (.getfield 11, 3) := by decide +kernel
theorem dX1_remember_23 : decode cX1_remember 23 = .ok (.aload_n 0, 1) := by decide +kernel
theorem dX1_remember_24 : decode cX1_remember 24 = .ok (.getfield 18, 3) := by decide +kernel
theorem dX1_remember_27 : decode cX1_remember 27 = .ok (.aaload, 1) := by decide +kernel
theorem dX1_remember_28 : decode cX1_remember 28 = .ok (.aload_n 1, 1) := by decide +kernel
theorem dX1_remember_29 : decode cX1_remember 29 = .ok (.invokevirtual 22, 3) := by decide +kernel
theorem dX1_remember_32 : decode cX1_remember 32 = .ok (.aload_n 0, 1) := by decide +kernel
theorem dX1_remember_33 : decode cX1_remember 33 = .ok (.aload_n 0, 1) := by decide +kernel
theorem dX1_remember_34 : decode cX1_remember 34 = .ok (.getfield 18, 3) := by decide +kernel
theorem dX1_remember_37 : decode cX1_remember 37 = .ok (.iconst 1, 1) := by decide +kernel
theorem dX1_remember_38 : decode cX1_remember 38 = .ok (.iadd, 1) := by decide +kernel
theorem dX1_remember_39 : decode cX1_remember 39 = .ok (.bipush 8, 2) := by decide +kernel
theorem dX1_remember_41 : decode cX1_remember 41 = .ok (.irem, 1) := by decide +kernel
theorem dX1_remember_42 : decode cX1_remember 42 = .ok (.putfield 18, 3) := by decide +kernel
theorem dX1_remember_45 : decode cX1_remember 45 = .ok (.aload_n 0, 1) := by decide +kernel
theorem dX1_remember_46 : decode cX1_remember 46 = .ok (.aload_n 0, 1) := by decide +kernel
theorem dX1_remember_47 : decode cX1_remember 47 = .ok (.getfield 26, 3) := by decide +kernel
theorem dX1_remember_50 : decode cX1_remember 50 = .ok (.iconst 1, 1) := by decide +kernel
theorem dX1_remember_51 : decode cX1_remember 51 = .ok (.iadd, 1) := by decide +kernel
theorem dX1_remember_52 : decode cX1_remember 52 = .ok (.bipush 8, 2) := by decide +kernel
theorem dX1_remember_54 : decode cX1_remember 54 = .ok (.invokestatic 29, 3) := by decide +kernel
theorem dX1_remember_57 : decode cX1_remember 57 = .ok (.putfield 26, 3) := by decide +kernel
theorem dX1_remember_60 : decode cX1_remember 60 = .ok (.return_, 1) := by decide +kernel
theorem dX1_bringBack_0 : decode cX1_bringBack 0 = .ok (.aload_n 0, 1) := by decide +kernel
theorem dX1_bringBack_1 : decode cX1_bringBack 1 = .ok (.getfield 26, 3) := by decide +kernel
theorem dX1_bringBack_4 : decode cX1_bringBack 4 = .ok (.ifCond .gt 4, 3) := by decide +kernel
theorem dX1_bringBack_7 : decode cX1_bringBack 7 = .ok (.return_, 1) := by decide +kernel
theorem dX1_bringBack_8 : decode cX1_bringBack 8 = .ok (.aload_n 0, 1) := by decide +kernel
theorem dX1_bringBack_9 : decode cX1_bringBack 9 = .ok (.aload_n 0, 1) := by decide +kernel
theorem dX1_bringBack_10 : decode cX1_bringBack 10 = .ok (.getfield 18, 3) := by decide +kernel
theorem dX1_bringBack_13 : decode cX1_bringBack 13 = .ok (.bipush 8, 2) := by decide +kernel
theorem dX1_bringBack_15 : decode cX1_bringBack 15 = .ok (.iadd, 1) := by decide +kernel
theorem dX1_bringBack_16 : decode cX1_bringBack 16 = .ok (.iconst 1, 1) := by decide +kernel
theorem dX1_bringBack_17 : decode cX1_bringBack 17 = .ok (.isub, 1) := by decide +kernel
theorem dX1_bringBack_18 : decode cX1_bringBack 18 = .ok (.bipush 8, 2) := by decide +kernel
theorem dX1_bringBack_20 : decode cX1_bringBack 20 = .ok (.irem, 1) := by decide +kernel
theorem dX1_bringBack_21 : decode cX1_bringBack 21 = .ok (.putfield 18, 3) := by decide +kernel
theorem dX1_bringBack_24 : decode cX1_bringBack 24 = .ok (.aload_n 0, 1) := by decide +kernel
theorem dX1_bringBack_25 : decode cX1_bringBack 25 = .ok (.dup, 1) := by decide +kernel
theorem dX1_bringBack_26 : decode cX1_bringBack 26 = .ok (.getfield 26, 3) := by decide +kernel
theorem dX1_bringBack_29 : decode cX1_bringBack 29 = .ok (.iconst 1, 1) := by decide +kernel
theorem dX1_bringBack_30 : decode cX1_bringBack 30 = .ok (.isub, 1) := by decide +kernel
theorem dX1_bringBack_31 : decode cX1_bringBack 31 = .ok (.putfield 26, 3) := by decide +kernel
theorem dX1_bringBack_34 : decode cX1_bringBack 34 = .ok (.aload_n 0, 1) := by decide +kernel
theorem dX1_bringBack_35 : decode cX1_bringBack 35 = .ok (.getfield 18, 3) := by decide +kernel
theorem dX1_bringBack_38 : decode cX1_bringBack 38 = .ok (.ifCond .lt 28, 3) := by decide +kernel
theorem dX1_bringBack_41 : decode cX1_bringBack 41 = .ok (.aload_n 0, 1) := by decide +kernel
theorem dX1_bringBack_42 : decode cX1_bringBack 42 = .ok (.getfield 18, 3) := by decide +kernel
theorem dX1_bringBack_45 : decode cX1_bringBack 45 = .ok (.aload_n 0, 1) := by decide +kernel
theorem dX1_bringBack_46 : decode cX1_bringBack 46 = .ok (.getfield 11, 3) := by decide +kernel
theorem dX1_bringBack_49 : decode cX1_bringBack 49 = .ok (.arraylength, 1) := by decide +kernel
theorem dX1_bringBack_50 : decode cX1_bringBack 50 = .ok (.if_icmp .ge 16, 3) := by decide +kernel
theorem dX1_bringBack_53 : decode cX1_bringBack 53 = .ok (.aload_n 1, 1) := by decide +kernel
theorem dX1_bringBack_54 : decode cX1_bringBack 54 = .ok (.aload_n 0, 1) := by decide +kernel
theorem dX1_bringBack_55 : decode cX1_bringBack 55 = .ok (.getfield 11, 3) := by decide +kernel
theorem dX1_bringBack_58 : decode cX1_bringBack 58 = .ok (.aload_n 0, 1) := by decide +kernel
theorem dX1_bringBack_59 : decode cX1_bringBack 59 = .ok (.getfield 18, 3) := by decide +kernel
theorem dX1_bringBack_62 : decode cX1_bringBack 62 = .ok (.aaload, 1) := by decide +kernel
theorem dX1_bringBack_63 : decode cX1_bringBack 63 = .ok (.invokevirtual 22, 3) := by decide +kernel
theorem dX1_bringBack_66 : decode cX1_bringBack 66 = .ok (.return_, 1) := by decide +kernel
theorem dX2_init_0 : decode cX2_init 0 = .ok (.aload_n 0, 1) := by decide +kernel
theorem dX2_init_1 : decode cX2_init 1 = .ok (.invokespecial 3, 3) := by decide +kernel
theorem dX2_init_4 : decode cX2_init 4 = .ok (.aload_n 0, 1) := by decide +kernel
theorem dX2_init_5 : decode cX2_init 5 = .ok (.bipush 40, 2) := by decide +kernel
theorem dX2_init_7 : decode cX2_init 7 = .ok (.newarray .int, 2) := by decide +kernel
theorem dX2_init_9 : decode cX2_init 9 = .ok (.putfield 9, 3) := by decide +kernel
theorem dX2_init_12 : decode cX2_init 12 = .ok (.aload_n 0, 1) := by decide +kernel
theorem dX2_init_13 : decode cX2_init 13 = .ok (.bipush 40, 2) := by decide +kernel
theorem dX2_init_15 : decode cX2_init 15 = .ok (.newarray .int, 2) := by decide +kernel
theorem dX2_init_17 : decode cX2_init 17 = .ok (.putfield 15, 3) := by decide +kernel
theorem dX2_init_20 : decode cX2_init 20 = .ok (.aload_n 0, 1) := by decide +kernel
theorem dX2_init_21 : decode cX2_init 21 = .ok (.bipush 40, 2) := by decide +kernel
theorem dX2_init_23 : decode cX2_init 23 = .ok (.newarray .int, 2) := by decide +kernel
theorem dX2_init_25 : decode cX2_init 25 = .ok (.putfield 18, 3) := by decide +kernel
theorem dX2_init_28 : decode cX2_init 28 = .ok (.aload_n 0, 1) := by decide +kernel
theorem dX2_init_29 : decode cX2_init 29 = .ok (.bipush 40, 2) := by decide +kernel
theorem dX2_init_31 : decode cX2_init 31 = .ok (.newarray .int, 2) := by decide +kernel
theorem dX2_init_33 : decode cX2_init 33 = .ok (.putfield 21, 3) := by decide +kernel
theorem dX2_init_36 : decode cX2_init 36 = .ok (.return_, 1) := by decide +kernel
theorem dX2_copyFrom_0 : decode cX2_copyFrom 0 = .ok (.aload_n 1, 1) := by decide +kernel
theorem dX2_copyFrom_1 : decode cX2_copyFrom 1 = .ok (.getfield 9, 3) := by decide +kernel
theorem dX2_copyFrom_4 : decode cX2_copyFrom 4 = .ok (.iconst 0, 1) := by decide +kernel
theorem dX2_copyFrom_5 : decode cX2_copyFrom 5 = .ok (.aload_n 0, 1) := by decide +kernel
theorem dX2_copyFrom_6 : decode cX2_copyFrom 6 = .ok (.getfield 9, 3) := by decide +kernel
theorem dX2_copyFrom_9 : decode cX2_copyFrom 9 = .ok (.iconst 0, 1) := by decide +kernel
theorem dX2_copyFrom_10 : decode cX2_copyFrom 10 = .ok (.bipush 40, 2) := by decide +kernel
theorem dX2_copyFrom_12 : decode cX2_copyFrom 12 = .ok (.invokestatic 24, 3) := by decide +kernel
theorem dX2_copyFrom_15 : decode cX2_copyFrom 15 = .ok (.aload_n 1, 1) := by decide +kernel
theorem dX2_copyFrom_16 : decode cX2_copyFrom 16 = .ok (.getfield 15, 3) := by decide +kernel
theorem dX2_copyFrom_19 : decode cX2_copyFrom 19 = .ok (.iconst 0, 1) := by decide +kernel
theorem dX2_copyFrom_20 : decode cX2_copyFrom 20 = .ok (.aload_n 0, 1) := by decide +kernel
theorem dX2_copyFrom_21 : decode cX2_copyFrom 21 = .ok (.getfield 15, 3) := by decide +kernel
theorem dX2_copyFrom_24 : decode cX2_copyFrom 24 = .ok (.iconst 0, 1) := by decide +kernel
theorem dX2_copyFrom_25 : decode cX2_copyFrom 25 = .ok (.bipush 40, 2) := by decide +kernel
theorem dX2_copyFrom_27 : decode cX2_copyFrom 27 = .ok (.invokestatic 24, 3) := by decide +kernel
theorem dX2_copyFrom_30 : decode cX2_copyFrom 30 = .ok (.aload_n 1, 1) := by decide +kernel
theorem dX2_copyFrom_31 : decode cX2_copyFrom 31 = .ok (.getfield 18, 3) := by decide +kernel
theorem dX2_copyFrom_34 : decode cX2_copyFrom 34 = .ok (.iconst 0, 1) := by decide +kernel
theorem dX2_copyFrom_35 : decode cX2_copyFrom 35 = .ok (.aload_n 0, 1) := by decide +kernel
theorem dX2_copyFrom_36 : decode cX2_copyFrom 36 = .ok (.getfield 18, 3) := by decide +kernel
theorem dX2_copyFrom_39 : decode cX2_copyFrom 39 = .ok (.iconst 0, 1) := by decide +kernel
theorem dX2_copyFrom_40 : decode cX2_copyFrom 40 = .ok (.bipush 40, 2) := by decide +kernel
theorem dX2_copyFrom_42 : decode cX2_copyFrom 42 = .ok (.invokestatic 24, 3) := by decide +kernel
theorem dX2_copyFrom_45 : decode cX2_copyFrom 45 = .ok (.aload_n 1, 1) := by decide +kernel
theorem dX2_copyFrom_46 : decode cX2_copyFrom 46 = .ok (.getfield 21, 3) := by decide +kernel
theorem dX2_copyFrom_49 : decode cX2_copyFrom 49 = .ok (.iconst 0, 1) := by decide +kernel
theorem dX2_copyFrom_50 : decode cX2_copyFrom 50 = .ok (.aload_n 0, 1) := by decide +kernel
theorem dX2_copyFrom_51 : decode cX2_copyFrom 51 = .ok (.getfield 21, 3) := by decide +kernel
theorem dX2_copyFrom_54 : decode cX2_copyFrom 54 = .ok (.iconst 0, 1) := by decide +kernel
theorem dX2_copyFrom_55 : decode cX2_copyFrom 55 = .ok (.bipush 40, 2) := by decide +kernel
theorem dX2_copyFrom_57 : decode cX2_copyFrom 57 = .ok (.invokestatic 24, 3) := by decide +kernel
theorem dX2_copyFrom_60 : decode cX2_copyFrom 60 = .ok (.aload_n 0, 1) := by decide +kernel
theorem dX2_copyFrom_61 : decode cX2_copyFrom 61 = .ok (.aload_n 1, 1) := by decide +kernel
theorem dX2_copyFrom_62 : decode cX2_copyFrom 62 = .ok (.getfield 30, 3) := by decide +kernel
theorem dX2_copyFrom_65 : decode cX2_copyFrom 65 = .ok (.putfield 30, 3) := by decide +kernel
theorem dX2_copyFrom_68 : decode cX2_copyFrom 68 = .ok (.return_, 1) := by decide +kernel
theorem dX2_size_0 : decode cX2_size 0 = .ok (.aload_n 0, 1) := by decide +kernel
theorem dX2_size_1 : decode cX2_size 1 = .ok (.getfield 30, 3) := by decide +kernel
theorem dX2_size_4 : decode cX2_size 4 = .ok (.bipush 40, 2) := by decide +kernel
theorem dX2_size_6 : decode cX2_size 6 = .ok (.invokestatic 34, 3) := by decide +kernel
theorem dX2_size_9 : decode cX2_size 9 = .ok (.ireturn, 1) := by decide +kernel
theorem dX2_add_0 : decode cX2_add 0 = .ok (.aload_n 0, 1) := by decide +kernel
theorem dX2_add_1 : decode cX2_add 1 = .ok (.getfield 30, 3) := by decide +kernel
theorem dX2_add_4 : decode cX2_add 4 = .ok (.bipush 40, 2) := by decide +kernel
theorem dX2_add_6 : decode cX2_add 6 = .ok (.irem, 1) := by decide +kernel
theorem dX2_add_7 : decode cX2_add 7 = .ok (.istore 5, 2) := by decide +kernel
theorem dX2_add_9 : decode cX2_add 9 = .ok (.iload 5, 2) := by decide +kernel
theorem dX2_add_11 : decode cX2_add 11 = .ok (.ifCond .lt 43, 3) := by decide +kernel
theorem dX2_add_14 : decode cX2_add 14 = .ok (.iload 5, 2) := by decide +kernel
theorem dX2_add_16 : decode cX2_add 16 = .ok (.bipush 40, 2) := by decide +kernel
theorem dX2_add_18 : decode cX2_add 18 = .ok (.if_icmp .ge 36, 3) := by decide +kernel
theorem dX2_add_21 : decode cX2_add 21 = .ok (.aload_n 0, 1) := by decide +kernel
theorem dX2_add_22 : decode cX2_add 22 = .ok (.getfield 9, 3) := by decide +kernel
theorem dX2_add_25 : decode cX2_add 25 = .ok (.iload 5, 2) := by decide +kernel
theorem dX2_add_27 : decode cX2_add 27 = .ok (.iload_n 1, 1) := by decide +kernel
theorem dX2_add_28 : decode cX2_add 28 = .ok (.iastore, 1) := by decide +kernel
theorem dX2_add_29 : decode cX2_add 29 = .ok (.aload_n 0, 1) := by decide +kernel
theorem dX2_add_30 : decode cX2_add 30 = .ok (.getfield 15, 3) := by decide +kernel
theorem dX2_add_33 : decode cX2_add 33 = .ok (.iload 5, 2) := by decide +kernel
theorem dX2_add_35 : decode cX2_add 35 = .ok (.iload_n 2, 1) := by decide +kernel
theorem dX2_add_36 : decode cX2_add 36 = .ok (.iastore, 1) := by decide +kernel
theorem dX2_add_37 : decode cX2_add 37 = .ok (.aload_n 0, 1) := by decide +kernel
theorem dX2_add_38 : decode cX2_add 38 = .ok (.getfield 18, 3) := by decide +kernel
theorem dX2_add_41 : decode cX2_add 41 = .ok (.iload 5, 2) := by decide +kernel
theorem dX2_add_43 : decode cX2_add 43 = .ok (.iload_n 3, 1) := by decide +kernel
theorem dX2_add_44 : decode cX2_add 44 = .ok (.iastore, 1) := by decide +kernel
theorem dX2_add_45 : decode cX2_add 45 = .ok (.aload_n 0, 1) := by decide +kernel
theorem dX2_add_46 : decode cX2_add 46 = .ok (.getfield 21, 3) := by decide +kernel
theorem dX2_add_49 : decode cX2_add 49 = .ok (.iload 5, 2) := by decide +kernel
theorem dX2_add_51 : decode cX2_add 51 = .ok (.iload 4, 2) := by decide +kernel
theorem dX2_add_53 : decode cX2_add 53 = .ok (.iastore, 1) := by decide +kernel
theorem dX2_add_54 : decode cX2_add 54 = .ok (.aload_n 0, 1) := by decide +kernel
theorem dX2_add_55 : decode cX2_add 55 = .ok (.dup, 1) := by decide +kernel
theorem dX2_add_56 : decode cX2_add 56 = .ok (.getfield 30, 3) := by decide +kernel
theorem dX2_add_59 : decode cX2_add 59 = .ok (.iconst 1, 1) := by decide +kernel
theorem dX2_add_60 : decode cX2_add 60 = .ok (.iadd, 1) := by decide +kernel
theorem dX2_add_61 : decode cX2_add 61 = .ok (.putfield 30, 3) := by decide +kernel
theorem dX2_add_64 : decode cX2_add 64 = .ok (.return_, 1) := by decide +kernel
theorem dX2_entry_0 : decode cX2_entry 0 = .ok (.aload_n 0, 1) := by decide +kernel
theorem dX2_entry_1 : decode cX2_entry 1 = .ok (.getfield 30, 3) := by decide +kernel
theorem dX2_entry_4 : decode cX2_entry 4 = .ok (.iconst 1, 1) := by decide +kernel
theorem dX2_entry_5 : decode cX2_entry 5 = .ok (.isub, 1) := by decide +kernel
theorem dX2_entry_6 : decode cX2_entry 6 = .ok (.iload_n 1, 1) := by decide +kernel
theorem dX2_entry_7 : decode cX2_entry 7 = .ok (.isub, 1) := by decide +kernel
theorem dX2_entry_8 : decode cX2_entry 8 = .ok (.bipush 40, 2) := by decide +kernel
theorem dX2_entry_10 : decode cX2_entry 10 = .ok (.irem, 1) := by decide +kernel
theorem dX2_entry_11 : decode cX2_entry 11 = .ok (.istore_n 3, 1) := by decide +kernel
theorem dX2_entry_12 : decode cX2_entry 12 = .ok (.iload_n 3, 1) := by decide +kernel
theorem dX2_entry_13 : decode cX2_entry 13 = .ok (.ifCond .lt 9, 3) := by decide +kernel
theorem dX2_entry_16 : decode cX2_entry 16 = .ok (.iload_n 3, 1) := by decide +kernel
theorem dX2_entry_17 : decode cX2_entry 17 = .ok (.bipush 40, 2) := by decide +kernel
theorem dX2_entry_19 : decode cX2_entry 19 = .ok (.if_icmp .lt 5, 3) := by decide +kernel
theorem dX2_entry_22 : decode cX2_entry 22 = .ok (.iconst (-1), 1) := by decide +kernel
theorem dX2_entry_23 : decode cX2_entry 23 = .ok (.ireturn, 1) := by decide +kernel
theorem dX2_entry_24 : decode cX2_entry 24 = .ok (.iload_n 2, 1) := by decide +kernel
theorem dX2_entry_25 : decode cX2_entry 25 = .ok (.tableswitch 48 0 2 #[27, 34, 41], 27) := by decide +kernel
theorem dX2_entry_52 : decode cX2_entry 52 = .ok (.aload_n 0, 1) := by decide +kernel
theorem dX2_entry_53 : decode cX2_entry 53 = .ok (.getfield 9, 3) := by decide +kernel
theorem dX2_entry_56 : decode cX2_entry 56 = .ok (.iload_n 3, 1) := by decide +kernel
theorem dX2_entry_57 : decode cX2_entry 57 = .ok (.iaload, 1) := by decide +kernel
theorem dX2_entry_58 : decode cX2_entry 58 = .ok (.ireturn, 1) := by decide +kernel
theorem dX2_entry_59 : decode cX2_entry 59 = .ok (.aload_n 0, 1) := by decide +kernel
theorem dX2_entry_60 : decode cX2_entry 60 = .ok (.getfield 15, 3) := by decide +kernel
theorem dX2_entry_63 : decode cX2_entry 63 = .ok (.iload_n 3, 1) := by decide +kernel
theorem dX2_entry_64 : decode cX2_entry 64 = .ok (.iaload, 1) := by decide +kernel
theorem dX2_entry_65 : decode cX2_entry 65 = .ok (.ireturn, 1) := by decide +kernel
theorem dX2_entry_66 : decode cX2_entry 66 = .ok (.aload_n 0, 1) := by decide +kernel
theorem dX2_entry_67 : decode cX2_entry 67 = .ok (.getfield 18, 3) := by decide +kernel
theorem dX2_entry_70 : decode cX2_entry 70 = .ok (.iload_n 3, 1) := by decide +kernel
theorem dX2_entry_71 : decode cX2_entry 71 = .ok (.iaload, 1) := by decide +kernel
theorem dX2_entry_72 : decode cX2_entry 72 = .ok (.ireturn, 1) := by decide +kernel
theorem dX2_entry_73 : decode cX2_entry 73 = .ok (.aload_n 0, 1) := by decide +kernel
theorem dX2_entry_74 : decode cX2_entry 74 = .ok (.getfield 21, 3) := by decide +kernel
theorem dX2_entry_77 : decode cX2_entry 77 = .ok (.iload_n 3, 1) := by decide +kernel
theorem dX2_entry_78 : decode cX2_entry 78 = .ok (.iaload, 1) := by decide +kernel
theorem dX2_entry_79 : decode cX2_entry 79 = .ok (.ireturn, 1) := by decide +kernel
theorem dX3_init_0 : decode cX3_init 0 = .ok (.aload_n 0, 1) := by decide +kernel
theorem dX3_init_1 : decode cX3_init 1 = .ok (.invokespecial 3, 3) := by decide +kernel
theorem dX3_init_4 : decode cX3_init 4 = .ok (.aload_n 0, 1) := by decide +kernel
theorem dX3_init_5 : decode cX3_init 5 = .ok (.bipush 16, 2) := by decide +kernel
theorem dX3_init_7 : decode cX3_init 7 = .ok (.newarray .int, 2) := by decide +kernel
theorem dX3_init_9 : decode cX3_init 9 = .ok (.putfield 9, 3) := by decide +kernel
theorem dX3_init_12 : decode cX3_init 12 = .ok (.return_, 1) := by decide +kernel
theorem dX3_begin_0 : decode cX3_begin 0 = .ok (.aload_n 0, 1) := by decide +kernel
theorem dX3_begin_1 : decode cX3_begin 1 = .ok (.iconst 0, 1) := by decide +kernel
theorem dX3_begin_2 : decode cX3_begin 2 = .ok (.putfield 15, 3) := by decide +kernel
theorem dX3_begin_5 : decode cX3_begin 5 = .ok (.aload_n 0, 1) := by decide +kernel
theorem dX3_begin_6 : decode cX3_begin 6 = .ok (.iload_n 1, 1) := by decide +kernel
theorem dX3_begin_7 : decode cX3_begin 7 = .ok (.putfield 19, 3) := by decide +kernel
theorem dX3_begin_10 : decode cX3_begin 10 = .ok (.aload_n 0, 1) := by decide +kernel
theorem dX3_begin_11 : decode cX3_begin 11 = .ok (.iconst (-1), 1) := by decide +kernel
theorem dX3_begin_12 : decode cX3_begin 12 = .ok (.putfield 22, 3) := by decide +kernel
theorem dX3_begin_15 : decode cX3_begin 15 = .ok (.aload_n 0, 1) := by decide +kernel
theorem dX3_begin_16 : decode cX3_begin 16 = .ok (.iconst (-1), 1) := by decide +kernel
theorem dX3_begin_17 : decode cX3_begin 17 = .ok (.putfield 25, 3) := by decide +kernel
theorem dX3_begin_20 : decode cX3_begin 20 = .ok (.aload_n 0, 1) := by decide +kernel
theorem dX3_begin_21 : decode cX3_begin 21 = .ok (.iconst 0, 1) := by decide +kernel
theorem dX3_begin_22 : decode cX3_begin 22 = .ok (.putfield 28, 3) := by decide +kernel
theorem dX3_begin_25 : decode cX3_begin 25 = .ok (.return_, 1) := by decide +kernel
theorem dX3_copyFrom_0 : decode cX3_copyFrom 0 = .ok (.aload_n 1, 1) := by decide +kernel
theorem dX3_copyFrom_1 : decode cX3_copyFrom 1 = .ok (.getfield 9, 3) := by decide +kernel
theorem dX3_copyFrom_4 : decode cX3_copyFrom 4 = .ok (.iconst 0, 1) := by decide +kernel
theorem dX3_copyFrom_5 : decode cX3_copyFrom 5 = .ok (.aload_n 0, 1) := by decide +kernel
theorem dX3_copyFrom_6 : decode cX3_copyFrom 6 = .ok (.getfield 9, 3) := by decide +kernel
theorem dX3_copyFrom_9 : decode cX3_copyFrom 9 = .ok (.iconst 0, 1) := by decide +kernel
theorem dX3_copyFrom_10 : decode cX3_copyFrom 10 = .ok (.bipush 16, 2) := by decide +kernel
theorem dX3_copyFrom_12 : decode cX3_copyFrom 12 = .ok (.invokestatic 31, 3) := by decide +kernel
theorem dX3_copyFrom_15 : decode cX3_copyFrom 15 = .ok (.aload_n 0, 1) := by decide +kernel
theorem dX3_copyFrom_16 : decode cX3_copyFrom 16 = .ok (.aload_n 1, 1) := by decide +kernel
theorem dX3_copyFrom_17 : decode cX3_copyFrom 17 = .ok (.getfield 15, 3) := by decide +kernel
theorem dX3_copyFrom_20 : decode cX3_copyFrom 20 = .ok (.putfield 15, 3) := by decide +kernel
theorem dX3_copyFrom_23 : decode cX3_copyFrom 23 = .ok (.aload_n 0, 1) := by decide +kernel
theorem dX3_copyFrom_24 : decode cX3_copyFrom 24 = .ok (.aload_n 1, 1) := by decide +kernel
theorem dX3_copyFrom_25 : decode cX3_copyFrom 25 = .ok (.getfield 19, 3) := by decide +kernel
theorem dX3_copyFrom_28 : decode cX3_copyFrom 28 = .ok (.putfield 19, 3) := by decide +kernel
theorem dX3_copyFrom_31 : decode cX3_copyFrom 31 = .ok (.aload_n 0, 1) := by decide +kernel
theorem dX3_copyFrom_32 : decode cX3_copyFrom 32 = .ok (.aload_n 1, 1) := by decide +kernel
theorem dX3_copyFrom_33 : decode cX3_copyFrom 33 = .ok (.getfield 22, 3) := by decide +kernel
theorem dX3_copyFrom_36 : decode cX3_copyFrom 36 = .ok (.putfield 22, 3) := by decide +kernel
theorem dX3_copyFrom_39 : decode cX3_copyFrom 39 = .ok (.aload_n 0, 1) := by decide +kernel
theorem dX3_copyFrom_40 : decode cX3_copyFrom 40 = .ok (.aload_n 1, 1) := by decide +kernel
theorem dX3_copyFrom_41 : decode cX3_copyFrom 41 = .ok (.getfield 25, 3) := by decide +kernel
theorem dX3_copyFrom_44 : decode cX3_copyFrom 44 = .ok (.putfield 25, 3) := by decide +kernel
theorem dX3_copyFrom_47 : decode cX3_copyFrom 47 = .ok (.aload_n 0, 1) := by decide +kernel
theorem dX3_copyFrom_48 : decode cX3_copyFrom 48 = .ok (.aload_n 1, 1) := by decide +kernel
theorem dX3_copyFrom_49 : decode cX3_copyFrom 49 = .ok (.getfield 28, 3) := by decide +kernel
theorem dX3_copyFrom_52 : decode cX3_copyFrom 52 = .ok (.putfield 28, 3) := by decide +kernel
theorem dX3_copyFrom_55 : decode cX3_copyFrom 55 = .ok (.return_, 1) := by decide +kernel
theorem dX3_isFull_0 : decode cX3_isFull 0 = .ok (.aload_n 0, 1) := by decide +kernel
theorem dX3_isFull_1 : decode cX3_isFull 1 = .ok (.getfield 15, 3) := by decide +kernel
theorem dX3_isFull_4 : decode cX3_isFull 4 = .ok (.aload_n 0, 1) := by decide +kernel
theorem dX3_isFull_5 : decode cX3_isFull 5 = .ok (.getfield 19, 3) := by decide +kernel
theorem dX3_isFull_8 : decode cX3_isFull 8 = .ok (.if_icmp .lt 7, 3) := by decide +kernel
theorem dX3_isFull_11 : decode cX3_isFull 11 = .ok (.iconst 1, 1) := by decide +kernel
theorem dX3_isFull_12 : decode cX3_isFull 12 = .ok (.goto 4, 3) := by decide +kernel
theorem dX3_isFull_15 : decode cX3_isFull 15 = .ok (.iconst 0, 1) := by decide +kernel
theorem dX3_isFull_16 : decode cX3_isFull 16 = .ok (.ireturn, 1) := by decide +kernel
theorem dX3_numberAt_0 : decode cX3_numberAt 0 = .ok (.iload_n 1, 1) := by decide +kernel
theorem dX3_numberAt_1 : decode cX3_numberAt 1 = .ok (.ifCond .lt 23, 3) := by decide +kernel
theorem dX3_numberAt_4 : decode cX3_numberAt 4 = .ok (.iload_n 1, 1) := by decide +kernel
theorem dX3_numberAt_5 : decode cX3_numberAt 5 = .ok (.aload_n 0, 1) := by decide +kernel
theorem dX3_numberAt_6 : decode cX3_numberAt 6 = .ok (.getfield 15, 3) := by decide +kernel
theorem dX3_numberAt_9 : decode cX3_numberAt 9 = .ok (.if_icmp .ge 15, 3) := by decide +kernel
theorem dX3_numberAt_12 : decode cX3_numberAt 12 = .ok (.aload_n 0, 1) := by decide +kernel
theorem dX3_numberAt_13 : decode cX3_numberAt 13 = .ok (.getfield 15, 3) := by decide +kernel
theorem dX3_numberAt_16 : decode cX3_numberAt 16 = .ok (.aload_n 0, 1) := by decide +kernel
theorem dX3_numberAt_17 : decode cX3_numberAt 17 = .ok (.getfield 9, 3) := by decide +kernel
theorem dX3_numberAt_20 : decode cX3_numberAt 20 = .ok (.arraylength, 1) := by decide +kernel
theorem dX3_numberAt_21 : decode cX3_numberAt 21 = .ok (.if_icmp .le 6, 3) := by decide +kernel
theorem dX3_numberAt_24 : decode cX3_numberAt 24 = .ok (.ldc 37, 2) := by decide +kernel
theorem dX3_numberAt_26 : decode cX3_numberAt 26 = .ok (.ireturn, 1) := by decide +kernel
theorem dX3_numberAt_27 : decode cX3_numberAt 27 = .ok (.aload_n 0, 1) := by decide +kernel
theorem dX3_numberAt_28 : decode cX3_numberAt 28 = .ok (.getfield 9, 3) := by decide +kernel
theorem dX3_numberAt_31 : decode cX3_numberAt 31 = .ok (.aload_n 0, 1) := by decide +kernel
theorem dX3_numberAt_32 : decode cX3_numberAt 32 = .ok (.getfield 15, 3) := by decide +kernel
theorem dX3_numberAt_35 : decode cX3_numberAt 35 = .ok (.iconst 1, 1) := by decide +kernel
theorem dX3_numberAt_36 : decode cX3_numberAt 36 = .ok (.isub, 1) := by decide +kernel
theorem dX3_numberAt_37 : decode cX3_numberAt 37 = .ok (.iload_n 1, 1) := by decide +kernel
theorem dX3_numberAt_38 : decode cX3_numberAt 38 = .ok (.isub, 1) := by decide +kernel
theorem dX3_numberAt_39 : decode cX3_numberAt 39 = .ok (.iaload, 1) := by decide +kernel
theorem dX3_numberAt_40 : decode cX3_numberAt 40 = .ok (.ireturn, 1) := by decide +kernel
theorem dX3_addTop_0 : decode cX3_addTop 0 = .ok (.aload_n 0, 1) := by decide +kernel
theorem dX3_addTop_1 : decode cX3_addTop 1 = .ok (.getfield 15, 3) := by decide +kernel
theorem dX3_addTop_4 : decode cX3_addTop 4 = .ok (.ifCond .lt 46, 3) := by decide +kernel
theorem dX3_addTop_7 : decode cX3_addTop 7 = .ok (.aload_n 0, 1) := by decide +kernel
theorem dX3_addTop_8 : decode cX3_addTop 8 = .ok (.getfield 15, 3) := by decide +kernel
theorem dX3_addTop_11 : decode cX3_addTop 11 = .ok (.aload_n 0, 1) := by decide +kernel
theorem dX3_addTop_12 : decode cX3_addTop 12 = .ok (.getfield 19, 3) := by decide +kernel
theorem dX3_addTop_15 : decode cX3_addTop 15 = .ok (.if_icmp .ge 35, 3) := by decide +kernel
theorem dX3_addTop_18 : decode cX3_addTop 18 = .ok (.aload_n 0, 1) := by decide +kernel
theorem dX3_addTop_19 : decode cX3_addTop 19 = .ok (.getfield 15, 3) := by decide +kernel
theorem dX3_addTop_22 : decode cX3_addTop 22 = .ok (.aload_n 0, 1) := by decide +kernel
theorem dX3_addTop_23 : decode cX3_addTop 23 = .ok (.getfield 9, 3) := by decide +kernel
theorem dX3_addTop_26 : decode cX3_addTop 26 = .ok (.arraylength, 1) := by decide +kernel
theorem dX3_addTop_27 : decode cX3_addTop 27 = .ok (.if_icmp .ge 23, 3) := by decide +kernel
theorem dX3_addTop_30 : decode cX3_addTop 30 = .ok (.aload_n 0, 1) := by decide +kernel
theorem dX3_addTop_31 : decode cX3_addTop 31 = .ok (.getfield 9, 3) := by decide +kernel
theorem dX3_addTop_34 : decode cX3_addTop 34 = .ok (.aload_n 0, 1) := by decide +kernel
theorem dX3_addTop_35 : decode cX3_addTop 35 = .ok (.getfield 15, 3) := by decide +kernel
theorem dX3_addTop_38 : decode cX3_addTop 38 = .ok (.iload_n 1, 1) := by decide +kernel
theorem dX3_addTop_39 : decode cX3_addTop 39 = .ok (.iastore, 1) := by decide +kernel
theorem dX3_addTop_40 : decode cX3_addTop 40 = .ok (.aload_n 0, 1) := by decide +kernel
theorem dX3_addTop_41 : decode cX3_addTop 41 = .ok (.dup, 1) := by decide +kernel
theorem dX3_addTop_42 : decode cX3_addTop 42 = .ok (.getfield 15, 3) := by decide +kernel
theorem dX3_addTop_45 : decode cX3_addTop 45 = .ok (.iconst 1, 1) := by decide +kernel
theorem dX3_addTop_46 : decode cX3_addTop 46 = .ok (.iadd, 1) := by decide +kernel
theorem dX3_addTop_47 : decode cX3_addTop 47 = .ok (.putfield 15, 3) := by decide +kernel
theorem dX3_addTop_50 : decode cX3_addTop 50 = .ok (.return_, 1) := by decide +kernel
theorem dX3_dropTop_0 : decode cX3_dropTop 0 = .ok (.aload_n 0, 1) := by decide +kernel
theorem dX3_dropTop_1 : decode cX3_dropTop 1 = .ok (.getfield 15, 3) := by decide +kernel
theorem dX3_dropTop_4 : decode cX3_dropTop 4 = .ok (.ifCond .le 13, 3) := by decide +kernel
theorem dX3_dropTop_7 : decode cX3_dropTop 7 = .ok (.aload_n 0, 1) := by decide +kernel
theorem dX3_dropTop_8 : decode cX3_dropTop 8 = .ok (.dup, 1) := by decide +kernel
theorem dX3_dropTop_9 : decode cX3_dropTop 9 = .ok (.getfield 15, 3) := by decide +kernel
theorem dX3_dropTop_12 : decode cX3_dropTop 12 = .ok (.iconst 1, 1) := by decide +kernel
theorem dX3_dropTop_13 : decode cX3_dropTop 13 = .ok (.isub, 1) := by decide +kernel
theorem dX3_dropTop_14 : decode cX3_dropTop 14 = .ok (.putfield 15, 3) := by decide +kernel
theorem dX3_dropTop_17 : decode cX3_dropTop 17 = .ok (.return_, 1) := by decide +kernel
theorem dX4_init_0 : decode cX4_init 0 = .ok (.aload_n 0, 1) := by decide +kernel
theorem dX4_init_1 : decode cX4_init 1 = .ok (.invokespecial 3, 3) := by decide +kernel
theorem dX4_init_4 : decode cX4_init 4 = .ok (.aload_n 0, 1) := by decide +kernel
theorem dX4_init_5 : decode cX4_init 5 = .ok (.bipush 24, 2) := by decide +kernel
theorem dX4_init_7 : decode cX4_init 7 = .ok (.newarray .int, 2) := by decide +kernel
theorem dX4_init_9 : decode cX4_init 9 = .ok (.putfield 9, 3) := by decide +kernel
theorem dX4_init_12 : decode cX4_init 12 = .ok (.aload_n 0, 1) := by decide +kernel
theorem dX4_init_13 : decode cX4_init 13 = .ok (.bipush 24, 2) := by decide +kernel
theorem dX4_init_15 : decode cX4_init 15 = .ok (.newarray .int, 2) := by decide +kernel
theorem dX4_init_17 : decode cX4_init 17 = .ok (.putfield 15, 3) := by decide +kernel
theorem dX4_init_20 : decode cX4_init 20 = .ok (.aload_n 0, 1) := by decide +kernel
theorem dX4_init_21 : decode cX4_init 21 = .ok (.bipush 20, 2) := by decide +kernel
theorem dX4_init_23 : decode cX4_init 23 = .ok (.newarray .int, 2) := by decide +kernel
theorem dX4_init_25 : decode cX4_init 25 = .ok (.putfield 18, 3) := by decide +kernel
theorem dX4_init_28 : decode cX4_init 28 = .ok (.return_, 1) := by decide +kernel
theorem dX4_begin_0 : decode cX4_begin 0 = .ok (.aload_n 0, 1) := by decide +kernel
theorem dX4_begin_1 : decode cX4_begin 1 = .ok (.lload_n 1, 1) := by decide +kernel
theorem dX4_begin_2 : decode cX4_begin 2 = .ok (.putfield 21, 3) := by decide +kernel
theorem dX4_begin_5 : decode cX4_begin 5 = .ok (.aload_n 0, 1) := by decide +kernel
theorem dX4_begin_6 : decode cX4_begin 6 = .ok (.iconst 0, 1) := by decide +kernel
theorem dX4_begin_7 : decode cX4_begin 7 = .ok (.putfield 25, 3) := by decide +kernel
theorem dX4_begin_10 : decode cX4_begin 10 = .ok (.aload_n 0, 1) := by decide +kernel
theorem dX4_begin_11 : decode cX4_begin 11 = .ok (.iconst 3, 1) := by decide +kernel
theorem dX4_begin_12 : decode cX4_begin 12 = .ok (.putfield 29, 3) := by decide +kernel
theorem dX4_begin_15 : decode cX4_begin 15 = .ok (.aload_n 0, 1) := by decide +kernel
theorem dX4_begin_16 : decode cX4_begin 16 = .ok (.iconst 0, 1) := by decide +kernel
theorem dX4_begin_17 : decode cX4_begin 17 = .ok (.putfield 32, 3) := by decide +kernel
theorem dX4_begin_20 : decode cX4_begin 20 = .ok (.aload_n 0, 1) := by decide +kernel
theorem dX4_begin_21 : decode cX4_begin 21 = .ok (.iconst 0, 1) := by decide +kernel
theorem dX4_begin_22 : decode cX4_begin 22 = .ok (.putfield 35, 3) := by decide +kernel
theorem dX4_begin_25 : decode cX4_begin 25 = .ok (.aload_n 0, 1) := by decide +kernel
theorem dX4_begin_26 : decode cX4_begin 26 = .ok (.iconst 0, 1) := by decide +kernel
theorem dX4_begin_27 : decode cX4_begin 27 = .ok (.putfield 38, 3) := by decide +kernel
theorem dX4_begin_30 : decode cX4_begin 30 = .ok (.aload_n 0, 1) := by decide +kernel
theorem dX4_begin_31 : decode cX4_begin 31 = .ok (.iconst 0, 1) := by decide +kernel
theorem dX4_begin_32 : decode cX4_begin 32 = .ok (.putfield 41, 3) := by decide +kernel
theorem dX4_begin_35 : decode cX4_begin 35 = .ok (.aload_n 0, 1) := by decide +kernel
theorem dX4_begin_36 : decode cX4_begin 36 = .ok (.iconst (-1), 1) := by decide +kernel
theorem dX4_begin_37 : decode cX4_begin 37 = .ok (.putfield 44, 3) := by decide +kernel
theorem dX4_begin_40 : decode cX4_begin 40 = .ok (.aload_n 0, 1) := by decide +kernel
theorem dX4_begin_41 : decode cX4_begin 41 = .ok (.iconst 0, 1) := by decide +kernel
theorem dX4_begin_42 : decode cX4_begin 42 = .ok (.putfield 47, 3) := by decide +kernel
theorem dX4_begin_45 : decode cX4_begin 45 = .ok (.aload_n 0, 1) := by decide +kernel
theorem dX4_begin_46 : decode cX4_begin 46 = .ok (.iconst 0, 1) := by decide +kernel
theorem dX4_begin_47 : decode cX4_begin 47 = .ok (.putfield 50, 3) := by decide +kernel
theorem dX4_begin_50 : decode cX4_begin 50 = .ok (.aload_n 0, 1) := by decide +kernel
theorem dX4_begin_51 : decode cX4_begin 51 = .ok (.iconst 0, 1) := by decide +kernel
theorem dX4_begin_52 : decode cX4_begin 52 = .ok (.putfield 53, 3) := by decide +kernel
theorem dX4_begin_55 : decode cX4_begin 55 = .ok (.aload_n 0, 1) := by decide +kernel
theorem dX4_begin_56 : decode cX4_begin 56 = .ok (.iconst 0, 1) := by decide +kernel
theorem dX4_begin_57 : decode cX4_begin 57 = .ok (.putfield 56, 3) := by decide +kernel
theorem dX4_begin_60 : decode cX4_begin 60 = .ok (.return_, 1) := by decide +kernel
theorem dX4_copyFrom_0 : decode cX4_copyFrom 0 = .ok (.aload_n 1, 1) := by decide +kernel
theorem dX4_copyFrom_1 : decode cX4_copyFrom 1 = .ok (.getfield 9, 3) := by decide +kernel
theorem dX4_copyFrom_4 : decode cX4_copyFrom 4 = .ok (.iconst 0, 1) := by decide +kernel
theorem dX4_copyFrom_5 : decode cX4_copyFrom 5 = .ok (.aload_n 0, 1) := by decide +kernel
theorem dX4_copyFrom_6 : decode cX4_copyFrom 6 = .ok (.getfield 9, 3) := by decide +kernel
theorem dX4_copyFrom_9 : decode cX4_copyFrom 9 = .ok (.iconst 0, 1) := by decide +kernel
theorem dX4_copyFrom_10 : decode cX4_copyFrom 10 = .ok (.bipush 24, 2) := by decide +kernel
theorem dX4_copyFrom_12 : decode cX4_copyFrom 12 = .ok (.invokestatic 59, 3) := by decide +kernel
theorem dX4_copyFrom_15 : decode cX4_copyFrom 15 = .ok (.aload_n 1, 1) := by decide +kernel
theorem dX4_copyFrom_16 : decode cX4_copyFrom 16 = .ok (.getfield 15, 3) := by decide +kernel
theorem dX4_copyFrom_19 : decode cX4_copyFrom 19 = .ok (.iconst 0, 1) := by decide +kernel
theorem dX4_copyFrom_20 : decode cX4_copyFrom 20 = .ok (.aload_n 0, 1) := by decide +kernel
theorem dX4_copyFrom_21 : decode cX4_copyFrom 21 = .ok (.getfield 15, 3) := by decide +kernel
theorem dX4_copyFrom_24 : decode cX4_copyFrom 24 = .ok (.iconst 0, 1) := by decide +kernel
theorem dX4_copyFrom_25 : decode cX4_copyFrom 25 = .ok (.bipush 24, 2) := by decide +kernel
theorem dX4_copyFrom_27 : decode cX4_copyFrom 27 = .ok (.invokestatic 59, 3) := by decide +kernel
theorem dX4_copyFrom_30 : decode cX4_copyFrom 30 = .ok (.aload_n 1, 1) := by decide +kernel
theorem dX4_copyFrom_31 : decode cX4_copyFrom 31 = .ok (.getfield 18, 3) := by decide +kernel
theorem dX4_copyFrom_34 : decode cX4_copyFrom 34 = .ok (.iconst 0, 1) := by decide +kernel
theorem dX4_copyFrom_35 : decode cX4_copyFrom 35 = .ok (.aload_n 0, 1) := by decide +kernel
theorem dX4_copyFrom_36 : decode cX4_copyFrom 36 = .ok (.getfield 18, 3) := by decide +kernel
theorem dX4_copyFrom_39 : decode cX4_copyFrom 39 = .ok (.iconst 0, 1) := by decide +kernel
theorem dX4_copyFrom_40 : decode cX4_copyFrom 40 = .ok (.bipush 20, 2) := by decide +kernel
theorem dX4_copyFrom_42 : decode cX4_copyFrom 42 = .ok (.invokestatic 59, 3) := by decide +kernel
theorem dX4_copyFrom_45 : decode cX4_copyFrom 45 = .ok (.aload_n 0, 1) := by decide +kernel
theorem dX4_copyFrom_46 : decode cX4_copyFrom 46 = .ok (.aload_n 1, 1) := by decide +kernel
theorem dX4_copyFrom_47 : decode cX4_copyFrom 47 = .ok (.getfield 21, 3) := by decide +kernel
theorem dX4_copyFrom_50 : decode cX4_copyFrom 50 = .ok (.putfield 21, 3) := by decide +kernel
theorem dX4_copyFrom_53 : decode cX4_copyFrom 53 = .ok (.aload_n 0, 1) := by decide +kernel
theorem dX4_copyFrom_54 : decode cX4_copyFrom 54 = .ok (.aload_n 1, 1) := by decide +kernel
theorem dX4_copyFrom_55 : decode cX4_copyFrom 55 = .ok (.getfield 25, 3) := by decide +kernel
theorem dX4_copyFrom_58 : decode cX4_copyFrom 58 = .ok (.putfield 25, 3) := by decide +kernel
theorem dX4_copyFrom_61 : decode cX4_copyFrom 61 = .ok (.aload_n 0, 1) := by decide +kernel
theorem dX4_copyFrom_62 : decode cX4_copyFrom 62 = .ok (.aload_n 1, 1) := by decide +kernel
theorem dX4_copyFrom_63 : decode cX4_copyFrom 63 = .ok (.getfield 29, 3) := by decide +kernel
theorem dX4_copyFrom_66 : decode cX4_copyFrom 66 = .ok (.putfield 29, 3) := by decide +kernel
theorem dX4_copyFrom_69 : decode cX4_copyFrom 69 = .ok (.aload_n 0, 1) := by decide +kernel
theorem dX4_copyFrom_70 : decode cX4_copyFrom 70 = .ok (.aload_n 1, 1) := by decide +kernel
theorem dX4_copyFrom_71 : decode cX4_copyFrom 71 = .ok (.getfield 32, 3) := by decide +kernel
theorem dX4_copyFrom_74 : decode cX4_copyFrom 74 = .ok (.putfield 32, 3) := by decide +kernel
theorem dX4_copyFrom_77 : decode cX4_copyFrom 77 = .ok (.aload_n 0, 1) := by decide +kernel
theorem dX4_copyFrom_78 : decode cX4_copyFrom 78 = .ok (.aload_n 1, 1) := by decide +kernel
theorem dX4_copyFrom_79 : decode cX4_copyFrom 79 = .ok (.getfield 35, 3) := by decide +kernel
theorem dX4_copyFrom_82 : decode cX4_copyFrom 82 = .ok (.putfield 35, 3) := by decide +kernel
theorem dX4_copyFrom_85 : decode cX4_copyFrom 85 = .ok (.aload_n 0, 1) := by decide +kernel
theorem dX4_copyFrom_86 : decode cX4_copyFrom 86 = .ok (.aload_n 1, 1) := by decide +kernel
theorem dX4_copyFrom_87 : decode cX4_copyFrom 87 = .ok (.getfield 38, 3) := by decide +kernel
theorem dX4_copyFrom_90 : decode cX4_copyFrom 90 = .ok (.putfield 38, 3) := by decide +kernel
theorem dX4_copyFrom_93 : decode cX4_copyFrom 93 = .ok (.aload_n 0, 1) := by decide +kernel
theorem dX4_copyFrom_94 : decode cX4_copyFrom 94 = .ok (.aload_n 1, 1) := by decide +kernel
theorem dX4_copyFrom_95 : decode cX4_copyFrom 95 = .ok (.getfield 41, 3) := by decide +kernel
theorem dX4_copyFrom_98 : decode cX4_copyFrom 98 = .ok (.putfield 41, 3) := by decide +kernel
theorem dX4_copyFrom_101 : decode cX4_copyFrom 101 = .ok (.aload_n 0, 1) := by decide +kernel
theorem dX4_copyFrom_102 : decode cX4_copyFrom 102 = .ok (.aload_n 1, 1) := by decide +kernel
theorem dX4_copyFrom_103 : decode cX4_copyFrom 103 = .ok (.getfield 44, 3) := by decide +kernel
theorem dX4_copyFrom_106 : decode cX4_copyFrom 106 = .ok (.putfield 44, 3) := by decide +kernel
theorem dX4_copyFrom_109 : decode cX4_copyFrom 109 = .ok (.aload_n 0, 1) := by decide +kernel
theorem dX4_copyFrom_110 : decode cX4_copyFrom 110 = .ok (.aload_n 1, 1) := by decide +kernel
theorem dX4_copyFrom_111 : decode cX4_copyFrom 111 = .ok (.getfield 47, 3) := by decide +kernel
theorem dX4_copyFrom_114 : decode cX4_copyFrom 114 = .ok (.putfield 47, 3) := by decide +kernel
theorem dX4_copyFrom_117 : decode cX4_copyFrom 117 = .ok (.aload_n 0, 1) := by decide +kernel
theorem dX4_copyFrom_118 : decode cX4_copyFrom 118 = .ok (.aload_n 1, 1) := by decide +kernel
theorem dX4_copyFrom_119 : decode cX4_copyFrom 119 = .ok (.getfield 50, 3) := by decide +kernel
theorem dX4_copyFrom_122 : decode cX4_copyFrom 122 = .ok (.putfield 50, 3) := by decide +kernel
theorem dX4_copyFrom_125 : decode cX4_copyFrom 125 = .ok (.aload_n 0, 1) := by decide +kernel
theorem dX4_copyFrom_126 : decode cX4_copyFrom 126 = .ok (.aload_n 1, 1) := by decide +kernel
theorem dX4_copyFrom_127 : decode cX4_copyFrom 127 = .ok (.getfield 53, 3) := by decide +kernel
theorem dX4_copyFrom_130 : decode cX4_copyFrom 130 = .ok (.putfield 53, 3) := by decide +kernel
theorem dX4_copyFrom_133 : decode cX4_copyFrom 133 = .ok (.aload_n 0, 1) := by decide +kernel
theorem dX4_copyFrom_134 : decode cX4_copyFrom 134 = .ok (.aload_n 1, 1) := by decide +kernel
theorem dX4_copyFrom_135 : decode cX4_copyFrom 135 = .ok (.getfield 56, 3) := by decide +kernel
theorem dX4_copyFrom_138 : decode cX4_copyFrom 138 = .ok (.putfield 56, 3) := by decide +kernel
theorem dX4_copyFrom_141 : decode cX4_copyFrom 141 = .ok (.return_, 1) := by decide +kernel
theorem dX4_addCommand_0 : decode cX4_addCommand 0 = .ok (.aload_n 0, 1) := by decide +kernel
theorem dX4_addCommand_1 : decode cX4_addCommand 1 = .ok (.getfield 25, 3) := by decide +kernel
theorem dX4_addCommand_4 : decode cX4_addCommand 4 = .ok (.ifCond .lt 57, 3) := by decide +kernel
theorem dX4_addCommand_7 : decode cX4_addCommand 7 = .ok (.aload_n 0, 1) := by decide +kernel
theorem dX4_addCommand_8 : decode cX4_addCommand 8 = .ok (.getfield 25, 3) := by decide +kernel
theorem dX4_addCommand_11 : decode cX4_addCommand 11 = .ok (.aload_n 0, 1) := by decide +kernel
theorem dX4_addCommand_12 : decode cX4_addCommand 12 = .ok (.getfield 9, 3) := by decide +kernel
theorem dX4_addCommand_15 : decode cX4_addCommand 15 = .ok (.arraylength, 1) := by decide +kernel
theorem dX4_addCommand_16 : decode cX4_addCommand 16 = .ok (.if_icmp .ge 45, 3) := by decide +kernel
theorem dX4_addCommand_19 : decode cX4_addCommand 19 = .ok (.aload_n 0, 1) := by decide +kernel
theorem dX4_addCommand_20 : decode cX4_addCommand 20 = .ok (.getfield 25, 3) := by decide +kernel
theorem dX4_addCommand_23 : decode cX4_addCommand 23 = .ok (.aload_n 0, 1) := by decide +kernel
theorem dX4_addCommand_24 : decode cX4_addCommand 24 = .ok (.getfield 15, 3) := by decide +kernel
theorem dX4_addCommand_27 : decode cX4_addCommand 27 = .ok (.arraylength, 1) := by decide +kernel
theorem dX4_addCommand_28 : decode cX4_addCommand 28 = .ok (.if_icmp .ge 33, 3) := by decide +kernel
theorem dX4_addCommand_31 : decode cX4_addCommand 31 = .ok (.aload_n 0, 1) := by decide +kernel
theorem dX4_addCommand_32 : decode cX4_addCommand 32 = .ok (.getfield 9, 3) := by decide +kernel
theorem dX4_addCommand_35 : decode cX4_addCommand 35 = .ok (.aload_n 0, 1) := by decide +kernel
theorem dX4_addCommand_36 : decode cX4_addCommand 36 = .ok (.getfield 25, 3) := by decide +kernel
theorem dX4_addCommand_39 : decode cX4_addCommand 39 = .ok (.iload_n 1, 1) := by decide +kernel
theorem dX4_addCommand_40 : decode cX4_addCommand 40 = .ok (.iastore, 1) := by decide +kernel
theorem dX4_addCommand_41 : decode cX4_addCommand 41 = .ok (.aload_n 0, 1) := by decide +kernel
theorem dX4_addCommand_42 : decode cX4_addCommand 42 = .ok (.getfield 15, 3) := by decide +kernel
theorem dX4_addCommand_45 : decode cX4_addCommand 45 = .ok (.aload_n 0, 1) := by decide +kernel
theorem dX4_addCommand_46 : decode cX4_addCommand 46 = .ok (.getfield 25, 3) := by decide +kernel
theorem dX4_addCommand_49 : decode cX4_addCommand 49 = .ok (.iload_n 2, 1) := by decide +kernel
theorem dX4_addCommand_50 : decode cX4_addCommand 50 = .ok (.iastore, 1) := by decide +kernel
theorem dX4_addCommand_51 : decode cX4_addCommand 51 = .ok (.aload_n 0, 1) := by decide +kernel
theorem dX4_addCommand_52 : decode cX4_addCommand 52 = .ok (.dup, 1) := by decide +kernel
theorem dX4_addCommand_53 : decode cX4_addCommand 53 = .ok (.getfield 25, 3) := by decide +kernel
theorem dX4_addCommand_56 : decode cX4_addCommand 56 = .ok (.iconst 1, 1) := by decide +kernel
theorem dX4_addCommand_57 : decode cX4_addCommand 57 = .ok (.iadd, 1) := by decide +kernel
theorem dX4_addCommand_58 : decode cX4_addCommand 58 = .ok (.putfield 25, 3) := by decide +kernel
theorem dX4_addCommand_61 : decode cX4_addCommand 61 = .ok (.return_, 1) := by decide +kernel
theorem dX4_kindAt_0 : decode cX4_kindAt 0 = .ok (.iload_n 1, 1) := by decide +kernel
theorem dX4_kindAt_1 : decode cX4_kindAt 1 = .ok (.ifCond .lt 29, 3) := by decide +kernel
theorem dX4_kindAt_4 : decode cX4_kindAt 4 = .ok (.iload_n 1, 1) := by decide +kernel
theorem dX4_kindAt_5 : decode cX4_kindAt 5 = .ok (.aload_n 0, 1) := by decide +kernel
theorem dX4_kindAt_6 : decode cX4_kindAt 6 = .ok (.getfield 25, 3) := by decide +kernel
theorem dX4_kindAt_9 : decode cX4_kindAt 9 = .ok (.if_icmp .ge 21, 3) := by decide +kernel
theorem dX4_kindAt_12 : decode cX4_kindAt 12 = .ok (.iload_n 1, 1) := by decide +kernel
theorem dX4_kindAt_13 : decode cX4_kindAt 13 = .ok (.aload_n 0, 1) := by decide +kernel
theorem dX4_kindAt_14 : decode cX4_kindAt 14 = .ok (.getfield 9, 3) := by decide +kernel
theorem dX4_kindAt_17 : decode cX4_kindAt 17 = .ok (.arraylength, 1) := by decide +kernel
theorem dX4_kindAt_18 : decode cX4_kindAt 18 = .ok (.if_icmp .ge 12, 3) := by decide +kernel
theorem dX4_kindAt_21 : decode cX4_kindAt 21 = .ok (.aload_n 0, 1) := by decide +kernel
theorem dX4_kindAt_22 : decode cX4_kindAt 22 = .ok (.getfield 9, 3) := by decide +kernel
theorem dX4_kindAt_25 : decode cX4_kindAt 25 = .ok (.iload_n 1, 1) := by decide +kernel
theorem dX4_kindAt_26 : decode cX4_kindAt 26 = .ok (.iaload, 1) := by decide +kernel
theorem dX4_kindAt_27 : decode cX4_kindAt 27 = .ok (.goto 4, 3) := by decide +kernel
theorem dX4_kindAt_30 : decode cX4_kindAt 30 = .ok (.iconst (-1), 1) := by decide +kernel
theorem dX4_kindAt_31 : decode cX4_kindAt 31 = .ok (.ireturn, 1) := by decide +kernel
theorem dX4_operandAt_0 : decode cX4_operandAt 0 = .ok (.iload_n 1, 1) := by decide +kernel
theorem dX4_operandAt_1 : decode cX4_operandAt 1 = .ok (.ifCond .lt 29, 3) := by decide +kernel
theorem dX4_operandAt_4 : decode cX4_operandAt 4 = .ok (.iload_n 1, 1) := by decide +kernel
theorem dX4_operandAt_5 : decode cX4_operandAt 5 = .ok (.aload_n 0, 1) := by decide +kernel
theorem dX4_operandAt_6 : decode cX4_operandAt 6 = .ok (.getfield 25, 3) := by decide +kernel
theorem dX4_operandAt_9 : decode cX4_operandAt 9 = .ok (.if_icmp .ge 21, 3) := by decide +kernel
theorem dX4_operandAt_12 : decode cX4_operandAt 12 = .ok (.iload_n 1, 1) := by decide +kernel
theorem dX4_operandAt_13 : decode cX4_operandAt 13 = .ok (.aload_n 0, 1) := by decide +kernel
theorem dX4_operandAt_14 : decode cX4_operandAt 14 = .ok (.getfield 15, 3) := by decide +kernel
theorem dX4_operandAt_17 : decode cX4_operandAt 17 = .ok (.arraylength, 1) := by decide +kernel
theorem dX4_operandAt_18 : decode cX4_operandAt 18 = .ok (.if_icmp .ge 12, 3) := by decide +kernel
theorem dX4_operandAt_21 : decode cX4_operandAt 21 = .ok (.aload_n 0, 1) := by decide +kernel
theorem dX4_operandAt_22 : decode cX4_operandAt 22 = .ok (.getfield 15, 3) := by decide +kernel
theorem dX4_operandAt_25 : decode cX4_operandAt 25 = .ok (.iload_n 1, 1) := by decide +kernel
theorem dX4_operandAt_26 : decode cX4_operandAt 26 = .ok (.iaload, 1) := by decide +kernel
theorem dX4_operandAt_27 : decode cX4_operandAt 27 = .ok (.goto 4, 3) := by decide +kernel
theorem dX4_operandAt_30 : decode cX4_operandAt 30 = .ok (.iconst 0, 1) := by decide +kernel
theorem dX4_operandAt_31 : decode cX4_operandAt 31 = .ok (.ireturn, 1) := by decide +kernel
theorem dX4_hasCommand_0 : decode cX4_hasCommand 0 = .ok (.iconst 0, 1) := by decide +kernel
theorem dX4_hasCommand_1 : decode cX4_hasCommand 1 = .ok (.istore_n 3, 1) := by decide +kernel
theorem dX4_hasCommand_2 : decode cX4_hasCommand 2 = .ok (.iload_n 3, 1) := by decide +kernel
theorem dX4_hasCommand_3 : decode cX4_hasCommand 3 = .ok (.aload_n 0, 1) := by decide +kernel
theorem dX4_hasCommand_4 : decode cX4_hasCommand 4 = .ok (.getfield 25, 3) := by decide +kernel
theorem dX4_hasCommand_7 : decode cX4_hasCommand 7 = .ok (.if_icmp .ge 29, 3) := by decide +kernel
theorem dX4_hasCommand_10 : decode cX4_hasCommand 10 = .ok (.aload_n 0, 1) := by decide +kernel
theorem dX4_hasCommand_11 : decode cX4_hasCommand 11 = .ok (.iload_n 3, 1) := by decide +kernel
theorem dX4_hasCommand_12 : decode cX4_hasCommand 12 = .ok (.invokevirtual 65, 3) := by decide +kernel
theorem dX4_hasCommand_15 : decode cX4_hasCommand 15 = .ok (.iload_n 1, 1) := by decide +kernel
theorem dX4_hasCommand_16 : decode cX4_hasCommand 16 = .ok (.if_icmp .ne 14, 3) := by decide +kernel
theorem dX4_hasCommand_19 : decode cX4_hasCommand 19 = .ok (.aload_n 0, 1) := by decide +kernel
theorem dX4_hasCommand_20 : decode cX4_hasCommand 20 = .ok (.iload_n 3, 1) := by decide +kernel
theorem dX4_hasCommand_21 : decode cX4_hasCommand 21 = .ok (.invokevirtual 69, 3) := by decide +kernel
theorem dX4_hasCommand_24 : decode cX4_hasCommand 24 = .ok (.iload_n 2, 1) := by decide +kernel
theorem dX4_hasCommand_25 : decode cX4_hasCommand 25 = .ok (.if_icmp .ne 5, 3) := by decide +kernel
theorem dX4_hasCommand_28 : decode cX4_hasCommand 28 = .ok (.iconst 1, 1) := by decide +kernel
theorem dX4_hasCommand_29 : decode cX4_hasCommand 29 = .ok (.ireturn, 1) := by decide +kernel
theorem dX4_hasCommand_30 : decode cX4_hasCommand 30 = .ok (.iinc 3 1, 3) := by decide +kernel
theorem dX4_hasCommand_33 : decode cX4_hasCommand 33 = .ok (.goto (-31), 3) := by decide +kernel
theorem dX4_hasCommand_36 : decode cX4_hasCommand 36 = .ok (.iconst 0, 1) := by decide +kernel
theorem dX4_hasCommand_37 : decode cX4_hasCommand 37 = .ok (.ireturn, 1) := by decide +kernel
theorem dX4_mayUse_0 : decode cX4_mayUse 0 = .ok (.aload_n 0, 1) := by decide +kernel
theorem dX4_mayUse_1 : decode cX4_mayUse 1 = .ok (.getfield 32, 3) := by decide +kernel
theorem dX4_mayUse_4 : decode cX4_mayUse 4 = .ok (.iload_n 1, 1) := by decide +kernel
theorem dX4_mayUse_5 : decode cX4_mayUse 5 = .ok (.ishr, 1) := by decide +kernel
theorem dX4_mayUse_6 : decode cX4_mayUse 6 = .ok (.iconst 1, 1) := by decide +kernel
theorem dX4_mayUse_7 : decode cX4_mayUse 7 = .ok (.iand, 1) := by decide +kernel
theorem dX4_mayUse_8 : decode cX4_mayUse 8 = .ok (.ifCond .eq 7, 3) := by decide +kernel
theorem dX4_mayUse_11 : decode cX4_mayUse 11 = .ok (.iconst 1, 1) := by decide +kernel
theorem dX4_mayUse_12 : decode cX4_mayUse 12 = .ok (.goto 4, 3) := by decide +kernel
theorem dX4_mayUse_15 : decode cX4_mayUse 15 = .ok (.iconst 0, 1) := by decide +kernel
theorem dX4_mayUse_16 : decode cX4_mayUse 16 = .ok (.ireturn, 1) := by decide +kernel
theorem dX4_keepSaying_0 : decode cX4_keepSaying 0 = .ok (.aload_n 0, 1) := by decide +kernel
theorem dX4_keepSaying_1 : decode cX4_keepSaying 1 = .ok (.getfield 56, 3) := by decide +kernel
theorem dX4_keepSaying_4 : decode cX4_keepSaying 4 = .ok (.bipush 20, 2) := by decide +kernel
theorem dX4_keepSaying_6 : decode cX4_keepSaying 6 = .ok (.irem, 1) := by decide +kernel
theorem dX4_keepSaying_7 : decode cX4_keepSaying 7 = .ok (.istore_n 2, 1) := by decide +kernel
theorem dX4_keepSaying_8 : decode cX4_keepSaying 8 = .ok (.iload_n 2, 1) := by decide +kernel
theorem dX4_keepSaying_9 : decode cX4_keepSaying 9 = .ok (.ifCond .lt 19, 3) := by decide +kernel
theorem dX4_keepSaying_12 : decode cX4_keepSaying 12 = .ok (.iload_n 2, 1) := by decide +kernel
theorem dX4_keepSaying_13 : decode cX4_keepSaying 13 = .ok (.aload_n 0, 1) := by decide +kernel
theorem dX4_keepSaying_14 : decode cX4_keepSaying 14 = .ok (.getfield 18, 3) := by decide +kernel
theorem dX4_keepSaying_17 : decode cX4_keepSaying 17 = .ok (.arraylength, 1) := by decide +kernel
theorem dX4_keepSaying_18 : decode cX4_keepSaying 18 = .ok (.if_icmp .ge 10, 3) := by decide +kernel
theorem dX4_keepSaying_21 : decode cX4_keepSaying 21 = .ok (.aload_n 0, 1) := by decide +kernel
theorem dX4_keepSaying_22 : decode cX4_keepSaying 22 = .ok (.getfield 18, 3) := by decide +kernel
theorem dX4_keepSaying_25 : decode cX4_keepSaying 25 = .ok (.iload_n 2, 1) := by decide +kernel
theorem dX4_keepSaying_26 : decode cX4_keepSaying 26 = .ok (.iload_n 1, 1) := by decide +kernel
theorem dX4_keepSaying_27 : decode cX4_keepSaying 27 = .ok (.iastore, 1) := by decide +kernel
theorem dX4_keepSaying_28 : decode cX4_keepSaying 28 = .ok (.aload_n 0, 1) := by decide +kernel
theorem dX4_keepSaying_29 : decode cX4_keepSaying 29 = .ok (.dup, 1) := by decide +kernel
theorem dX4_keepSaying_30 : decode cX4_keepSaying 30 = .ok (.getfield 56, 3) := by decide +kernel
theorem dX4_keepSaying_33 : decode cX4_keepSaying 33 = .ok (.iconst 1, 1) := by decide +kernel
theorem dX4_keepSaying_34 : decode cX4_keepSaying 34 = .ok (.iadd, 1) := by decide +kernel
theorem dX4_keepSaying_35 : decode cX4_keepSaying 35 = .ok (.putfield 56, 3) := by decide +kernel
theorem dX4_keepSaying_38 : decode cX4_keepSaying 38 = .ok (.return_, 1) := by decide +kernel
theorem dX4_sayingAt_0 : decode cX4_sayingAt 0 = .ok (.iload_n 1, 1) := by decide +kernel
theorem dX4_sayingAt_1 : decode cX4_sayingAt 1 = .ok (.ifCond .lt 17, 3) := by decide +kernel
theorem dX4_sayingAt_4 : decode cX4_sayingAt 4 = .ok (.iload_n 1, 1) := by decide +kernel
theorem dX4_sayingAt_5 : decode cX4_sayingAt 5 = .ok (.bipush 20, 2) := by decide +kernel
theorem dX4_sayingAt_7 : decode cX4_sayingAt 7 = .ok (.if_icmp .ge 11, 3) := by decide +kernel
theorem dX4_sayingAt_10 : decode cX4_sayingAt 10 = .ok (.iload_n 1, 1) := by decide +kernel
theorem dX4_sayingAt_11 : decode cX4_sayingAt 11 = .ok (.aload_n 0, 1) := by decide +kernel
theorem dX4_sayingAt_12 : decode cX4_sayingAt 12 = .ok (.getfield 56, 3) := by decide +kernel
theorem dX4_sayingAt_15 : decode cX4_sayingAt 15 = .ok (.if_icmp .lt 6, 3) := by decide +kernel
theorem dX4_sayingAt_18 : decode cX4_sayingAt 18 = .ok (.ldc 72, 2) := by decide +kernel
theorem dX4_sayingAt_20 : decode cX4_sayingAt 20 = .ok (.ireturn, 1) := by decide +kernel
theorem dX4_sayingAt_21 : decode cX4_sayingAt 21 = .ok (.aload_n 0, 1) := by decide +kernel
theorem dX4_sayingAt_22 : decode cX4_sayingAt 22 = .ok (.getfield 56, 3) := by decide +kernel
theorem dX4_sayingAt_25 : decode cX4_sayingAt 25 = .ok (.iconst 1, 1) := by decide +kernel
theorem dX4_sayingAt_26 : decode cX4_sayingAt 26 = .ok (.isub, 1) := by decide +kernel
theorem dX4_sayingAt_27 : decode cX4_sayingAt 27 = .ok (.iload_n 1, 1) := by decide +kernel
theorem dX4_sayingAt_28 : decode cX4_sayingAt 28 = .ok (.isub, 1) := by decide +kernel
theorem dX4_sayingAt_29 : decode cX4_sayingAt 29 = .ok (.bipush 20, 2) := by decide +kernel
theorem dX4_sayingAt_31 : decode cX4_sayingAt 31 = .ok (.irem, 1) := by decide +kernel
theorem dX4_sayingAt_32 : decode cX4_sayingAt 32 = .ok (.istore_n 2, 1) := by decide +kernel
theorem dX4_sayingAt_33 : decode cX4_sayingAt 33 = .ok (.iload_n 2, 1) := by decide +kernel
theorem dX4_sayingAt_34 : decode cX4_sayingAt 34 = .ok (.ifCond .lt 21, 3) := by decide +kernel
theorem dX4_sayingAt_37 : decode cX4_sayingAt 37 = .ok (.iload_n 2, 1) := by decide +kernel
theorem dX4_sayingAt_38 : decode cX4_sayingAt 38 = .ok (.aload_n 0, 1) := by decide +kernel
theorem dX4_sayingAt_39 : decode cX4_sayingAt 39 = .ok (.getfield 18, 3) := by decide +kernel
theorem dX4_sayingAt_42 : decode cX4_sayingAt 42 = .ok (.arraylength, 1) := by decide +kernel
theorem dX4_sayingAt_43 : decode cX4_sayingAt 43 = .ok (.if_icmp .ge 12, 3) := by decide +kernel
theorem dX4_sayingAt_46 : decode cX4_sayingAt 46 = .ok (.aload_n 0, 1) := by decide +kernel
theorem dX4_sayingAt_47 : decode cX4_sayingAt 47 = .ok (.getfield 18, 3) := by decide +kernel
theorem dX4_sayingAt_50 : decode cX4_sayingAt 50 = .ok (.iload_n 2, 1) := by decide +kernel
theorem dX4_sayingAt_51 : decode cX4_sayingAt 51 = .ok (.iaload, 1) := by decide +kernel
theorem dX4_sayingAt_52 : decode cX4_sayingAt 52 = .ok (.goto 5, 3) := by decide +kernel
theorem dX4_sayingAt_55 : decode cX4_sayingAt 55 = .ok (.ldc 72, 2) := by decide +kernel
theorem dX4_sayingAt_57 : decode cX4_sayingAt 57 = .ok (.ireturn, 1) := by decide +kernel
theorem dX5_init_0 : decode cX5_init 0 = .ok (.aload_n 0, 1) := by decide +kernel
theorem dX5_init_1 : decode cX5_init 1 = .ok (.invokespecial 3, 3) := by decide +kernel
theorem dX5_init_4 : decode cX5_init 4 = .ok (.aload_n 0, 1) := by decide +kernel
theorem dX5_init_5 : decode cX5_init 5 = .ok (.sipush 600, 3) := by decide +kernel
theorem dX5_init_8 : decode cX5_init 8 = .ok (.newarray .byte, 2) := by decide +kernel
theorem dX5_init_10 : decode cX5_init 10 = .ok (.putfield 9, 3) := by decide +kernel
theorem dX5_init_13 : decode cX5_init 13 = .ok (.aload_n 0, 1) := by decide +kernel
theorem dX5_init_14 : decode cX5_init 14 = .ok (.new 15, 3) := by decide +kernel
theorem dX5_init_17 : decode cX5_init 17 = .ok (.dup, 1) := by decide +kernel
theorem dX5_init_18 : decode cX5_init 18 = .ok (.invokespecial 17, 3) := by decide +kernel
theorem dX5_init_21 : decode cX5_init 21 = .ok (.putfield 18, 3) := by decide +kernel
theorem dX5_init_24 : decode cX5_init 24 = .ok (.aload_n 0, 1) := by decide +kernel
theorem dX5_init_25 : decode cX5_init 25 = .ok (.iconst (-1), 1) := by decide +kernel
theorem dX5_init_26 : decode cX5_init 26 = .ok (.putfield 22, 3) := by decide +kernel
theorem dX5_init_29 : decode cX5_init 29 = .ok (.return_, 1) := by decide +kernel
theorem dX5_addBytes_0 : decode cX5_addBytes 0 = .ok (.bipush 24, 2) := by decide +kernel
theorem dX5_addBytes_2 : decode cX5_addBytes 2 = .ok (.istore_n 2, 1) := by decide +kernel
theorem dX5_addBytes_3 : decode cX5_addBytes 3 = .ok (.iload_n 2, 1) := by decide +kernel
theorem dX5_addBytes_4 : decode cX5_addBytes 4 = .ok (.ifCond .lt 61, 3) := by decide +kernel
theorem dX5_addBytes_7 : decode cX5_addBytes 7 = .ok (.iload_n 1, 1) := by decide +kernel
theorem dX5_addBytes_8 : decode cX5_addBytes 8 = .ok (.iload_n 2, 1) := by decide +kernel
theorem dX5_addBytes_9 : decode cX5_addBytes 9 = .ok (.ishr, 1) := by decide +kernel
theorem dX5_addBytes_10 : decode cX5_addBytes 10 = .ok (.sipush 255, 3) := by decide +kernel
theorem dX5_addBytes_13 : decode cX5_addBytes 13 = .ok (.iand, 1) := by decide +kernel
theorem dX5_addBytes_14 : decode cX5_addBytes 14 = .ok (.istore_n 3, 1) := by decide +kernel
theorem dX5_addBytes_15 : decode cX5_addBytes 15 = .ok (.iload_n 3, 1) := by decide +kernel
theorem dX5_addBytes_16 : decode cX5_addBytes 16 = .ok (.ifCond .eq 43, 3) := by decide +kernel
theorem dX5_addBytes_19 : decode cX5_addBytes 19 = .ok (.aload_n 0, 1) := by decide +kernel
theorem dX5_addBytes_20 : decode cX5_addBytes 20 = .ok (.getfield 26, 3) := by decide +kernel
theorem dX5_addBytes_23 : decode cX5_addBytes 23 = .ok (.ifCond .lt 36, 3) := by decide +kernel
theorem dX5_addBytes_26 : decode cX5_addBytes 26 = .ok (.aload_n 0, 1) := by decide +kernel
theorem dX5_addBytes_27 : decode cX5_addBytes 27 = .ok (.getfield 26, 3) := by decide +kernel
theorem dX5_addBytes_30 : decode cX5_addBytes 30 = .ok (.aload_n 0, 1) := by decide +kernel
theorem dX5_addBytes_31 : decode cX5_addBytes 31 = .ok (.getfield 9, 3) := by decide +kernel
theorem dX5_addBytes_34 : decode cX5_addBytes 34 = .ok (.arraylength, 1) := by decide +kernel
theorem dX5_addBytes_35 : decode cX5_addBytes 35 = .ok (.if_icmp .ge 24, 3) := by decide +kernel
theorem dX5_addBytes_38 : decode cX5_addBytes 38 = .ok (.aload_n 0, 1) := by decide +kernel
theorem dX5_addBytes_39 : decode cX5_addBytes 39 = .ok (.getfield 9, 3) := by decide +kernel
theorem dX5_addBytes_42 : decode cX5_addBytes 42 = .ok (.aload_n 0, 1) := by decide +kernel
theorem dX5_addBytes_43 : decode cX5_addBytes 43 = .ok (.getfield 26, 3) := by decide +kernel
theorem dX5_addBytes_46 : decode cX5_addBytes 46 = .ok (.iload_n 3, 1) := by decide +kernel
theorem dX5_addBytes_47 : decode cX5_addBytes 47 = .ok (.i2b, 1) := by decide +kernel
theorem dX5_addBytes_48 : decode cX5_addBytes 48 = .ok (.bastore, 1) := by decide +kernel
theorem dX5_addBytes_49 : decode cX5_addBytes 49 = .ok (.aload_n 0, 1) := by decide +kernel
theorem dX5_addBytes_50 : decode cX5_addBytes 50 = .ok (.dup, 1) := by decide +kernel
theorem dX5_addBytes_51 : decode cX5_addBytes 51 = .ok (.getfield 26, 3) := by decide +kernel
theorem dX5_addBytes_54 : decode cX5_addBytes 54 = .ok (.iconst 1, 1) := by decide +kernel
theorem dX5_addBytes_55 : decode cX5_addBytes 55 = .ok (.iadd, 1) := by decide +kernel
theorem dX5_addBytes_56 : decode cX5_addBytes 56 = .ok (.putfield 26, 3) := by decide +kernel
theorem dX5_addBytes_59 : decode cX5_addBytes 59 = .ok (.iinc 2 (-8), 3) := by decide +kernel
theorem dX5_addBytes_62 : decode cX5_addBytes 62 = .ok (.goto (-59), 3) := by decide +kernel
theorem dX5_addBytes_65 : decode cX5_addBytes 65 = .ok (.return_, 1) := by decide +kernel
theorem dX5_readText_0 : decode cX5_readText 0 = .ok (.aload_n 0, 1) := by decide +kernel
theorem dX5_readText_1 : decode cX5_readText 1 = .ok (.iconst 0, 1) := by decide +kernel
theorem dX5_readText_2 : decode cX5_readText 2 = .ok (.putfield 29, 3) := by decide +kernel
theorem dX5_readText_5 : decode cX5_readText 5 = .ok (.aload_n 0, 1) := by decide +kernel
theorem dX5_readText_6 : decode cX5_readText 6 = .ok (.iconst (-1), 1) := by decide +kernel
theorem dX5_readText_7 : decode cX5_readText 7 = .ok (.putfield 22, 3) := by decide +kernel
theorem dX5_readText_10 : decode cX5_readText 10 = .ok (.aload_n 0, 1) := by decide +kernel
theorem dX5_readText_11 : decode cX5_readText 11 = .ok (.iconst 0, 1) := by decide +kernel
theorem dX5_readText_12 : decode cX5_readText 12 = .ok (.putfield 32, 3) := by decide +kernel
theorem dX5_readText_15 : decode cX5_readText 15 = .ok (.aload_n 0, 1) := by decide +kernel
theorem dX5_readText_16 : decode cX5_readText 16 = .ok (.invokevirtual 35, 3) := by decide +kernel
theorem dX5_readText_19 : decode cX5_readText 19 = .ok (.aload_n 0, 1) := by decide +kernel
theorem dX5_readText_20 : decode cX5_readText 20 = .ok (.ldc 38, 2) := by decide +kernel
theorem dX5_readText_22 : decode cX5_readText 22 = .ok (.invokevirtual 39, 3) := by decide +kernel
theorem dX5_readText_25 : decode cX5_readText 25 = .ok (.ifCond .eq 12, 3) := by decide +kernel
theorem dX5_readText_28 : decode cX5_readText 28 = .ok (.aload_n 0, 1) := by decide +kernel
theorem dX5_readText_29 : decode cX5_readText 29 = .ok (.iconst 1, 1) := by decide +kernel
theorem dX5_readText_30 : decode cX5_readText 30 = .ok (.iconst 4, 1) := by decide +kernel
theorem dX5_readText_31 : decode cX5_readText 31 = .ok (.invokevirtual 43, 3) := by decide +kernel
theorem dX5_readText_34 : decode cX5_readText 34 = .ok (.ifCond .ne 5, 3) := by decide +kernel
theorem dX5_readText_37 : decode cX5_readText 37 = .ok (.iconst 0, 1) := by decide +kernel
theorem dX5_readText_38 : decode cX5_readText 38 = .ok (.ireturn, 1) := by decide +kernel
theorem dX5_readText_39 : decode cX5_readText 39 = .ok (.aload_n 0, 1) := by decide +kernel
theorem dX5_readText_40 : decode cX5_readText 40 = .ok (.getfield 18, 3) := by decide +kernel
theorem dX5_readText_43 : decode cX5_readText 43 = .ok (.aload_n 0, 1) := by decide +kernel
theorem dX5_readText_44 : decode cX5_readText 44 = .ok (.getfield 47, 3) := by decide +kernel
theorem dX5_readText_47 : decode cX5_readText 47 = .ok (.invokevirtual 50, 3) := by decide +kernel
theorem dX5_readText_50 : decode cX5_readText 50 = .ok (.aload_n 0, 1) := by decide +kernel
theorem dX5_readText_51 : decode cX5_readText 51 = .ok (.bipush 59, 2) := by decide +kernel
theorem dX5_readText_53 : decode cX5_readText 53 = .ok (.invokevirtual 54, 3) := by decide +kernel
theorem dX5_readText_56 : decode cX5_readText 56 = .ok (.ifCond .ne 5, 3) := by decide +kernel
theorem dX5_readText_59 : decode cX5_readText 59 = .ok (.iconst 0, 1) := by decide +kernel
theorem dX5_readText_60 : decode cX5_readText 60 = .ok (.ireturn, 1) := by decide +kernel
theorem dX5_readText_61 : decode cX5_readText 61 = .ok (.aload_n 0, 1) := by decide +kernel
theorem dX5_readText_62 : decode cX5_readText 62 = .ok (.invokevirtual 58, 3) := by decide +kernel
theorem dX5_readText_65 : decode cX5_readText 65 = .ok (.ifCond .eq 35, 3) := by decide +kernel
theorem dX5_readText_68 : decode cX5_readText 68 = .ok (.aload_n 0, 1) := by decide +kernel
theorem dX5_readText_69 : decode cX5_readText 69 = .ok (.invokevirtual 62, 3) := by decide +kernel
theorem dX5_readText_72 : decode cX5_readText 72 = .ok (.ifCond .eq 28, 3) := by decide +kernel
theorem dX5_readText_75 : decode cX5_readText 75 = .ok (.aload_n 0, 1) := by decide +kernel
theorem dX5_readText_76 : decode cX5_readText 76 = .ok (.getfield 65, 3) := by decide +kernel
theorem dX5_readText_79 : decode cX5_readText 79 = .ok (.iconst (-1), 1) := by decide +kernel
theorem dX5_readText_80 : decode cX5_readText 80 = .ok (.if_icmp .eq 16, 3) := by decide +kernel
theorem dX5_readText_83 : decode cX5_readText 83 = .ok (.aload_n 0, 1) := by decide +kernel
theorem dX5_readText_84 : decode cX5_readText 84 = .ok (.bipush (-2), 2) := by decide +kernel
theorem dX5_readText_86 : decode cX5_readText 86 = .ok (.aload_n 0, 1) := by decide +kernel
theorem dX5_readText_87 : decode cX5_readText 87 = .ok (.getfield 68, 3) := by decide +kernel
theorem dX5_readText_90 : decode cX5_readText 90 = .ok (.invokevirtual 71, 3) := by decide +kernel
theorem dX5_readText_93 : decode cX5_readText 93 = .ok (.ifCond .eq 7, 3) := by decide +kernel
theorem dX5_readText_96 : decode cX5_readText 96 = .ok (.iconst 1, 1) := by decide +kernel
theorem dX5_readText_97 : decode cX5_readText 97 = .ok (.goto 4, 3) := by decide +kernel
theorem dX5_readText_100 : decode cX5_readText 100 = .ok (.iconst 0, 1) := by decide +kernel
theorem dX5_readText_101 : decode cX5_readText 101 = .ok (.ireturn, 1) := by decide +kernel
theorem dX5_readProcesses_0 : decode cX5_readProcesses 0 = .ok (.iconst 0, 1) := by decide +kernel
theorem dX5_readProcesses_1 : decode cX5_readProcesses 1 = .ok (.istore_n 1, 1) := by decide +kernel
theorem dX5_readProcesses_2 : decode cX5_readProcesses 2 = .ok (.iload_n 1, 1) := by decide +kernel
theorem dX5_readProcesses_3 : decode cX5_readProcesses 3 = .ok (.sipush 600, 3) := by decide +kernel
theorem dX5_readProcesses_6 : decode cX5_readProcesses 6 = .ok (.if_icmp .ge 109, 3) := by decide +kernel
theorem dX5_readProcesses_9 : decode cX5_readProcesses 9 = .ok (.iload_n 1, 1) := by decide +kernel
theorem dX5_readProcesses_10 : decode cX5_readProcesses 10 = .ok (.ifCond .eq 12, 3) := by decide +kernel
theorem dX5_readProcesses_13 : decode cX5_readProcesses 13 = .ok (.aload_n 0, 1) := by decide +kernel
theorem dX5_readProcesses_14 : decode cX5_readProcesses 14 = .ok (.ldc 74, 2) := by decide +kernel
theorem dX5_readProcesses_16 : decode cX5_readProcesses 16 = .ok (.invokevirtual 76, 3) := by decide +kernel
theorem dX5_readProcesses_19 : decode cX5_readProcesses 19 = .ok (.ifCond .eq 96, 3) := by decide +kernel
theorem dX5_readProcesses_22 : decode cX5_readProcesses 22 = .ok (.aload_n 0, 1) := by decide +kernel
theorem dX5_readProcesses_23 : decode cX5_readProcesses 23 = .ok (.getfield 18, 3) := by decide +kernel
theorem dX5_readProcesses_26 : decode cX5_readProcesses 26 = .ok (.getfield 79, 3) := by decide +kernel
theorem dX5_readProcesses_29 : decode cX5_readProcesses 29 = .ok (.bipush 8, 2) := by decide +kernel
theorem dX5_readProcesses_31 : decode cX5_readProcesses 31 = .ok (.if_icmp .lt 14, 3) := by decide +kernel
theorem dX5_readProcesses_34 : decode cX5_readProcesses 34 = .ok (.aload_n 0, 1) := by decide +kernel
theorem dX5_readProcesses_35 : decode cX5_readProcesses 35 = .ok (.bipush (-6), 2) := by decide +kernel
theorem dX5_readProcesses_37 : decode cX5_readProcesses 37 = .ok (.aload_n 0, 1) := by decide +kernel
theorem dX5_readProcesses_38 : decode cX5_readProcesses 38 = .ok (.getfield 68, 3) := by decide +kernel
theorem dX5_readProcesses_41 : decode cX5_readProcesses 41 = .ok (.invokevirtual 71, 3) := by decide +kernel
theorem dX5_readProcesses_44 : decode cX5_readProcesses 44 = .ok (.ireturn, 1) := by decide +kernel
theorem dX5_readProcesses_45 : decode cX5_readProcesses 45 = .ok (.aload_n 0, 1) := by decide +kernel
theorem dX5_readProcesses_46 : decode cX5_readProcesses 46 = .ok (.ldc 74, 2) := by decide +kernel
theorem dX5_readProcesses_48 : decode cX5_readProcesses 48 = .ok (.invokevirtual 39, 3) := by decide +kernel
theorem dX5_readProcesses_51 : decode cX5_readProcesses 51 = .ok (.ifCond .ne 5, 3) := by decide +kernel
theorem dX5_readProcesses_54 : decode cX5_readProcesses 54 = .ok (.iconst 0, 1) := by decide +kernel
theorem dX5_readProcesses_55 : decode cX5_readProcesses 55 = .ok (.ireturn, 1) := by decide +kernel
theorem dX5_readProcesses_56 : decode cX5_readProcesses 56 = .ok (.aload_n 0, 1) := by decide +kernel
theorem dX5_readProcesses_57 : decode cX5_readProcesses 57 = .ok (.invokevirtual 82, 3) := by decide +kernel
theorem dX5_readProcesses_60 : decode cX5_readProcesses 60 = .ok (.astore_n 2, 1) := by decide +kernel
theorem dX5_readProcesses_61 : decode cX5_readProcesses 61 = .ok (.aload_n 2, 1) := by decide +kernel
theorem dX5_readProcesses_62 : decode cX5_readProcesses 62 = .ok (.ifnull 45, 3) := by decide +kernel
theorem dX5_readProcesses_65 : decode cX5_readProcesses 65 = .ok (.aload_n 0, 1) := by decide +kernel
theorem dX5_readProcesses_66 : decode cX5_readProcesses 66 = .ok (.aload_n 2, 1) := by decide +kernel
theorem dX5_readProcesses_67 : decode cX5_readProcesses 67 = .ok (.invokevirtual 86, 3) := by decide +kernel
theorem dX5_readProcesses_70 : decode cX5_readProcesses 70 = .ok (.ifCond .eq 37, 3) := by decide +kernel
theorem dX5_readProcesses_73 : decode cX5_readProcesses 73 = .ok (.aload_n 0, 1) := by decide +kernel
theorem dX5_readProcesses_74 : decode cX5_readProcesses 74 = .ok (.aload_n 2, 1) := by decide +kernel
theorem dX5_readProcesses_75 : decode cX5_readProcesses 75 = .ok (.invokevirtual 90, 3) := by decide +kernel
theorem dX5_readProcesses_78 : decode cX5_readProcesses 78 = .ok (.ifCond .eq 29, 3) := by decide +kernel
theorem dX5_readProcesses_81 : decode cX5_readProcesses 81 = .ok (.aload_n 0, 1) := by decide +kernel
theorem dX5_readProcesses_82 : decode cX5_readProcesses 82 = .ok (.bipush 58, 2) := by decide +kernel
theorem dX5_readProcesses_84 : decode cX5_readProcesses 84 = .ok (.invokevirtual 54, 3) := by decide +kernel
theorem dX5_readProcesses_87 : decode cX5_readProcesses 87 = .ok (.ifCond .eq 20, 3) := by decide +kernel
theorem dX5_readProcesses_90 : decode cX5_readProcesses 90 = .ok (.aload_n 0, 1) := by decide +kernel
theorem dX5_readProcesses_91 : decode cX5_readProcesses 91 = .ok (.aload_n 2, 1) := by decide +kernel
theorem dX5_readProcesses_92 : decode cX5_readProcesses 92 = .ok (.invokevirtual 93, 3) := by decide +kernel
theorem dX5_readProcesses_95 : decode cX5_readProcesses 95 = .ok (.ifCond .eq 12, 3) := by decide +kernel
theorem dX5_readProcesses_98 : decode cX5_readProcesses 98 = .ok (.aload_n 0, 1) := by decide +kernel
theorem dX5_readProcesses_99 : decode cX5_readProcesses 99 = .ok (.bipush 59, 2) := by decide +kernel
theorem dX5_readProcesses_101 : decode cX5_readProcesses 101 = .ok (.invokevirtual 54, 3) := by decide +kernel
theorem dX5_readProcesses_104 : decode cX5_readProcesses 104 = .ok (.ifCond .ne 5, 3) := by decide +kernel
theorem dX5_readProcesses_107 : decode cX5_readProcesses 107 = .ok (.iconst 0, 1) := by decide +kernel
theorem dX5_readProcesses_108 : decode cX5_readProcesses 108 = .ok (.ireturn, 1) := by decide +kernel
theorem dX5_readProcesses_109 : decode cX5_readProcesses 109 = .ok (.iinc 1 1, 3) := by decide +kernel
theorem dX5_readProcesses_112 : decode cX5_readProcesses 112 = .ok (.goto (-110), 3) := by decide +kernel
theorem dX5_readProcesses_115 : decode cX5_readProcesses 115 = .ok (.iconst 1, 1) := by decide +kernel
theorem dX5_readProcesses_116 : decode cX5_readProcesses 116 = .ok (.ireturn, 1) := by decide +kernel
theorem dX5_readName_0 : decode cX5_readName 0 = .ok (.aconst_null, 1) := by decide +kernel
theorem dX5_readName_1 : decode cX5_readName 1 = .ok (.astore_n 1, 1) := by decide +kernel
theorem dX5_readName_2 : decode cX5_readName 2 = .ok (.aload_n 0, 1) := by decide +kernel
theorem dX5_readName_3 : decode cX5_readName 3 = .ok (.invokevirtual 96, 3) := by decide +kernel
theorem dX5_readName_6 : decode cX5_readName 6 = .ok (.ifCond .ne 17, 3) := by decide +kernel
theorem dX5_readName_9 : decode cX5_readName 9 = .ok (.aload_n 0, 1) := by decide +kernel
theorem dX5_readName_10 : decode cX5_readName 10 = .ok (.bipush (-2), 2) := by decide +kernel
theorem dX5_readName_12 : decode cX5_readName 12 = .ok (.aload_n 0, 1) := by decide +kernel
theorem dX5_readName_13 : decode cX5_readName 13 = .ok (.getfield 68, 3) := by decide +kernel
theorem dX5_readName_16 : decode cX5_readName 16 = .ok (.invokevirtual 71, 3) := by decide +kernel
theorem dX5_readName_19 : decode cX5_readName 19 = .ok (.pop, 1) := by decide +kernel
theorem dX5_readName_20 : decode cX5_readName 20 = .ok (.goto 48, 3) := by decide +kernel
theorem dX5_readName_23 : decode cX5_readName 23 = .ok (.aload_n 0, 1) := by decide +kernel
theorem dX5_readName_24 : decode cX5_readName 24 = .ok (.getfield 18, 3) := by decide +kernel
theorem dX5_readName_27 : decode cX5_readName 27 = .ok (.aload_n 0, 1) := by decide +kernel
theorem dX5_readName_28 : decode cX5_readName 28 = .ok (.getfield 99, 3) := by decide +kernel
theorem dX5_readName_31 : decode cX5_readName 31 = .ok (.invokevirtual 103, 3) := by decide +kernel
theorem dX5_readName_34 : decode cX5_readName 34 = .ok (.iconst (-1), 1) := by decide +kernel
theorem dX5_readName_35 : decode cX5_readName 35 = .ok (.if_icmp .eq 17, 3) := by decide +kernel
theorem dX5_readName_38 : decode cX5_readName 38 = .ok (.aload_n 0, 1) := by decide +kernel
theorem dX5_readName_39 : decode cX5_readName 39 = .ok (.bipush (-5), 2) := by decide +kernel
theorem dX5_readName_41 : decode cX5_readName 41 = .ok (.aload_n 0, 1) := by decide +kernel
theorem dX5_readName_42 : decode cX5_readName 42 = .ok (.getfield 68, 3) := by decide +kernel
theorem dX5_readName_45 : decode cX5_readName 45 = .ok (.invokevirtual 71, 3) := by decide +kernel
theorem dX5_readName_48 : decode cX5_readName 48 = .ok (.pop, 1) := by decide +kernel
theorem dX5_readName_49 : decode cX5_readName 49 = .ok (.goto 19, 3) := by decide +kernel
theorem dX5_readName_52 : decode cX5_readName 52 = .ok (.aload_n 0, 1) := by decide +kernel
theorem dX5_readName_53 : decode cX5_readName 53 = .ok (.getfield 18, 3) := by decide +kernel
theorem dX5_readName_56 : decode cX5_readName 56 = .ok (.aload_n 0, 1) := by decide +kernel
theorem dX5_readName_57 : decode cX5_readName 57 = .ok (.getfield 99, 3) := by decide +kernel
theorem dX5_readName_60 : decode cX5_readName 60 = .ok (.invokevirtual 107, 3) := by decide +kernel
theorem dX5_readName_63 : decode cX5_readName 63 = .ok (.astore_n 1, 1) := by decide +kernel
theorem dX5_readName_64 : decode cX5_readName 64 = .ok (.aload_n 0, 1) := by decide +kernel
theorem dX5_readName_65 : decode cX5_readName 65 = .ok (.invokevirtual 35, 3) := by decide +kernel
theorem dX5_readName_68 : decode cX5_readName 68 = .ok (.aload_n 1, 1) := by decide +kernel
theorem dX5_readName_69 : decode cX5_readName 69 = .ok (.areturn, 1) := by decide +kernel
theorem dX5_readTurnLength_0 : decode cX5_readTurnLength 0 = .ok (.aload_n 0, 1) := by decide +kernel
theorem dX5_readTurnLength_1 : decode cX5_readTurnLength 1 = .ok (.ldc 111, 2) := by decide +kernel
theorem dX5_readTurnLength_3 : decode cX5_readTurnLength 3 = .ok (.invokevirtual 76, 3) := by decide +kernel
theorem dX5_readTurnLength_6 : decode cX5_readTurnLength 6 = .ok (.ifCond .ne 5, 3) := by decide +kernel
theorem dX5_readTurnLength_9 : decode cX5_readTurnLength 9 = .ok (.iconst 1, 1) := by decide +kernel
theorem dX5_readTurnLength_10 : decode cX5_readTurnLength 10 = .ok (.ireturn, 1) := by decide +kernel
theorem dX5_readTurnLength_11 : decode cX5_readTurnLength 11 = .ok (.aload_n 0, 1) := by decide +kernel
theorem dX5_readTurnLength_12 : decode cX5_readTurnLength 12 = .ok (.invokevirtual 35, 3) := by decide +kernel
theorem dX5_readTurnLength_15 : decode cX5_readTurnLength 15 = .ok (.aload_n 0, 1) := by decide +kernel
theorem dX5_readTurnLength_16 : decode cX5_readTurnLength 16 = .ok (.iconst 1, 1) := by decide +kernel
theorem dX5_readTurnLength_17 : decode cX5_readTurnLength 17 = .ok (.bipush 9, 2) := by decide +kernel
theorem dX5_readTurnLength_19 : decode cX5_readTurnLength 19 = .ok (.invokevirtual 43, 3) := by decide +kernel
theorem dX5_readTurnLength_22 : decode cX5_readTurnLength 22 = .ok (.ifCond .ne 5, 3) := by decide +kernel
theorem dX5_readTurnLength_25 : decode cX5_readTurnLength 25 = .ok (.iconst 0, 1) := by decide +kernel
theorem dX5_readTurnLength_26 : decode cX5_readTurnLength 26 = .ok (.ireturn, 1) := by decide +kernel
theorem dX5_readTurnLength_27 : decode cX5_readTurnLength 27 = .ok (.aload_n 1, 1) := by decide +kernel
theorem dX5_readTurnLength_28 : decode cX5_readTurnLength 28 = .ok (.aload_n 0, 1) := by decide +kernel
theorem dX5_readTurnLength_29 : decode cX5_readTurnLength 29 = .ok (.getfield 47, 3) := by decide +kernel
theorem dX5_readTurnLength_32 : decode cX5_readTurnLength 32 = .ok (.putfield 113, 3) := by decide +kernel
theorem dX5_readTurnLength_35 : decode cX5_readTurnLength 35 = .ok (.iconst 1, 1) := by decide +kernel
theorem dX5_readTurnLength_36 : decode cX5_readTurnLength 36 = .ok (.ireturn, 1) := by decide +kernel
theorem dX5_readMay_0 : decode cX5_readMay 0 = .ok (.aload_n 0, 1) := by decide +kernel
theorem dX5_readMay_1 : decode cX5_readMay 1 = .ok (.ldc 118, 2) := by decide +kernel
theorem dX5_readMay_3 : decode cX5_readMay 3 = .ok (.invokevirtual 76, 3) := by decide +kernel
theorem dX5_readMay_6 : decode cX5_readMay 6 = .ok (.ifCond .ne 5, 3) := by decide +kernel
theorem dX5_readMay_9 : decode cX5_readMay 9 = .ok (.iconst 1, 1) := by decide +kernel
theorem dX5_readMay_10 : decode cX5_readMay 10 = .ok (.ireturn, 1) := by decide +kernel
theorem dX5_readMay_11 : decode cX5_readMay 11 = .ok (.aload_n 0, 1) := by decide +kernel
theorem dX5_readMay_12 : decode cX5_readMay 12 = .ok (.invokevirtual 35, 3) := by decide +kernel
theorem dX5_readMay_15 : decode cX5_readMay 15 = .ok (.iconst 0, 1) := by decide +kernel
theorem dX5_readMay_16 : decode cX5_readMay 16 = .ok (.istore_n 2, 1) := by decide +kernel
theorem dX5_readMay_17 : decode cX5_readMay 17 = .ok (.iload_n 2, 1) := by decide +kernel
theorem dX5_readMay_18 : decode cX5_readMay 18 = .ok (.sipush 600, 3) := by decide +kernel
theorem dX5_readMay_21 : decode cX5_readMay 21 = .ok (.if_icmp .ge 81, 3) := by decide +kernel
theorem dX5_readMay_24 : decode cX5_readMay 24 = .ok (.iload_n 2, 1) := by decide +kernel
theorem dX5_readMay_25 : decode cX5_readMay 25 = .ok (.ifCond .eq 13, 3) := by decide +kernel
theorem dX5_readMay_28 : decode cX5_readMay 28 = .ok (.aload_n 0, 1) := by decide +kernel
theorem dX5_readMay_29 : decode cX5_readMay 29 = .ok (.getfield 65, 3) := by decide +kernel
theorem dX5_readMay_32 : decode cX5_readMay 32 = .ok (.sipush 257, 3) := by decide +kernel
theorem dX5_readMay_35 : decode cX5_readMay 35 = .ok (.if_icmp .ne 67, 3) := by decide +kernel
theorem dX5_readMay_38 : decode cX5_readMay 38 = .ok (.aload_n 0, 1) := by decide +kernel
theorem dX5_readMay_39 : decode cX5_readMay 39 = .ok (.getfield 68, 3) := by decide +kernel
theorem dX5_readMay_42 : decode cX5_readMay 42 = .ok (.istore_n 3, 1) := by decide +kernel
theorem dX5_readMay_43 : decode cX5_readMay 43 = .ok (.aload_n 0, 1) := by decide +kernel
theorem dX5_readMay_44 : decode cX5_readMay 44 = .ok (.iconst 0, 1) := by decide +kernel
theorem dX5_readMay_45 : decode cX5_readMay 45 = .ok (.aload_n 0, 1) := by decide +kernel
theorem dX5_readMay_46 : decode cX5_readMay 46 = .ok (.getfield 18, 3) := by decide +kernel
theorem dX5_readMay_49 : decode cX5_readMay 49 = .ok (.getfield 120, 3) := by decide +kernel
theorem dX5_readMay_52 : decode cX5_readMay 52 = .ok (.iconst 1, 1) := by decide +kernel
theorem dX5_readMay_53 : decode cX5_readMay 53 = .ok (.isub, 1) := by decide +kernel
theorem dX5_readMay_54 : decode cX5_readMay 54 = .ok (.invokevirtual 43, 3) := by decide +kernel
theorem dX5_readMay_57 : decode cX5_readMay 57 = .ok (.ifCond .ne 5, 3) := by decide +kernel
theorem dX5_readMay_60 : decode cX5_readMay 60 = .ok (.iconst 0, 1) := by decide +kernel
theorem dX5_readMay_61 : decode cX5_readMay 61 = .ok (.ireturn, 1) := by decide +kernel
theorem dX5_readMay_62 : decode cX5_readMay 62 = .ok (.aload_n 1, 1) := by decide +kernel
theorem dX5_readMay_63 : decode cX5_readMay 63 = .ok (.aload_n 0, 1) := by decide +kernel
theorem dX5_readMay_64 : decode cX5_readMay 64 = .ok (.getfield 47, 3) := by decide +kernel
theorem dX5_readMay_67 : decode cX5_readMay 67 = .ok (.invokevirtual 123, 3) := by decide +kernel
theorem dX5_readMay_70 : decode cX5_readMay 70 = .ok (.ifCond .eq 11, 3) := by decide +kernel
theorem dX5_readMay_73 : decode cX5_readMay 73 = .ok (.aload_n 0, 1) := by decide +kernel
theorem dX5_readMay_74 : decode cX5_readMay 74 = .ok (.bipush (-5), 2) := by decide +kernel
theorem dX5_readMay_76 : decode cX5_readMay 76 = .ok (.iload_n 3, 1) := by decide +kernel
theorem dX5_readMay_77 : decode cX5_readMay 77 = .ok (.invokevirtual 71, 3) := by decide +kernel
theorem dX5_readMay_80 : decode cX5_readMay 80 = .ok (.ireturn, 1) := by decide +kernel
theorem dX5_readMay_81 : decode cX5_readMay 81 = .ok (.aload_n 1, 1) := by decide +kernel
theorem dX5_readMay_82 : decode cX5_readMay 82 = .ok (.dup, 1) := by decide +kernel
theorem dX5_readMay_83 : decode cX5_readMay 83 = .ok (.getfield 126, 3) := by decide +kernel
theorem dX5_readMay_86 : decode cX5_readMay 86 = .ok (.iconst 1, 1) := by decide +kernel
theorem dX5_readMay_87 : decode cX5_readMay 87 = .ok (.aload_n 0, 1) := by decide +kernel
theorem dX5_readMay_88 : decode cX5_readMay 88 = .ok (.getfield 47, 3) := by decide +kernel
theorem dX5_readMay_91 : decode cX5_readMay 91 = .ok (.ishl, 1) := by decide +kernel
theorem dX5_readMay_92 : decode cX5_readMay 92 = .ok (.ior, 1) := by decide +kernel
theorem dX5_readMay_93 : decode cX5_readMay 93 = .ok (.putfield 126, 3) := by decide +kernel
theorem dX5_readMay_96 : decode cX5_readMay 96 = .ok (.iinc 2 1, 3) := by decide +kernel
theorem dX5_readMay_99 : decode cX5_readMay 99 = .ok (.goto (-82), 3) := by decide +kernel
theorem dX5_readMay_102 : decode cX5_readMay 102 = .ok (.iconst 1, 1) := by decide +kernel
theorem dX5_readMay_103 : decode cX5_readMay 103 = .ok (.ireturn, 1) := by decide +kernel
theorem dX5_readProgram_0 : decode cX5_readProgram 0 = .ok (.iconst 0, 1) := by decide +kernel
theorem dX5_readProgram_1 : decode cX5_readProgram 1 = .ok (.istore_n 2, 1) := by decide +kernel
theorem dX5_readProgram_2 : decode cX5_readProgram 2 = .ok (.iload_n 2, 1) := by decide +kernel
theorem dX5_readProgram_3 : decode cX5_readProgram 3 = .ok (.sipush 600, 3) := by decide +kernel
theorem dX5_readProgram_6 : decode cX5_readProgram 6 = .ok (.if_icmp .ge 136, 3) := by decide +kernel
theorem dX5_readProgram_9 : decode cX5_readProgram 9 = .ok (.aload_n 0, 1) := by decide +kernel
theorem dX5_readProgram_10 : decode cX5_readProgram 10 = .ok (.getfield 65, 3) := by decide +kernel
theorem dX5_readProgram_13 : decode cX5_readProgram 13 = .ok (.bipush 59, 2) := by decide +kernel
theorem dX5_readProgram_15 : decode cX5_readProgram 15 = .ok (.if_icmp .eq 127, 3) := by decide +kernel
theorem dX5_readProgram_18 : decode cX5_readProgram 18 = .ok (.aload_n 0, 1) := by decide +kernel
theorem dX5_readProgram_19 : decode cX5_readProgram 19 = .ok (.invokevirtual 128, 3) := by decide +kernel
theorem dX5_readProgram_22 : decode cX5_readProgram 22 = .ok (.istore_n 3, 1) := by decide +kernel
theorem dX5_readProgram_23 : decode cX5_readProgram 23 = .ok (.iload_n 3, 1) := by decide +kernel
theorem dX5_readProgram_24 : decode cX5_readProgram 24 = .ok (.iconst (-1), 1) := by decide +kernel
theorem dX5_readProgram_25 : decode cX5_readProgram 25 = .ok (.if_icmp .ne 14, 3) := by decide +kernel
theorem dX5_readProgram_28 : decode cX5_readProgram 28 = .ok (.aload_n 0, 1) := by decide +kernel
theorem dX5_readProgram_29 : decode cX5_readProgram 29 = .ok (.bipush (-2), 2) := by decide +kernel
theorem dX5_readProgram_31 : decode cX5_readProgram 31 = .ok (.aload_n 0, 1) := by decide +kernel
theorem dX5_readProgram_32 : decode cX5_readProgram 32 = .ok (.getfield 68, 3) := by decide +kernel
theorem dX5_readProgram_35 : decode cX5_readProgram 35 = .ok (.invokevirtual 71, 3) := by decide +kernel
theorem dX5_readProgram_38 : decode cX5_readProgram 38 = .ok (.ireturn, 1) := by decide +kernel
theorem dX5_readProgram_39 : decode cX5_readProgram 39 = .ok (.aload_n 1, 1) := by decide +kernel
theorem dX5_readProgram_40 : decode cX5_readProgram 40 = .ok (.getfield 132, 3) := by decide +kernel
theorem dX5_readProgram_43 : decode cX5_readProgram 43 = .ok (.bipush 24, 2) := by decide +kernel
theorem dX5_readProgram_45 : decode cX5_readProgram 45 = .ok (.if_icmp .lt 14, 3) := by decide +kernel
theorem dX5_readProgram_48 : decode cX5_readProgram 48 = .ok (.aload_n 0, 1) := by decide +kernel
theorem dX5_readProgram_49 : decode cX5_readProgram 49 = .ok (.bipush (-6), 2) := by decide +kernel
theorem dX5_readProgram_51 : decode cX5_readProgram 51 = .ok (.aload_n 0, 1) := by decide +kernel
theorem dX5_readProgram_52 : decode cX5_readProgram 52 = .ok (.getfield 68, 3) := by decide +kernel
theorem dX5_readProgram_55 : decode cX5_readProgram 55 = .ok (.invokevirtual 71, 3) := by decide +kernel
theorem dX5_readProgram_58 : decode cX5_readProgram 58 = .ok (.ireturn, 1) := by decide +kernel
theorem dX5_readProgram_59 : decode cX5_readProgram 59 = .ok (.aload_n 0, 1) := by decide +kernel
theorem dX5_readProgram_60 : decode cX5_readProgram 60 = .ok (.invokevirtual 35, 3) := by decide +kernel
theorem dX5_readProgram_63 : decode cX5_readProgram 63 = .ok (.aload_n 0, 1) := by decide +kernel
theorem dX5_readProgram_64 : decode cX5_readProgram 64 = .ok (.iconst 0, 1) := by decide +kernel
theorem dX5_readProgram_65 : decode cX5_readProgram 65 = .ok (.putfield 47, 3) := by decide +kernel
theorem dX5_readProgram_68 : decode cX5_readProgram 68 = .ok (.iload_n 3, 1) := by decide +kernel
theorem dX5_readProgram_69 : decode cX5_readProgram 69 = .ok (.ifCond .ne 10, 3) := by decide +kernel
theorem dX5_readProgram_72 : decode cX5_readProgram 72 = .ok (.aload_n 0, 1) := by decide +kernel
theorem dX5_readProgram_73 : decode cX5_readProgram 73 = .ok (.invokevirtual 135, 3) := by decide +kernel
theorem dX5_readProgram_76 : decode cX5_readProgram 76 = .ok (.ifCond .eq 49, 3) := by decide +kernel
theorem dX5_readProgram_79 : decode cX5_readProgram 79 = .ok (.iload_n 3, 1) := by decide +kernel
theorem dX5_readProgram_80 : decode cX5_readProgram 80 = .ok (.invokestatic 138, 3) := by decide +kernel
theorem dX5_readProgram_83 : decode cX5_readProgram 83 = .ok (.ifCond .eq 20, 3) := by decide +kernel
theorem dX5_readProgram_86 : decode cX5_readProgram 86 = .ok (.aload_n 0, 1) := by decide +kernel
theorem dX5_readProgram_87 : decode cX5_readProgram 87 = .ok (.iconst 0, 1) := by decide +kernel
theorem dX5_readProgram_88 : decode cX5_readProgram 88 = .ok (.aload_n 0, 1) := by decide +kernel
theorem dX5_readProgram_89 : decode cX5_readProgram 89 = .ok (.getfield 18, 3) := by decide +kernel
theorem dX5_readProgram_92 : decode cX5_readProgram 92 = .ok (.getfield 120, 3) := by decide +kernel
theorem dX5_readProgram_95 : decode cX5_readProgram 95 = .ok (.iconst 1, 1) := by decide +kernel
theorem dX5_readProgram_96 : decode cX5_readProgram 96 = .ok (.isub, 1) := by decide +kernel
theorem dX5_readProgram_97 : decode cX5_readProgram 97 = .ok (.invokevirtual 43, 3) := by decide +kernel
theorem dX5_readProgram_100 : decode cX5_readProgram 100 = .ok (.ifCond .eq 25, 3) := by decide +kernel
theorem dX5_readProgram_103 : decode cX5_readProgram 103 = .ok (.iload_n 3, 1) := by decide +kernel
theorem dX5_readProgram_104 : decode cX5_readProgram 104 = .ok (.bipush 11, 2) := by decide +kernel
theorem dX5_readProgram_106 : decode cX5_readProgram 106 = .ok (.if_icmp .eq 9, 3) := by decide +kernel
theorem dX5_readProgram_109 : decode cX5_readProgram 109 = .ok (.iload_n 3, 1) := by decide +kernel
theorem dX5_readProgram_110 : decode cX5_readProgram 110 = .ok (.bipush 12, 2) := by decide +kernel
theorem dX5_readProgram_112 : decode cX5_readProgram 112 = .ok (.if_icmp .ne 15, 3) := by decide +kernel
theorem dX5_readProgram_115 : decode cX5_readProgram 115 = .ok (.aload_n 0, 1) := by decide +kernel
theorem dX5_readProgram_116 : decode cX5_readProgram 116 = .ok (.iconst 0, 1) := by decide +kernel
theorem dX5_readProgram_117 : decode cX5_readProgram 117 = .ok (.bipush 24, 2) := by decide +kernel
theorem dX5_readProgram_119 : decode cX5_readProgram 119 = .ok (.invokevirtual 43, 3) := by decide +kernel
theorem dX5_readProgram_122 : decode cX5_readProgram 122 = .ok (.ifCond .ne 5, 3) := by decide +kernel
theorem dX5_readProgram_125 : decode cX5_readProgram 125 = .ok (.iconst 0, 1) := by decide +kernel
theorem dX5_readProgram_126 : decode cX5_readProgram 126 = .ok (.ireturn, 1) := by decide +kernel
theorem dX5_readProgram_127 : decode cX5_readProgram 127 = .ok (.aload_n 1, 1) := by decide +kernel
theorem dX5_readProgram_128 : decode cX5_readProgram 128 = .ok (.iload_n 3, 1) := by decide +kernel
theorem dX5_readProgram_129 : decode cX5_readProgram 129 = .ok (.aload_n 0, 1) := by decide +kernel
theorem dX5_readProgram_130 : decode cX5_readProgram 130 = .ok (.getfield 47, 3) := by decide +kernel
theorem dX5_readProgram_133 : decode cX5_readProgram 133 = .ok (.invokevirtual 143, 3) := by decide +kernel
theorem dX5_readProgram_136 : decode cX5_readProgram 136 = .ok (.iinc 2 1, 3) := by decide +kernel
theorem dX5_readProgram_139 : decode cX5_readProgram 139 = .ok (.goto (-137), 3) := by decide +kernel
theorem dX5_readProgram_142 : decode cX5_readProgram 142 = .ok (.iconst 1, 1) := by decide +kernel
theorem dX5_readProgram_143 : decode cX5_readProgram 143 = .ok (.ireturn, 1) := by decide +kernel
theorem dX5_readStacks_0 : decode cX5_readStacks 0 = .ok (.iconst 0, 1) := by decide +kernel
theorem dX5_readStacks_1 : decode cX5_readStacks 1 = .ok (.istore_n 1, 1) := by decide +kernel
theorem dX5_readStacks_2 : decode cX5_readStacks 2 = .ok (.iload_n 1, 1) := by decide +kernel
theorem dX5_readStacks_3 : decode cX5_readStacks 3 = .ok (.sipush 600, 3) := by decide +kernel
theorem dX5_readStacks_6 : decode cX5_readStacks 6 = .ok (.if_icmp .ge 110, 3) := by decide +kernel
theorem dX5_readStacks_9 : decode cX5_readStacks 9 = .ok (.aload_n 0, 1) := by decide +kernel
theorem dX5_readStacks_10 : decode cX5_readStacks 10 = .ok (.ldc 147, 2) := by decide +kernel
theorem dX5_readStacks_12 : decode cX5_readStacks 12 = .ok (.invokevirtual 76, 3) := by decide +kernel
theorem dX5_readStacks_15 : decode cX5_readStacks 15 = .ok (.ifCond .eq 101, 3) := by decide +kernel
theorem dX5_readStacks_18 : decode cX5_readStacks 18 = .ok (.aload_n 0, 1) := by decide +kernel
theorem dX5_readStacks_19 : decode cX5_readStacks 19 = .ok (.getfield 18, 3) := by decide +kernel
theorem dX5_readStacks_22 : decode cX5_readStacks 22 = .ok (.getfield 149, 3) := by decide +kernel
theorem dX5_readStacks_25 : decode cX5_readStacks 25 = .ok (.bipush 12, 2) := by decide +kernel
theorem dX5_readStacks_27 : decode cX5_readStacks 27 = .ok (.if_icmp .lt 14, 3) := by decide +kernel
theorem dX5_readStacks_30 : decode cX5_readStacks 30 = .ok (.aload_n 0, 1) := by decide +kernel
theorem dX5_readStacks_31 : decode cX5_readStacks 31 = .ok (.bipush (-6), 2) := by decide +kernel
theorem dX5_readStacks_33 : decode cX5_readStacks 33 = .ok (.aload_n 0, 1) := by decide +kernel
theorem dX5_readStacks_34 : decode cX5_readStacks 34 = .ok (.getfield 68, 3) := by decide +kernel
theorem dX5_readStacks_37 : decode cX5_readStacks 37 = .ok (.invokevirtual 71, 3) := by decide +kernel
theorem dX5_readStacks_40 : decode cX5_readStacks 40 = .ok (.ireturn, 1) := by decide +kernel
theorem dX5_readStacks_41 : decode cX5_readStacks 41 = .ok (.aload_n 0, 1) := by decide +kernel
theorem dX5_readStacks_42 : decode cX5_readStacks 42 = .ok (.invokevirtual 35, 3) := by decide +kernel
theorem dX5_readStacks_45 : decode cX5_readStacks 45 = .ok (.aload_n 0, 1) := by decide +kernel
theorem dX5_readStacks_46 : decode cX5_readStacks 46 = .ok (.iconst 1, 1) := by decide +kernel
theorem dX5_readStacks_47 : decode cX5_readStacks 47 = .ok (.bipush 16, 2) := by decide +kernel
theorem dX5_readStacks_49 : decode cX5_readStacks 49 = .ok (.invokevirtual 43, 3) := by decide +kernel
theorem dX5_readStacks_52 : decode cX5_readStacks 52 = .ok (.ifCond .ne 5, 3) := by decide +kernel
theorem dX5_readStacks_55 : decode cX5_readStacks 55 = .ok (.iconst 0, 1) := by decide +kernel
theorem dX5_readStacks_56 : decode cX5_readStacks 56 = .ok (.ireturn, 1) := by decide +kernel
theorem dX5_readStacks_57 : decode cX5_readStacks 57 = .ok (.aload_n 0, 1) := by decide +kernel
theorem dX5_readStacks_58 : decode cX5_readStacks 58 = .ok (.getfield 18, 3) := by decide +kernel
theorem dX5_readStacks_61 : decode cX5_readStacks 61 = .ok (.aload_n 0, 1) := by decide +kernel
theorem dX5_readStacks_62 : decode cX5_readStacks 62 = .ok (.getfield 47, 3) := by decide +kernel
theorem dX5_readStacks_65 : decode cX5_readStacks 65 = .ok (.invokevirtual 152, 3) := by decide +kernel
theorem dX5_readStacks_68 : decode cX5_readStacks 68 = .ok (.astore_n 2, 1) := by decide +kernel
theorem dX5_readStacks_69 : decode cX5_readStacks 69 = .ok (.aload_n 2, 1) := by decide +kernel
theorem dX5_readStacks_70 : decode cX5_readStacks 70 = .ok (.ifnonnull 14, 3) := by decide +kernel
theorem dX5_readStacks_73 : decode cX5_readStacks 73 = .ok (.aload_n 0, 1) := by decide +kernel
theorem dX5_readStacks_74 : decode cX5_readStacks 74 = .ok (.bipush (-6), 2) := by decide +kernel
theorem dX5_readStacks_76 : decode cX5_readStacks 76 = .ok (.aload_n 0, 1) := by decide +kernel
theorem dX5_readStacks_77 : decode cX5_readStacks 77 = .ok (.getfield 68, 3) := by decide +kernel
theorem dX5_readStacks_80 : decode cX5_readStacks 80 = .ok (.invokevirtual 71, 3) := by decide +kernel
theorem dX5_readStacks_83 : decode cX5_readStacks 83 = .ok (.ireturn, 1) := by decide +kernel
theorem dX5_readStacks_84 : decode cX5_readStacks 84 = .ok (.aload_n 0, 1) := by decide +kernel
theorem dX5_readStacks_85 : decode cX5_readStacks 85 = .ok (.invokevirtual 156, 3) := by decide +kernel
theorem dX5_readStacks_88 : decode cX5_readStacks 88 = .ok (.ifCond .eq 20, 3) := by decide +kernel
theorem dX5_readStacks_91 : decode cX5_readStacks 91 = .ok (.aload_n 0, 1) := by decide +kernel
theorem dX5_readStacks_92 : decode cX5_readStacks 92 = .ok (.aload_n 2, 1) := by decide +kernel
theorem dX5_readStacks_93 : decode cX5_readStacks 93 = .ok (.invokevirtual 159, 3) := by decide +kernel
theorem dX5_readStacks_96 : decode cX5_readStacks 96 = .ok (.ifCond .eq 12, 3) := by decide +kernel
theorem dX5_readStacks_99 : decode cX5_readStacks 99 = .ok (.aload_n 0, 1) := by decide +kernel
theorem dX5_readStacks_100 : decode cX5_readStacks 100 = .ok (.bipush 59, 2) := by decide +kernel
theorem dX5_readStacks_102 : decode cX5_readStacks 102 = .ok (.invokevirtual 54, 3) := by decide +kernel
theorem dX5_readStacks_105 : decode cX5_readStacks 105 = .ok (.ifCond .ne 5, 3) := by decide +kernel
theorem dX5_readStacks_108 : decode cX5_readStacks 108 = .ok (.iconst 0, 1) := by decide +kernel
theorem dX5_readStacks_109 : decode cX5_readStacks 109 = .ok (.ireturn, 1) := by decide +kernel
theorem dX5_readStacks_110 : decode cX5_readStacks 110 = .ok (.iinc 1 1, 3) := by decide +kernel
theorem dX5_readStacks_113 : decode cX5_readStacks 113 = .ok (.goto (-111), 3) := by decide +kernel
theorem dX5_readStacks_116 : decode cX5_readStacks 116 = .ok (.iconst 1, 1) := by decide +kernel
theorem dX5_readStacks_117 : decode cX5_readStacks 117 = .ok (.ireturn, 1) := by decide +kernel
theorem dX5_readWhere_0 : decode cX5_readWhere 0 = .ok (.aload_n 0, 1) := by decide +kernel
theorem dX5_readWhere_1 : decode cX5_readWhere 1 = .ok (.getfield 18, 3) := by decide +kernel
theorem dX5_readWhere_4 : decode cX5_readWhere 4 = .ok (.getfield 149, 3) := by decide +kernel
theorem dX5_readWhere_7 : decode cX5_readWhere 7 = .ok (.iconst 1, 1) := by decide +kernel
theorem dX5_readWhere_8 : decode cX5_readWhere 8 = .ok (.isub, 1) := by decide +kernel
theorem dX5_readWhere_9 : decode cX5_readWhere 9 = .ok (.istore_n 1, 1) := by decide +kernel
theorem dX5_readWhere_10 : decode cX5_readWhere 10 = .ok (.aload_n 0, 1) := by decide +kernel
theorem dX5_readWhere_11 : decode cX5_readWhere 11 = .ok (.ldc 163, 2) := by decide +kernel
theorem dX5_readWhere_13 : decode cX5_readWhere 13 = .ok (.invokevirtual 76, 3) := by decide +kernel
theorem dX5_readWhere_16 : decode cX5_readWhere 16 = .ok (.ifCond .eq 13, 3) := by decide +kernel
theorem dX5_readWhere_19 : decode cX5_readWhere 19 = .ok (.aload_n 0, 1) := by decide +kernel
theorem dX5_readWhere_20 : decode cX5_readWhere 20 = .ok (.invokevirtual 35, 3) := by decide +kernel
theorem dX5_readWhere_23 : decode cX5_readWhere 23 = .ok (.aload_n 0, 1) := by decide +kernel
theorem dX5_readWhere_24 : decode cX5_readWhere 24 = .ok (.iload_n 1, 1) := by decide +kernel
theorem dX5_readWhere_25 : decode cX5_readWhere 25 = .ok (.invokevirtual 165, 3) := by decide +kernel
theorem dX5_readWhere_28 : decode cX5_readWhere 28 = .ok (.ireturn, 1) := by decide +kernel
theorem dX5_readWhere_29 : decode cX5_readWhere 29 = .ok (.aload_n 0, 1) := by decide +kernel
theorem dX5_readWhere_30 : decode cX5_readWhere 30 = .ok (.ldc 168, 2) := by decide +kernel
theorem dX5_readWhere_32 : decode cX5_readWhere 32 = .ok (.invokevirtual 39, 3) := by decide +kernel
theorem dX5_readWhere_35 : decode cX5_readWhere 35 = .ok (.ifCond .ne 5, 3) := by decide +kernel
theorem dX5_readWhere_38 : decode cX5_readWhere 38 = .ok (.iconst 0, 1) := by decide +kernel
theorem dX5_readWhere_39 : decode cX5_readWhere 39 = .ok (.ireturn, 1) := by decide +kernel
theorem dX5_readWhere_40 : decode cX5_readWhere 40 = .ok (.aload_n 0, 1) := by decide +kernel
theorem dX5_readWhere_41 : decode cX5_readWhere 41 = .ok (.getfield 68, 3) := by decide +kernel
theorem dX5_readWhere_44 : decode cX5_readWhere 44 = .ok (.istore_n 2, 1) := by decide +kernel
theorem dX5_readWhere_45 : decode cX5_readWhere 45 = .ok (.aload_n 0, 1) := by decide +kernel
theorem dX5_readWhere_46 : decode cX5_readWhere 46 = .ok (.iconst 0, 1) := by decide +kernel
theorem dX5_readWhere_47 : decode cX5_readWhere 47 = .ok (.aload_n 0, 1) := by decide +kernel
theorem dX5_readWhere_48 : decode cX5_readWhere 48 = .ok (.getfield 18, 3) := by decide +kernel
theorem dX5_readWhere_51 : decode cX5_readWhere 51 = .ok (.getfield 120, 3) := by decide +kernel
theorem dX5_readWhere_54 : decode cX5_readWhere 54 = .ok (.iconst 1, 1) := by decide +kernel
theorem dX5_readWhere_55 : decode cX5_readWhere 55 = .ok (.isub, 1) := by decide +kernel
theorem dX5_readWhere_56 : decode cX5_readWhere 56 = .ok (.invokevirtual 43, 3) := by decide +kernel
theorem dX5_readWhere_59 : decode cX5_readWhere 59 = .ok (.ifCond .ne 5, 3) := by decide +kernel
theorem dX5_readWhere_62 : decode cX5_readWhere 62 = .ok (.iconst 0, 1) := by decide +kernel
theorem dX5_readWhere_63 : decode cX5_readWhere 63 = .ok (.ireturn, 1) := by decide +kernel
theorem dX5_readWhere_64 : decode cX5_readWhere 64 = .ok (.aload_n 0, 1) := by decide +kernel
theorem dX5_readWhere_65 : decode cX5_readWhere 65 = .ok (.getfield 18, 3) := by decide +kernel
theorem dX5_readWhere_68 : decode cX5_readWhere 68 = .ok (.aload_n 0, 1) := by decide +kernel
theorem dX5_readWhere_69 : decode cX5_readWhere 69 = .ok (.getfield 47, 3) := by decide +kernel
theorem dX5_readWhere_72 : decode cX5_readWhere 72 = .ok (.invokevirtual 169, 3) := by decide +kernel
theorem dX5_readWhere_75 : decode cX5_readWhere 75 = .ok (.iconst (-1), 1) := by decide +kernel
theorem dX5_readWhere_76 : decode cX5_readWhere 76 = .ok (.if_icmp .eq 11, 3) := by decide +kernel
theorem dX5_readWhere_79 : decode cX5_readWhere 79 = .ok (.aload_n 0, 1) := by decide +kernel
theorem dX5_readWhere_80 : decode cX5_readWhere 80 = .ok (.bipush (-5), 2) := by decide +kernel
theorem dX5_readWhere_82 : decode cX5_readWhere 82 = .ok (.iload_n 2, 1) := by decide +kernel
theorem dX5_readWhere_83 : decode cX5_readWhere 83 = .ok (.invokevirtual 71, 3) := by decide +kernel
theorem dX5_readWhere_86 : decode cX5_readWhere 86 = .ok (.ireturn, 1) := by decide +kernel
theorem dX5_readWhere_87 : decode cX5_readWhere 87 = .ok (.aload_n 0, 1) := by decide +kernel
theorem dX5_readWhere_88 : decode cX5_readWhere 88 = .ok (.getfield 18, 3) := by decide +kernel
theorem dX5_readWhere_91 : decode cX5_readWhere 91 = .ok (.aload_n 0, 1) := by decide +kernel
theorem dX5_readWhere_92 : decode cX5_readWhere 92 = .ok (.getfield 47, 3) := by decide +kernel
theorem dX5_readWhere_95 : decode cX5_readWhere 95 = .ok (.iload_n 1, 1) := by decide +kernel
theorem dX5_readWhere_96 : decode cX5_readWhere 96 = .ok (.invokevirtual 173, 3) := by decide +kernel
theorem dX5_readWhere_99 : decode cX5_readWhere 99 = .ok (.iconst 1, 1) := by decide +kernel
theorem dX5_readWhere_100 : decode cX5_readWhere 100 = .ok (.ireturn, 1) := by decide +kernel
theorem dX5_readHolder_0 : decode cX5_readHolder 0 = .ok (.aload_n 0, 1) := by decide +kernel
theorem dX5_readHolder_1 : decode cX5_readHolder 1 = .ok (.invokevirtual 96, 3) := by decide +kernel
theorem dX5_readHolder_4 : decode cX5_readHolder 4 = .ok (.ifCond .ne 14, 3) := by decide +kernel
theorem dX5_readHolder_7 : decode cX5_readHolder 7 = .ok (.aload_n 0, 1) := by decide +kernel
theorem dX5_readHolder_8 : decode cX5_readHolder 8 = .ok (.bipush (-2), 2) := by decide +kernel
theorem dX5_readHolder_10 : decode cX5_readHolder 10 = .ok (.aload_n 0, 1) := by decide +kernel
theorem dX5_readHolder_11 : decode cX5_readHolder 11 = .ok (.getfield 68, 3) := by decide +kernel
theorem dX5_readHolder_14 : decode cX5_readHolder 14 = .ok (.invokevirtual 71, 3) := by decide +kernel
theorem dX5_readHolder_17 : decode cX5_readHolder 17 = .ok (.ireturn, 1) := by decide +kernel
theorem dX5_readHolder_18 : decode cX5_readHolder 18 = .ok (.aload_n 0, 1) := by decide +kernel
theorem dX5_readHolder_19 : decode cX5_readHolder 19 = .ok (.getfield 18, 3) := by decide +kernel
theorem dX5_readHolder_22 : decode cX5_readHolder 22 = .ok (.aload_n 0, 1) := by decide +kernel
theorem dX5_readHolder_23 : decode cX5_readHolder 23 = .ok (.getfield 99, 3) := by decide +kernel
theorem dX5_readHolder_26 : decode cX5_readHolder 26 = .ok (.invokevirtual 103, 3) := by decide +kernel
theorem dX5_readHolder_29 : decode cX5_readHolder 29 = .ok (.istore_n 2, 1) := by decide +kernel
theorem dX5_readHolder_30 : decode cX5_readHolder 30 = .ok (.aload_n 0, 1) := by decide +kernel
theorem dX5_readHolder_31 : decode cX5_readHolder 31 = .ok (.getfield 18, 3) := by decide +kernel
theorem dX5_readHolder_34 : decode cX5_readHolder 34 = .ok (.iload_n 2, 1) := by decide +kernel
theorem dX5_readHolder_35 : decode cX5_readHolder 35 = .ok (.invokevirtual 176, 3) := by decide +kernel
theorem dX5_readHolder_38 : decode cX5_readHolder 38 = .ok (.astore_n 3, 1) := by decide +kernel
theorem dX5_readHolder_39 : decode cX5_readHolder 39 = .ok (.aload_n 3, 1) := by decide +kernel
theorem dX5_readHolder_40 : decode cX5_readHolder 40 = .ok (.ifnonnull 14, 3) := by decide +kernel
theorem dX5_readHolder_43 : decode cX5_readHolder 43 = .ok (.aload_n 0, 1) := by decide +kernel
theorem dX5_readHolder_44 : decode cX5_readHolder 44 = .ok (.bipush (-4), 2) := by decide +kernel
theorem dX5_readHolder_46 : decode cX5_readHolder 46 = .ok (.aload_n 0, 1) := by decide +kernel
theorem dX5_readHolder_47 : decode cX5_readHolder 47 = .ok (.getfield 68, 3) := by decide +kernel
theorem dX5_readHolder_50 : decode cX5_readHolder 50 = .ok (.invokevirtual 71, 3) := by decide +kernel
theorem dX5_readHolder_53 : decode cX5_readHolder 53 = .ok (.ireturn, 1) := by decide +kernel
theorem dX5_readHolder_54 : decode cX5_readHolder 54 = .ok (.aload_n 3, 1) := by decide +kernel
theorem dX5_readHolder_55 : decode cX5_readHolder 55 = .ok (.getfield 180, 3) := by decide +kernel
theorem dX5_readHolder_58 : decode cX5_readHolder 58 = .ok (.iconst (-1), 1) := by decide +kernel
theorem dX5_readHolder_59 : decode cX5_readHolder 59 = .ok (.if_icmp .eq 14, 3) := by decide +kernel
theorem dX5_readHolder_62 : decode cX5_readHolder 62 = .ok (.aload_n 0, 1) := by decide +kernel
theorem dX5_readHolder_63 : decode cX5_readHolder 63 = .ok (.bipush (-5), 2) := by decide +kernel
theorem dX5_readHolder_65 : decode cX5_readHolder 65 = .ok (.aload_n 0, 1) := by decide +kernel
theorem dX5_readHolder_66 : decode cX5_readHolder 66 = .ok (.getfield 68, 3) := by decide +kernel
theorem dX5_readHolder_69 : decode cX5_readHolder 69 = .ok (.invokevirtual 71, 3) := by decide +kernel
theorem dX5_readHolder_72 : decode cX5_readHolder 72 = .ok (.ireturn, 1) := by decide +kernel
theorem dX5_readHolder_73 : decode cX5_readHolder 73 = .ok (.aload_n 0, 1) := by decide +kernel
theorem dX5_readHolder_74 : decode cX5_readHolder 74 = .ok (.getfield 18, 3) := by decide +kernel
theorem dX5_readHolder_77 : decode cX5_readHolder 77 = .ok (.iload_n 2, 1) := by decide +kernel
theorem dX5_readHolder_78 : decode cX5_readHolder 78 = .ok (.iload_n 1, 1) := by decide +kernel
theorem dX5_readHolder_79 : decode cX5_readHolder 79 = .ok (.invokevirtual 183, 3) := by decide +kernel
theorem dX5_readHolder_82 : decode cX5_readHolder 82 = .ok (.aload_n 0, 1) := by decide +kernel
theorem dX5_readHolder_83 : decode cX5_readHolder 83 = .ok (.invokevirtual 35, 3) := by decide +kernel
theorem dX5_readHolder_86 : decode cX5_readHolder 86 = .ok (.iconst 1, 1) := by decide +kernel
theorem dX5_readHolder_87 : decode cX5_readHolder 87 = .ok (.ireturn, 1) := by decide +kernel
theorem dX5_readNumbers_0 : decode cX5_readNumbers 0 = .ok (.iconst 0, 1) := by decide +kernel
theorem dX5_readNumbers_1 : decode cX5_readNumbers 1 = .ok (.istore_n 2, 1) := by decide +kernel
theorem dX5_readNumbers_2 : decode cX5_readNumbers 2 = .ok (.iload_n 2, 1) := by decide +kernel
theorem dX5_readNumbers_3 : decode cX5_readNumbers 3 = .ok (.sipush 600, 3) := by decide +kernel
theorem dX5_readNumbers_6 : decode cX5_readNumbers 6 = .ok (.if_icmp .ge 63, 3) := by decide +kernel
theorem dX5_readNumbers_9 : decode cX5_readNumbers 9 = .ok (.aload_n 0, 1) := by decide +kernel
theorem dX5_readNumbers_10 : decode cX5_readNumbers 10 = .ok (.getfield 65, 3) := by decide +kernel
theorem dX5_readNumbers_13 : decode cX5_readNumbers 13 = .ok (.sipush 257, 3) := by decide +kernel
theorem dX5_readNumbers_16 : decode cX5_readNumbers 16 = .ok (.if_icmp .eq 12, 3) := by decide +kernel
theorem dX5_readNumbers_19 : decode cX5_readNumbers 19 = .ok (.aload_n 0, 1) := by decide +kernel
theorem dX5_readNumbers_20 : decode cX5_readNumbers 20 = .ok (.getfield 65, 3) := by decide +kernel
theorem dX5_readNumbers_23 : decode cX5_readNumbers 23 = .ok (.bipush 45, 2) := by decide +kernel
theorem dX5_readNumbers_25 : decode cX5_readNumbers 25 = .ok (.if_icmp .ne 44, 3) := by decide +kernel
theorem dX5_readNumbers_28 : decode cX5_readNumbers 28 = .ok (.aload_n 1, 1) := by decide +kernel
theorem dX5_readNumbers_29 : decode cX5_readNumbers 29 = .ok (.invokevirtual 186, 3) := by decide +kernel
theorem dX5_readNumbers_32 : decode cX5_readNumbers 32 = .ok (.ifCond .eq 14, 3) := by decide +kernel
theorem dX5_readNumbers_35 : decode cX5_readNumbers 35 = .ok (.aload_n 0, 1) := by decide +kernel
theorem dX5_readNumbers_36 : decode cX5_readNumbers 36 = .ok (.bipush (-6), 2) := by decide +kernel
theorem dX5_readNumbers_38 : decode cX5_readNumbers 38 = .ok (.aload_n 0, 1) := by decide +kernel
theorem dX5_readNumbers_39 : decode cX5_readNumbers 39 = .ok (.getfield 68, 3) := by decide +kernel
theorem dX5_readNumbers_42 : decode cX5_readNumbers 42 = .ok (.invokevirtual 71, 3) := by decide +kernel
theorem dX5_readNumbers_45 : decode cX5_readNumbers 45 = .ok (.ireturn, 1) := by decide +kernel
theorem dX5_readNumbers_46 : decode cX5_readNumbers 46 = .ok (.aload_n 0, 1) := by decide +kernel
theorem dX5_readNumbers_47 : decode cX5_readNumbers 47 = .ok (.invokevirtual 135, 3) := by decide +kernel
theorem dX5_readNumbers_50 : decode cX5_readNumbers 50 = .ok (.ifCond .ne 5, 3) := by decide +kernel
theorem dX5_readNumbers_53 : decode cX5_readNumbers 53 = .ok (.iconst 0, 1) := by decide +kernel
theorem dX5_readNumbers_54 : decode cX5_readNumbers 54 = .ok (.ireturn, 1) := by decide +kernel
theorem dX5_readNumbers_55 : decode cX5_readNumbers 55 = .ok (.aload_n 1, 1) := by decide +kernel
theorem dX5_readNumbers_56 : decode cX5_readNumbers 56 = .ok (.aload_n 0, 1) := by decide +kernel
theorem dX5_readNumbers_57 : decode cX5_readNumbers 57 = .ok (.getfield 47, 3) := by decide +kernel
theorem dX5_readNumbers_60 : decode cX5_readNumbers 60 = .ok (.invokevirtual 191, 3) := by decide +kernel
theorem dX5_readNumbers_63 : decode cX5_readNumbers 63 = .ok (.iinc 2 1, 3) := by decide +kernel
theorem dX5_readNumbers_66 : decode cX5_readNumbers 66 = .ok (.goto (-64), 3) := by decide +kernel
theorem dX5_readNumbers_69 : decode cX5_readNumbers 69 = .ok (.iconst 1, 1) := by decide +kernel
theorem dX5_readNumbers_70 : decode cX5_readNumbers 70 = .ok (.ireturn, 1) := by decide +kernel
theorem dX5_takeSigned_0 : decode cX5_takeSigned 0 = .ok (.aload_n 0, 1) := by decide +kernel
theorem dX5_takeSigned_1 : decode cX5_takeSigned 1 = .ok (.getfield 65, 3) := by decide +kernel
theorem dX5_takeSigned_4 : decode cX5_takeSigned 4 = .ok (.bipush 45, 2) := by decide +kernel
theorem dX5_takeSigned_6 : decode cX5_takeSigned 6 = .ok (.if_icmp .ne 7, 3) := by decide +kernel
theorem dX5_takeSigned_9 : decode cX5_takeSigned 9 = .ok (.iconst 1, 1) := by decide +kernel
theorem dX5_takeSigned_10 : decode cX5_takeSigned 10 = .ok (.goto 4, 3) := by decide +kernel
theorem dX5_takeSigned_13 : decode cX5_takeSigned 13 = .ok (.iconst 0, 1) := by decide +kernel
theorem dX5_takeSigned_14 : decode cX5_takeSigned 14 = .ok (.istore_n 1, 1) := by decide +kernel
theorem dX5_takeSigned_15 : decode cX5_takeSigned 15 = .ok (.iload_n 1, 1) := by decide +kernel
theorem dX5_takeSigned_16 : decode cX5_takeSigned 16 = .ok (.ifCond .eq 7, 3) := by decide +kernel
theorem dX5_takeSigned_19 : decode cX5_takeSigned 19 = .ok (.aload_n 0, 1) := by decide +kernel
theorem dX5_takeSigned_20 : decode cX5_takeSigned 20 = .ok (.invokevirtual 35, 3) := by decide +kernel
theorem dX5_takeSigned_23 : decode cX5_takeSigned 23 = .ok (.aload_n 0, 1) := by decide +kernel
theorem dX5_takeSigned_24 : decode cX5_takeSigned 24 = .ok (.iconst 0, 1) := by decide +kernel
theorem dX5_takeSigned_25 : decode cX5_takeSigned 25 = .ok (.ldc 194, 2) := by decide +kernel
theorem dX5_takeSigned_27 : decode cX5_takeSigned 27 = .ok (.invokevirtual 43, 3) := by decide +kernel
theorem dX5_takeSigned_30 : decode cX5_takeSigned 30 = .ok (.ifCond .ne 5, 3) := by decide +kernel
theorem dX5_takeSigned_33 : decode cX5_takeSigned 33 = .ok (.iconst 0, 1) := by decide +kernel
theorem dX5_takeSigned_34 : decode cX5_takeSigned 34 = .ok (.ireturn, 1) := by decide +kernel
theorem dX5_takeSigned_35 : decode cX5_takeSigned 35 = .ok (.aload_n 0, 1) := by decide +kernel
theorem dX5_takeSigned_36 : decode cX5_takeSigned 36 = .ok (.iload_n 1, 1) := by decide +kernel
theorem dX5_takeSigned_37 : decode cX5_takeSigned 37 = .ok (.ifCond .eq 11, 3) := by decide +kernel
theorem dX5_takeSigned_40 : decode cX5_takeSigned 40 = .ok (.aload_n 0, 1) := by decide +kernel
theorem dX5_takeSigned_41 : decode cX5_takeSigned 41 = .ok (.getfield 47, 3) := by decide +kernel
theorem dX5_takeSigned_44 : decode cX5_takeSigned 44 = .ok (.ineg, 1) := by decide +kernel
theorem dX5_takeSigned_45 : decode cX5_takeSigned 45 = .ok (.goto 7, 3) := by decide +kernel
theorem dX5_takeSigned_48 : decode cX5_takeSigned 48 = .ok (.aload_n 0, 1) := by decide +kernel
theorem dX5_takeSigned_49 : decode cX5_takeSigned 49 = .ok (.getfield 47, 3) := by decide +kernel
theorem dX5_takeSigned_52 : decode cX5_takeSigned 52 = .ok (.putfield 47, 3) := by decide +kernel
theorem dX5_takeSigned_55 : decode cX5_takeSigned 55 = .ok (.iconst 1, 1) := by decide +kernel
theorem dX5_takeSigned_56 : decode cX5_takeSigned 56 = .ok (.ireturn, 1) := by decide +kernel
theorem dX5_takeNumber_0 : decode cX5_takeNumber 0 = .ok (.aload_n 0, 1) := by decide +kernel
theorem dX5_takeNumber_1 : decode cX5_takeNumber 1 = .ok (.getfield 65, 3) := by decide +kernel
theorem dX5_takeNumber_4 : decode cX5_takeNumber 4 = .ok (.sipush 257, 3) := by decide +kernel
theorem dX5_takeNumber_7 : decode cX5_takeNumber 7 = .ok (.if_icmp .eq 14, 3) := by decide +kernel
theorem dX5_takeNumber_10 : decode cX5_takeNumber 10 = .ok (.aload_n 0, 1) := by decide +kernel
theorem dX5_takeNumber_11 : decode cX5_takeNumber 11 = .ok (.bipush (-2), 2) := by decide +kernel
theorem dX5_takeNumber_13 : decode cX5_takeNumber 13 = .ok (.aload_n 0, 1) := by decide +kernel
theorem dX5_takeNumber_14 : decode cX5_takeNumber 14 = .ok (.getfield 68, 3) := by decide +kernel
theorem dX5_takeNumber_17 : decode cX5_takeNumber 17 = .ok (.invokevirtual 71, 3) := by decide +kernel
theorem dX5_takeNumber_20 : decode cX5_takeNumber 20 = .ok (.ireturn, 1) := by decide +kernel
theorem dX5_takeNumber_21 : decode cX5_takeNumber 21 = .ok (.aload_n 0, 1) := by decide +kernel
theorem dX5_takeNumber_22 : decode cX5_takeNumber 22 = .ok (.getfield 195, 3) := by decide +kernel
theorem dX5_takeNumber_25 : decode cX5_takeNumber 25 = .ok (.iload_n 1, 1) := by decide +kernel
theorem dX5_takeNumber_26 : decode cX5_takeNumber 26 = .ok (.if_icmp .lt 11, 3) := by decide +kernel
theorem dX5_takeNumber_29 : decode cX5_takeNumber 29 = .ok (.aload_n 0, 1) := by decide +kernel
theorem dX5_takeNumber_30 : decode cX5_takeNumber 30 = .ok (.getfield 195, 3) := by decide +kernel
theorem dX5_takeNumber_33 : decode cX5_takeNumber 33 = .ok (.iload_n 2, 1) := by decide +kernel
theorem dX5_takeNumber_34 : decode cX5_takeNumber 34 = .ok (.if_icmp .le 14, 3) := by decide +kernel
theorem dX5_takeNumber_37 : decode cX5_takeNumber 37 = .ok (.aload_n 0, 1) := by decide +kernel
theorem dX5_takeNumber_38 : decode cX5_takeNumber 38 = .ok (.bipush (-3), 2) := by decide +kernel
theorem dX5_takeNumber_40 : decode cX5_takeNumber 40 = .ok (.aload_n 0, 1) := by decide +kernel
theorem dX5_takeNumber_41 : decode cX5_takeNumber 41 = .ok (.getfield 68, 3) := by decide +kernel
theorem dX5_takeNumber_44 : decode cX5_takeNumber 44 = .ok (.invokevirtual 71, 3) := by decide +kernel
theorem dX5_takeNumber_47 : decode cX5_takeNumber 47 = .ok (.ireturn, 1) := by decide +kernel
theorem dX5_takeNumber_48 : decode cX5_takeNumber 48 = .ok (.aload_n 0, 1) := by decide +kernel
theorem dX5_takeNumber_49 : decode cX5_takeNumber 49 = .ok (.aload_n 0, 1) := by decide +kernel
theorem dX5_takeNumber_50 : decode cX5_takeNumber 50 = .ok (.getfield 195, 3) := by decide +kernel
theorem dX5_takeNumber_53 : decode cX5_takeNumber 53 = .ok (.putfield 47, 3) := by decide +kernel
theorem dX5_takeNumber_56 : decode cX5_takeNumber 56 = .ok (.aload_n 0, 1) := by decide +kernel
theorem dX5_takeNumber_57 : decode cX5_takeNumber 57 = .ok (.invokevirtual 35, 3) := by decide +kernel
theorem dX5_takeNumber_60 : decode cX5_takeNumber 60 = .ok (.iconst 1, 1) := by decide +kernel
theorem dX5_takeNumber_61 : decode cX5_takeNumber 61 = .ok (.ireturn, 1) := by decide +kernel
theorem dX5_takeWord_0 : decode cX5_takeWord 0 = .ok (.aload_n 0, 1) := by decide +kernel
theorem dX5_takeWord_1 : decode cX5_takeWord 1 = .ok (.aload_n 1, 1) := by decide +kernel
theorem dX5_takeWord_2 : decode cX5_takeWord 2 = .ok (.invokevirtual 76, 3) := by decide +kernel
theorem dX5_takeWord_5 : decode cX5_takeWord 5 = .ok (.ifCond .ne 14, 3) := by decide +kernel
theorem dX5_takeWord_8 : decode cX5_takeWord 8 = .ok (.aload_n 0, 1) := by decide +kernel
theorem dX5_takeWord_9 : decode cX5_takeWord 9 = .ok (.bipush (-2), 2) := by decide +kernel
theorem dX5_takeWord_11 : decode cX5_takeWord 11 = .ok (.aload_n 0, 1) := by decide +kernel
theorem dX5_takeWord_12 : decode cX5_takeWord 12 = .ok (.getfield 68, 3) := by decide +kernel
theorem dX5_takeWord_15 : decode cX5_takeWord 15 = .ok (.invokevirtual 71, 3) := by decide +kernel
theorem dX5_takeWord_18 : decode cX5_takeWord 18 = .ok (.ireturn, 1) := by decide +kernel
theorem dX5_takeWord_19 : decode cX5_takeWord 19 = .ok (.aload_n 0, 1) := by decide +kernel
theorem dX5_takeWord_20 : decode cX5_takeWord 20 = .ok (.invokevirtual 35, 3) := by decide +kernel
theorem dX5_takeWord_23 : decode cX5_takeWord 23 = .ok (.iconst 1, 1) := by decide +kernel
theorem dX5_takeWord_24 : decode cX5_takeWord 24 = .ok (.ireturn, 1) := by decide +kernel
theorem dX5_takeSign_0 : decode cX5_takeSign 0 = .ok (.aload_n 0, 1) := by decide +kernel
theorem dX5_takeSign_1 : decode cX5_takeSign 1 = .ok (.getfield 65, 3) := by decide +kernel
theorem dX5_takeSign_4 : decode cX5_takeSign 4 = .ok (.iload_n 1, 1) := by decide +kernel
theorem dX5_takeSign_5 : decode cX5_takeSign 5 = .ok (.if_icmp .eq 14, 3) := by decide +kernel
theorem dX5_takeSign_8 : decode cX5_takeSign 8 = .ok (.aload_n 0, 1) := by decide +kernel
theorem dX5_takeSign_9 : decode cX5_takeSign 9 = .ok (.bipush (-2), 2) := by decide +kernel
theorem dX5_takeSign_11 : decode cX5_takeSign 11 = .ok (.aload_n 0, 1) := by decide +kernel
theorem dX5_takeSign_12 : decode cX5_takeSign 12 = .ok (.getfield 68, 3) := by decide +kernel
theorem dX5_takeSign_15 : decode cX5_takeSign 15 = .ok (.invokevirtual 71, 3) := by decide +kernel
theorem dX5_takeSign_18 : decode cX5_takeSign 18 = .ok (.ireturn, 1) := by decide +kernel
theorem dX5_takeSign_19 : decode cX5_takeSign 19 = .ok (.aload_n 0, 1) := by decide +kernel
theorem dX5_takeSign_20 : decode cX5_takeSign 20 = .ok (.invokevirtual 35, 3) := by decide +kernel
theorem dX5_takeSign_23 : decode cX5_takeSign 23 = .ok (.iconst 1, 1) := by decide +kernel
theorem dX5_takeSign_24 : decode cX5_takeSign 24 = .ok (.ireturn, 1) := by decide +kernel
theorem dX5_fails_0 : decode cX5_fails 0 = .ok (.aload_n 0, 1) := by decide +kernel
theorem dX5_fails_1 : decode cX5_fails 1 = .ok (.iload_n 1, 1) := by decide +kernel
theorem dX5_fails_2 : decode cX5_fails 2 = .ok (.putfield 29, 3) := by decide +kernel
theorem dX5_fails_5 : decode cX5_fails 5 = .ok (.aload_n 0, 1) := by decide +kernel
theorem dX5_fails_6 : decode cX5_fails 6 = .ok (.iload_n 2, 1) := by decide +kernel
theorem dX5_fails_7 : decode cX5_fails 7 = .ok (.putfield 22, 3) := by decide +kernel
theorem dX5_fails_10 : decode cX5_fails 10 = .ok (.iconst 0, 1) := by decide +kernel
theorem dX5_fails_11 : decode cX5_fails 11 = .ok (.ireturn, 1) := by decide +kernel
theorem dX5_isName_0 : decode cX5_isName 0 = .ok (.aload_n 0, 1) := by decide +kernel
theorem dX5_isName_1 : decode cX5_isName 1 = .ok (.getfield 65, 3) := by decide +kernel
theorem dX5_isName_4 : decode cX5_isName 4 = .ok (.sipush 256, 3) := by decide +kernel
theorem dX5_isName_7 : decode cX5_isName 7 = .ok (.if_icmp .ne 16, 3) := by decide +kernel
theorem dX5_isName_10 : decode cX5_isName 10 = .ok (.aload_n 0, 1) := by decide +kernel
theorem dX5_isName_11 : decode cX5_isName 11 = .ok (.getfield 99, 3) := by decide +kernel
theorem dX5_isName_14 : decode cX5_isName 14 = .ok (.lconst 0, 1) := by decide +kernel
theorem dX5_isName_15 : decode cX5_isName 15 = .ok (.lcmp, 1) := by decide +kernel
theorem dX5_isName_16 : decode cX5_isName 16 = .ok (.ifCond .eq 7, 3) := by decide +kernel
theorem dX5_isName_19 : decode cX5_isName 19 = .ok (.iconst 1, 1) := by decide +kernel
theorem dX5_isName_20 : decode cX5_isName 20 = .ok (.goto 4, 3) := by decide +kernel
theorem dX5_isName_23 : decode cX5_isName 23 = .ok (.iconst 0, 1) := by decide +kernel
theorem dX5_isName_24 : decode cX5_isName 24 = .ok (.ireturn, 1) := by decide +kernel
theorem dX5_isWord_0 : decode cX5_isWord 0 = .ok (.aload_n 0, 1) := by decide +kernel
theorem dX5_isWord_1 : decode cX5_isWord 1 = .ok (.getfield 65, 3) := by decide +kernel
theorem dX5_isWord_4 : decode cX5_isWord 4 = .ok (.sipush 256, 3) := by decide +kernel
theorem dX5_isWord_7 : decode cX5_isWord 7 = .ok (.if_icmp .ne 19, 3) := by decide +kernel
theorem dX5_isWord_10 : decode cX5_isWord 10 = .ok (.aload_n 0, 1) := by decide +kernel
theorem dX5_isWord_11 : decode cX5_isWord 11 = .ok (.getfield 99, 3) := by decide +kernel
theorem dX5_isWord_14 : decode cX5_isWord 14 = .ok (.aload_n 1, 1) := by decide +kernel
theorem dX5_isWord_15 : decode cX5_isWord 15 = .ok (.invokestatic 198, 3) := by decide +kernel
theorem dX5_isWord_18 : decode cX5_isWord 18 = .ok (.lcmp, 1) := by decide +kernel
theorem dX5_isWord_19 : decode cX5_isWord 19 = .ok (.ifCond .ne 7, 3) := by decide +kernel
theorem dX5_isWord_22 : decode cX5_isWord 22 = .ok (.iconst 1, 1) := by decide +kernel
theorem dX5_isWord_23 : decode cX5_isWord 23 = .ok (.goto 4, 3) := by decide +kernel
theorem dX5_isWord_26 : decode cX5_isWord 26 = .ok (.iconst 0, 1) := by decide +kernel
theorem dX5_isWord_27 : decode cX5_isWord 27 = .ok (.ireturn, 1) := by decide +kernel
theorem dX5_lettersOf_0 : decode cX5_lettersOf 0 = .ok (.lconst 0, 1) := by decide +kernel
theorem dX5_lettersOf_1 : decode cX5_lettersOf 1 = .ok (.lstore_n 1, 1) := by decide +kernel
theorem dX5_lettersOf_2 : decode cX5_lettersOf 2 = .ok (.iconst 0, 1) := by decide +kernel
theorem dX5_lettersOf_3 : decode cX5_lettersOf 3 = .ok (.istore_n 3, 1) := by decide +kernel
theorem dX5_lettersOf_4 : decode cX5_lettersOf 4 = .ok (.iload_n 3, 1) := by decide +kernel
theorem dX5_lettersOf_5 : decode cX5_lettersOf 5 = .ok (.aload_n 0, 1) := by decide +kernel
theorem dX5_lettersOf_6 : decode cX5_lettersOf 6 = .ok (.invokevirtual 202, 3) := by decide +kernel
theorem dX5_lettersOf_9 : decode cX5_lettersOf 9 = .ok (.if_icmp .ge 21, 3) := by decide +kernel
theorem dX5_lettersOf_12 : decode cX5_lettersOf 12 = .ok (.lload_n 1, 1) := by decide +kernel
theorem dX5_lettersOf_13 : decode cX5_lettersOf 13 = .ok (.bipush 8, 2) := by decide +kernel
theorem dX5_lettersOf_15 : decode cX5_lettersOf 15 = .ok (.lshl, 1) := by decide +kernel
theorem dX5_lettersOf_16 : decode cX5_lettersOf 16 = .ok (.aload_n 0, 1) := by decide +kernel
theorem dX5_lettersOf_17 : decode cX5_lettersOf 17 = .ok (.iload_n 3, 1) := by decide +kernel
theorem dX5_lettersOf_18 : decode cX5_lettersOf 18 = .ok (.invokevirtual 206, 3) := by decide +kernel
theorem dX5_lettersOf_21 : decode cX5_lettersOf 21 = .ok (.i2l, 1) := by decide +kernel
theorem dX5_lettersOf_22 : decode cX5_lettersOf 22 = .ok (.lor, 1) := by decide +kernel
theorem dX5_lettersOf_23 : decode cX5_lettersOf 23 = .ok (.lstore_n 1, 1) := by decide +kernel
theorem dX5_lettersOf_24 : decode cX5_lettersOf 24 = .ok (.iinc 3 1, 3) := by decide +kernel
theorem dX5_lettersOf_27 : decode cX5_lettersOf 27 = .ok (.goto (-23), 3) := by decide +kernel
theorem dX5_lettersOf_30 : decode cX5_lettersOf 30 = .ok (.lload_n 1, 1) := by decide +kernel
theorem dX5_lettersOf_31 : decode cX5_lettersOf 31 = .ok (.lreturn, 1) := by decide +kernel
theorem dX5_kindOfWord_0 : decode cX5_kindOfWord 0 = .ok (.iconst 0, 1) := by decide +kernel
theorem dX5_kindOfWord_1 : decode cX5_kindOfWord 1 = .ok (.istore_n 1, 1) := by decide +kernel
theorem dX5_kindOfWord_2 : decode cX5_kindOfWord 2 = .ok (.iload_n 1, 1) := by decide +kernel
theorem dX5_kindOfWord_3 : decode cX5_kindOfWord 3 = .ok (.bipush 13, 2) := by decide +kernel
theorem dX5_kindOfWord_5 : decode cX5_kindOfWord 5 = .ok (.if_icmp .gt 22, 3) := by decide +kernel
theorem dX5_kindOfWord_8 : decode cX5_kindOfWord 8 = .ok (.aload_n 0, 1) := by decide +kernel
theorem dX5_kindOfWord_9 : decode cX5_kindOfWord 9 = .ok (.iload_n 1, 1) := by decide +kernel
theorem dX5_kindOfWord_10 : decode cX5_kindOfWord 10 = .ok (.invokestatic 210, 3) := by decide +kernel
theorem dX5_kindOfWord_13 : decode cX5_kindOfWord 13 = .ok (.invokevirtual 76, 3) := by decide +kernel
theorem dX5_kindOfWord_16 : decode cX5_kindOfWord 16 = .ok (.ifCond .eq 5, 3) := by decide +kernel
theorem dX5_kindOfWord_19 : decode cX5_kindOfWord 19 = .ok (.iload_n 1, 1) := by decide +kernel
theorem dX5_kindOfWord_20 : decode cX5_kindOfWord 20 = .ok (.ireturn, 1) := by decide +kernel
theorem dX5_kindOfWord_21 : decode cX5_kindOfWord 21 = .ok (.iinc 1 1, 3) := by decide +kernel
theorem dX5_kindOfWord_24 : decode cX5_kindOfWord 24 = .ok (.goto (-22), 3) := by decide +kernel
theorem dX5_kindOfWord_27 : decode cX5_kindOfWord 27 = .ok (.iconst (-1), 1) := by decide +kernel
theorem dX5_kindOfWord_28 : decode cX5_kindOfWord 28 = .ok (.ireturn, 1) := by decide +kernel
theorem dX5_wordOf_0 : decode cX5_wordOf 0 = .ok (.iload_n 0, 1) := by decide +kernel
theorem dX5_wordOf_1 : decode cX5_wordOf 1 = .ok (.tableswitch 106 0 12 #[67, 70, 73, 76, 79, 82, 85, 88, 91, 94, 97, 100, 103], 67) := by decide +kernel
theorem dX5_wordOf_68 : decode cX5_wordOf 68 = .ok (.ldc 214, 2) := by decide +kernel
theorem dX5_wordOf_70 : decode cX5_wordOf 70 = .ok (.areturn, 1) := by decide +kernel
theorem dX5_wordOf_71 : decode cX5_wordOf 71 = .ok (.ldc 216, 2) := by decide +kernel
theorem dX5_wordOf_73 : decode cX5_wordOf 73 = .ok (.areturn, 1) := by decide +kernel
theorem dX5_wordOf_74 : decode cX5_wordOf 74 = .ok (.ldc 218, 2) := by decide +kernel
theorem dX5_wordOf_76 : decode cX5_wordOf 76 = .ok (.areturn, 1) := by decide +kernel
theorem dX5_wordOf_77 : decode cX5_wordOf 77 = .ok (.ldc 220, 2) := by decide +kernel
theorem dX5_wordOf_79 : decode cX5_wordOf 79 = .ok (.areturn, 1) := by decide +kernel
theorem dX5_wordOf_80 : decode cX5_wordOf 80 = .ok (.ldc 222, 2) := by decide +kernel
theorem dX5_wordOf_82 : decode cX5_wordOf 82 = .ok (.areturn, 1) := by decide +kernel
theorem dX5_wordOf_83 : decode cX5_wordOf 83 = .ok (.ldc 224, 2) := by decide +kernel
theorem dX5_wordOf_85 : decode cX5_wordOf 85 = .ok (.areturn, 1) := by decide +kernel
theorem dX5_wordOf_86 : decode cX5_wordOf 86 = .ok (.ldc 226, 2) := by decide +kernel
theorem dX5_wordOf_88 : decode cX5_wordOf 88 = .ok (.areturn, 1) := by decide +kernel
theorem dX5_wordOf_89 : decode cX5_wordOf 89 = .ok (.ldc 228, 2) := by decide +kernel
theorem dX5_wordOf_91 : decode cX5_wordOf 91 = .ok (.areturn, 1) := by decide +kernel
theorem dX5_wordOf_92 : decode cX5_wordOf 92 = .ok (.ldc 230, 2) := by decide +kernel
theorem dX5_wordOf_94 : decode cX5_wordOf 94 = .ok (.areturn, 1) := by decide +kernel
theorem dX5_wordOf_95 : decode cX5_wordOf 95 = .ok (.ldc 232, 2) := by decide +kernel
theorem dX5_wordOf_97 : decode cX5_wordOf 97 = .ok (.areturn, 1) := by decide +kernel
theorem dX5_wordOf_98 : decode cX5_wordOf 98 = .ok (.ldc 234, 2) := by decide +kernel
theorem dX5_wordOf_100 : decode cX5_wordOf 100 = .ok (.areturn, 1) := by decide +kernel
theorem dX5_wordOf_101 : decode cX5_wordOf 101 = .ok (.ldc 236, 2) := by decide +kernel
theorem dX5_wordOf_103 : decode cX5_wordOf 103 = .ok (.areturn, 1) := by decide +kernel
theorem dX5_wordOf_104 : decode cX5_wordOf 104 = .ok (.ldc 238, 2) := by decide +kernel
theorem dX5_wordOf_106 : decode cX5_wordOf 106 = .ok (.areturn, 1) := by decide +kernel
theorem dX5_wordOf_107 : decode cX5_wordOf 107 = .ok (.ldc 240, 2) := by decide +kernel
theorem dX5_wordOf_109 : decode cX5_wordOf 109 = .ok (.areturn, 1) := by decide +kernel
theorem dX5_next_0 : decode cX5_next 0 = .ok (.aload_n 0, 1) := by decide +kernel
theorem dX5_next_1 : decode cX5_next 1 = .ok (.getfield 26, 3) := by decide +kernel
theorem dX5_next_4 : decode cX5_next 4 = .ok (.aload_n 0, 1) := by decide +kernel
theorem dX5_next_5 : decode cX5_next 5 = .ok (.getfield 9, 3) := by decide +kernel
theorem dX5_next_8 : decode cX5_next 8 = .ok (.arraylength, 1) := by decide +kernel
theorem dX5_next_9 : decode cX5_next 9 = .ok (.if_icmp .ge 10, 3) := by decide +kernel
theorem dX5_next_12 : decode cX5_next 12 = .ok (.aload_n 0, 1) := by decide +kernel
theorem dX5_next_13 : decode cX5_next 13 = .ok (.getfield 26, 3) := by decide +kernel
theorem dX5_next_16 : decode cX5_next 16 = .ok (.goto 8, 3) := by decide +kernel
theorem dX5_next_19 : decode cX5_next 19 = .ok (.aload_n 0, 1) := by decide +kernel
theorem dX5_next_20 : decode cX5_next 20 = .ok (.getfield 9, 3) := by decide +kernel
theorem dX5_next_23 : decode cX5_next 23 = .ok (.arraylength, 1) := by decide +kernel
theorem dX5_next_24 : decode cX5_next 24 = .ok (.istore_n 1, 1) := by decide +kernel
theorem dX5_next_25 : decode cX5_next 25 = .ok (.aload_n 0, 1) := by decide +kernel
theorem dX5_next_26 : decode cX5_next 26 = .ok (.getfield 32, 3) := by decide +kernel
theorem dX5_next_29 : decode cX5_next 29 = .ok (.iload_n 1, 1) := by decide +kernel
theorem dX5_next_30 : decode cX5_next 30 = .ok (.if_icmp .ge 30, 3) := by decide +kernel
theorem dX5_next_33 : decode cX5_next 33 = .ok (.aload_n 0, 1) := by decide +kernel
theorem dX5_next_34 : decode cX5_next 34 = .ok (.getfield 9, 3) := by decide +kernel
theorem dX5_next_37 : decode cX5_next 37 = .ok (.aload_n 0, 1) := by decide +kernel
theorem dX5_next_38 : decode cX5_next 38 = .ok (.getfield 32, 3) := by decide +kernel
theorem dX5_next_41 : decode cX5_next 41 = .ok (.baload, 1) := by decide +kernel
theorem dX5_next_42 : decode cX5_next 42 = .ok (.bipush 32, 2) := by decide +kernel
theorem dX5_next_44 : decode cX5_next 44 = .ok (.if_icmp .ne 16, 3) := by decide +kernel
theorem dX5_next_47 : decode cX5_next 47 = .ok (.aload_n 0, 1) := by decide +kernel
theorem dX5_next_48 : decode cX5_next 48 = .ok (.dup, 1) := by decide +kernel
theorem dX5_next_49 : decode cX5_next 49 = .ok (.getfield 32, 3) := by decide +kernel
theorem dX5_next_52 : decode cX5_next 52 = .ok (.iconst 1, 1) := by decide +kernel
theorem dX5_next_53 : decode cX5_next 53 = .ok (.iadd, 1) := by decide +kernel
theorem dX5_next_54 : decode cX5_next 54 = .ok (.putfield 32, 3) := by decide +kernel
theorem dX5_next_57 : decode cX5_next 57 = .ok (.goto (-32), 3) := by decide +kernel
theorem dX5_next_60 : decode cX5_next 60 = .ok (.aload_n 0, 1) := by decide +kernel
theorem dX5_next_61 : decode cX5_next 61 = .ok (.aload_n 0, 1) := by decide +kernel
theorem dX5_next_62 : decode cX5_next 62 = .ok (.getfield 32, 3) := by decide +kernel
theorem dX5_next_65 : decode cX5_next 65 = .ok (.putfield 68, 3) := by decide +kernel
theorem dX5_next_68 : decode cX5_next 68 = .ok (.aload_n 0, 1) := by decide +kernel
theorem dX5_next_69 : decode cX5_next 69 = .ok (.iconst (-1), 1) := by decide +kernel
theorem dX5_next_70 : decode cX5_next 70 = .ok (.putfield 65, 3) := by decide +kernel
theorem dX5_next_73 : decode cX5_next 73 = .ok (.aload_n 0, 1) := by decide +kernel
theorem dX5_next_74 : decode cX5_next 74 = .ok (.getfield 32, 3) := by decide +kernel
theorem dX5_next_77 : decode cX5_next 77 = .ok (.iload_n 1, 1) := by decide +kernel
theorem dX5_next_78 : decode cX5_next 78 = .ok (.if_icmp .ge 30, 3) := by decide +kernel
theorem dX5_next_81 : decode cX5_next 81 = .ok (.aload_n 0, 1) := by decide +kernel
theorem dX5_next_82 : decode cX5_next 82 = .ok (.aload_n 0, 1) := by decide +kernel
theorem dX5_next_83 : decode cX5_next 83 = .ok (.getfield 9, 3) := by decide +kernel
theorem dX5_next_86 : decode cX5_next 86 = .ok (.aload_n 0, 1) := by decide +kernel
theorem dX5_next_87 : decode cX5_next 87 = .ok (.getfield 32, 3) := by decide +kernel
theorem dX5_next_90 : decode cX5_next 90 = .ok (.baload, 1) := by decide +kernel
theorem dX5_next_91 : decode cX5_next 91 = .ok (.sipush 255, 3) := by decide +kernel
theorem dX5_next_94 : decode cX5_next 94 = .ok (.iand, 1) := by decide +kernel
theorem dX5_next_95 : decode cX5_next 95 = .ok (.putfield 65, 3) := by decide +kernel
theorem dX5_next_98 : decode cX5_next 98 = .ok (.aload_n 0, 1) := by decide +kernel
theorem dX5_next_99 : decode cX5_next 99 = .ok (.dup, 1) := by decide +kernel
theorem dX5_next_100 : decode cX5_next 100 = .ok (.getfield 32, 3) := by decide +kernel
theorem dX5_next_103 : decode cX5_next 103 = .ok (.iconst 1, 1) := by decide +kernel
theorem dX5_next_104 : decode cX5_next 104 = .ok (.iadd, 1) := by decide +kernel
theorem dX5_next_105 : decode cX5_next 105 = .ok (.putfield 32, 3) := by decide +kernel
theorem dX5_next_108 : decode cX5_next 108 = .ok (.aload_n 0, 1) := by decide +kernel
theorem dX5_next_109 : decode cX5_next 109 = .ok (.getfield 65, 3) := by decide +kernel
theorem dX5_next_112 : decode cX5_next 112 = .ok (.bipush 97, 2) := by decide +kernel
theorem dX5_next_114 : decode cX5_next 114 = .ok (.if_icmp .lt 121, 3) := by decide +kernel
theorem dX5_next_117 : decode cX5_next 117 = .ok (.aload_n 0, 1) := by decide +kernel
theorem dX5_next_118 : decode cX5_next 118 = .ok (.getfield 65, 3) := by decide +kernel
theorem dX5_next_121 : decode cX5_next 121 = .ok (.bipush 122, 2) := by decide +kernel
theorem dX5_next_123 : decode cX5_next 123 = .ok (.if_icmp .gt 112, 3) := by decide +kernel
theorem dX5_next_126 : decode cX5_next 126 = .ok (.aload_n 0, 1) := by decide +kernel
theorem dX5_next_127 : decode cX5_next 127 = .ok (.aload_n 0, 1) := by decide +kernel
theorem dX5_next_128 : decode cX5_next 128 = .ok (.getfield 65, 3) := by decide +kernel
theorem dX5_next_131 : decode cX5_next 131 = .ok (.i2l, 1) := by decide +kernel
theorem dX5_next_132 : decode cX5_next 132 = .ok (.putfield 99, 3) := by decide +kernel
theorem dX5_next_135 : decode cX5_next 135 = .ok (.aload_n 0, 1) := by decide +kernel
theorem dX5_next_136 : decode cX5_next 136 = .ok (.sipush 256, 3) := by decide +kernel
theorem dX5_next_139 : decode cX5_next 139 = .ok (.putfield 65, 3) := by decide +kernel
theorem dX5_next_142 : decode cX5_next 142 = .ok (.aload_n 0, 1) := by decide +kernel
theorem dX5_next_143 : decode cX5_next 143 = .ok (.getfield 32, 3) := by decide +kernel
theorem dX5_next_146 : decode cX5_next 146 = .ok (.iload_n 1, 1) := by decide +kernel
theorem dX5_next_147 : decode cX5_next 147 = .ok (.if_icmp .ge 66, 3) := by decide +kernel
theorem dX5_next_150 : decode cX5_next 150 = .ok (.aload_n 0, 1) := by decide +kernel
theorem dX5_next_151 : decode cX5_next 151 = .ok (.getfield 9, 3) := by decide +kernel
theorem dX5_next_154 : decode cX5_next 154 = .ok (.aload_n 0, 1) := by decide +kernel
theorem dX5_next_155 : decode cX5_next 155 = .ok (.getfield 32, 3) := by decide +kernel
theorem dX5_next_158 : decode cX5_next 158 = .ok (.baload, 1) := by decide +kernel
theorem dX5_next_159 : decode cX5_next 159 = .ok (.bipush 97, 2) := by decide +kernel
theorem dX5_next_161 : decode cX5_next 161 = .ok (.if_icmp .lt 52, 3) := by decide +kernel
theorem dX5_next_164 : decode cX5_next 164 = .ok (.aload_n 0, 1) := by decide +kernel
theorem dX5_next_165 : decode cX5_next 165 = .ok (.getfield 9, 3) := by decide +kernel
theorem dX5_next_168 : decode cX5_next 168 = .ok (.aload_n 0, 1) := by decide +kernel
theorem dX5_next_169 : decode cX5_next 169 = .ok (.getfield 32, 3) := by decide +kernel
theorem dX5_next_172 : decode cX5_next 172 = .ok (.baload, 1) := by decide +kernel
theorem dX5_next_173 : decode cX5_next 173 = .ok (.bipush 122, 2) := by decide +kernel
theorem dX5_next_175 : decode cX5_next 175 = .ok (.if_icmp .gt 38, 3) := by decide +kernel
theorem dX5_next_178 : decode cX5_next 178 = .ok (.aload_n 0, 1) := by decide +kernel
theorem dX5_next_179 : decode cX5_next 179 = .ok (.aload_n 0, 1) := by decide +kernel
theorem dX5_next_180 : decode cX5_next 180 = .ok (.getfield 99, 3) := by decide +kernel
theorem dX5_next_183 : decode cX5_next 183 = .ok (.bipush 8, 2) := by decide +kernel
theorem dX5_next_185 : decode cX5_next 185 = .ok (.lshl, 1) := by decide +kernel
theorem dX5_next_186 : decode cX5_next 186 = .ok (.aload_n 0, 1) := by decide +kernel
theorem dX5_next_187 : decode cX5_next 187 = .ok (.getfield 9, 3) := by decide +kernel
theorem dX5_next_190 : decode cX5_next 190 = .ok (.aload_n 0, 1) := by decide +kernel
theorem dX5_next_191 : decode cX5_next 191 = .ok (.getfield 32, 3) := by decide +kernel
theorem dX5_next_194 : decode cX5_next 194 = .ok (.baload, 1) := by decide +kernel
theorem dX5_next_195 : decode cX5_next 195 = .ok (.i2l, 1) := by decide +kernel
theorem dX5_next_196 : decode cX5_next 196 = .ok (.lor, 1) := by decide +kernel
theorem dX5_next_197 : decode cX5_next 197 = .ok (.putfield 99, 3) := by decide +kernel
theorem dX5_next_200 : decode cX5_next 200 = .ok (.aload_n 0, 1) := by decide +kernel
theorem dX5_next_201 : decode cX5_next 201 = .ok (.dup, 1) := by decide +kernel
theorem dX5_next_202 : decode cX5_next 202 = .ok (.getfield 32, 3) := by decide +kernel
theorem dX5_next_205 : decode cX5_next 205 = .ok (.iconst 1, 1) := by decide +kernel
theorem dX5_next_206 : decode cX5_next 206 = .ok (.iadd, 1) := by decide +kernel
theorem dX5_next_207 : decode cX5_next 207 = .ok (.putfield 32, 3) := by decide +kernel
theorem dX5_next_210 : decode cX5_next 210 = .ok (.goto (-68), 3) := by decide +kernel
theorem dX5_next_213 : decode cX5_next 213 = .ok (.aload_n 0, 1) := by decide +kernel
theorem dX5_next_214 : decode cX5_next 214 = .ok (.getfield 32, 3) := by decide +kernel
theorem dX5_next_217 : decode cX5_next 217 = .ok (.aload_n 0, 1) := by decide +kernel
theorem dX5_next_218 : decode cX5_next 218 = .ok (.getfield 68, 3) := by decide +kernel
theorem dX5_next_221 : decode cX5_next 221 = .ok (.isub, 1) := by decide +kernel
theorem dX5_next_222 : decode cX5_next 222 = .ok (.bipush 8, 2) := by decide +kernel
theorem dX5_next_224 : decode cX5_next 224 = .ok (.if_icmp .le 125, 3) := by decide +kernel
theorem dX5_next_227 : decode cX5_next 227 = .ok (.aload_n 0, 1) := by decide +kernel
theorem dX5_next_228 : decode cX5_next 228 = .ok (.lconst 0, 1) := by decide +kernel
theorem dX5_next_229 : decode cX5_next 229 = .ok (.putfield 99, 3) := by decide +kernel
theorem dX5_next_232 : decode cX5_next 232 = .ok (.goto 117, 3) := by decide +kernel
theorem dX5_next_235 : decode cX5_next 235 = .ok (.aload_n 0, 1) := by decide +kernel
theorem dX5_next_236 : decode cX5_next 236 = .ok (.getfield 65, 3) := by decide +kernel
theorem dX5_next_239 : decode cX5_next 239 = .ok (.bipush 48, 2) := by decide +kernel
theorem dX5_next_241 : decode cX5_next 241 = .ok (.if_icmp .lt 108, 3) := by decide +kernel
theorem dX5_next_244 : decode cX5_next 244 = .ok (.aload_n 0, 1) := by decide +kernel
theorem dX5_next_245 : decode cX5_next 245 = .ok (.getfield 65, 3) := by decide +kernel
theorem dX5_next_248 : decode cX5_next 248 = .ok (.bipush 57, 2) := by decide +kernel
theorem dX5_next_250 : decode cX5_next 250 = .ok (.if_icmp .gt 99, 3) := by decide +kernel
theorem dX5_next_253 : decode cX5_next 253 = .ok (.aload_n 0, 1) := by decide +kernel
theorem dX5_next_254 : decode cX5_next 254 = .ok (.aload_n 0, 1) := by decide +kernel
theorem dX5_next_255 : decode cX5_next 255 = .ok (.getfield 65, 3) := by decide +kernel
theorem dX5_next_258 : decode cX5_next 258 = .ok (.bipush 48, 2) := by decide +kernel
theorem dX5_next_260 : decode cX5_next 260 = .ok (.isub, 1) := by decide +kernel
theorem dX5_next_261 : decode cX5_next 261 = .ok (.putfield 195, 3) := by decide +kernel
theorem dX5_next_264 : decode cX5_next 264 = .ok (.aload_n 0, 1) := by decide +kernel
theorem dX5_next_265 : decode cX5_next 265 = .ok (.sipush 257, 3) := by decide +kernel
theorem dX5_next_268 : decode cX5_next 268 = .ok (.putfield 65, 3) := by decide +kernel
theorem dX5_next_271 : decode cX5_next 271 = .ok (.aload_n 0, 1) := by decide +kernel
theorem dX5_next_272 : decode cX5_next 272 = .ok (.getfield 32, 3) := by decide +kernel
theorem dX5_next_275 : decode cX5_next 275 = .ok (.iload_n 1, 1) := by decide +kernel
theorem dX5_next_276 : decode cX5_next 276 = .ok (.if_icmp .ge 73, 3) := by decide +kernel
theorem dX5_next_279 : decode cX5_next 279 = .ok (.aload_n 0, 1) := by decide +kernel
theorem dX5_next_280 : decode cX5_next 280 = .ok (.getfield 9, 3) := by decide +kernel
theorem dX5_next_283 : decode cX5_next 283 = .ok (.aload_n 0, 1) := by decide +kernel
theorem dX5_next_284 : decode cX5_next 284 = .ok (.getfield 32, 3) := by decide +kernel
theorem dX5_next_287 : decode cX5_next 287 = .ok (.baload, 1) := by decide +kernel
theorem dX5_next_288 : decode cX5_next 288 = .ok (.bipush 48, 2) := by decide +kernel
theorem dX5_next_290 : decode cX5_next 290 = .ok (.if_icmp .lt 59, 3) := by decide +kernel
theorem dX5_next_293 : decode cX5_next 293 = .ok (.aload_n 0, 1) := by decide +kernel
theorem dX5_next_294 : decode cX5_next 294 = .ok (.getfield 9, 3) := by decide +kernel
theorem dX5_next_297 : decode cX5_next 297 = .ok (.aload_n 0, 1) := by decide +kernel
theorem dX5_next_298 : decode cX5_next 298 = .ok (.getfield 32, 3) := by decide +kernel
theorem dX5_next_301 : decode cX5_next 301 = .ok (.baload, 1) := by decide +kernel
theorem dX5_next_302 : decode cX5_next 302 = .ok (.bipush 57, 2) := by decide +kernel
theorem dX5_next_304 : decode cX5_next 304 = .ok (.if_icmp .gt 45, 3) := by decide +kernel
theorem dX5_next_307 : decode cX5_next 307 = .ok (.aload_n 0, 1) := by decide +kernel
theorem dX5_next_308 : decode cX5_next 308 = .ok (.aload_n 0, 1) := by decide +kernel
theorem dX5_next_309 : decode cX5_next 309 = .ok (.getfield 195, 3) := by decide +kernel
theorem dX5_next_312 : decode cX5_next 312 = .ok (.bipush 10, 2) := by decide +kernel
theorem dX5_next_314 : decode cX5_next 314 = .ok (.imul, 1) := by decide +kernel
theorem dX5_next_315 : decode cX5_next 315 = .ok (.aload_n 0, 1) := by decide +kernel
theorem dX5_next_316 : decode cX5_next 316 = .ok (.getfield 9, 3) := by decide +kernel
theorem dX5_next_319 : decode cX5_next 319 = .ok (.aload_n 0, 1) := by decide +kernel
theorem dX5_next_320 : decode cX5_next 320 = .ok (.getfield 32, 3) := by decide +kernel
theorem dX5_next_323 : decode cX5_next 323 = .ok (.baload, 1) := by decide +kernel
theorem dX5_next_324 : decode cX5_next 324 = .ok (.iadd, 1) := by decide +kernel
theorem dX5_next_325 : decode cX5_next 325 = .ok (.bipush 48, 2) := by decide +kernel
theorem dX5_next_327 : decode cX5_next 327 = .ok (.isub, 1) := by decide +kernel
theorem dX5_next_328 : decode cX5_next 328 = .ok (.ldc 242, 2) := by decide +kernel
theorem dX5_next_330 : decode cX5_next 330 = .ok (.invokestatic 243, 3) := by decide +kernel
theorem dX5_next_333 : decode cX5_next 333 = .ok (.putfield 195, 3) := by decide +kernel
theorem dX5_next_336 : decode cX5_next 336 = .ok (.aload_n 0, 1) := by decide +kernel
theorem dX5_next_337 : decode cX5_next 337 = .ok (.dup, 1) := by decide +kernel
theorem dX5_next_338 : decode cX5_next 338 = .ok (.getfield 32, 3) := by decide +kernel
theorem dX5_next_341 : decode cX5_next 341 = .ok (.iconst 1, 1) := by decide +kernel
theorem dX5_next_342 : decode cX5_next 342 = .ok (.iadd, 1) := by decide +kernel
theorem dX5_next_343 : decode cX5_next 343 = .ok (.putfield 32, 3) := by decide +kernel
theorem dX5_next_346 : decode cX5_next 346 = .ok (.goto (-75), 3) := by decide +kernel
theorem dX5_next_349 : decode cX5_next 349 = .ok (.return_, 1) := by decide +kernel
theorem dX6_advance_0 : decode cX6_advance 0 = .ok (.iconst 0, 1) := by decide +kernel
theorem dX6_advance_1 : decode cX6_advance 1 = .ok (.istore_n 2, 1) := by decide +kernel
theorem dX6_advance_2 : decode cX6_advance 2 = .ok (.iload_n 2, 1) := by decide +kernel
theorem dX6_advance_3 : decode cX6_advance 3 = .ok (.iload_n 1, 1) := by decide +kernel
theorem dX6_advance_4 : decode cX6_advance 4 = .ok (.if_icmp .ge 20, 3) := by decide +kernel
theorem dX6_advance_7 : decode cX6_advance 7 = .ok (.aload_n 0, 1) := by decide +kernel
theorem dX6_advance_8 : decode cX6_advance 8 = .ok (.invokestatic 9, 3) := by decide +kernel
theorem dX6_advance_11 : decode cX6_advance 11 = .ok (.ifCond .ne 13, 3) := by decide +kernel
theorem dX6_advance_14 : decode cX6_advance 14 = .ok (.aload_n 0, 1) := by decide +kernel
theorem dX6_advance_15 : decode cX6_advance 15 = .ok (.invokestatic 15, 3) := by decide +kernel
theorem dX6_advance_18 : decode cX6_advance 18 = .ok (.iinc 2 1, 3) := by decide +kernel
theorem dX6_advance_21 : decode cX6_advance 21 = .ok (.goto (-19), 3) := by decide +kernel
theorem dX6_advance_24 : decode cX6_advance 24 = .ok (.iload_n 2, 1) := by decide +kernel
theorem dX6_advance_25 : decode cX6_advance 25 = .ok (.ireturn, 1) := by decide +kernel
theorem dX6_isOver_0 : decode cX6_isOver 0 = .ok (.iconst 0, 1) := by decide +kernel
theorem dX6_isOver_1 : decode cX6_isOver 1 = .ok (.istore_n 1, 1) := by decide +kernel
theorem dX6_isOver_2 : decode cX6_isOver 2 = .ok (.iload_n 1, 1) := by decide +kernel
theorem dX6_isOver_3 : decode cX6_isOver 3 = .ok (.aload_n 0, 1) := by decide +kernel
theorem dX6_isOver_4 : decode cX6_isOver 4 = .ok (.getfield 19, 3) := by decide +kernel
theorem dX6_isOver_7 : decode cX6_isOver 7 = .ok (.if_icmp .ge 36, 3) := by decide +kernel
theorem dX6_isOver_10 : decode cX6_isOver 10 = .ok (.aload_n 0, 1) := by decide +kernel
theorem dX6_isOver_11 : decode cX6_isOver 11 = .ok (.iload_n 1, 1) := by decide +kernel
theorem dX6_isOver_12 : decode cX6_isOver 12 = .ok (.invokevirtual 25, 3) := by decide +kernel
theorem dX6_isOver_15 : decode cX6_isOver 15 = .ok (.astore_n 2, 1) := by decide +kernel
theorem dX6_isOver_16 : decode cX6_isOver 16 = .ok (.aload_n 2, 1) := by decide +kernel
theorem dX6_isOver_17 : decode cX6_isOver 17 = .ok (.ifnull 20, 3) := by decide +kernel
theorem dX6_isOver_20 : decode cX6_isOver 20 = .ok (.aload_n 2, 1) := by decide +kernel
theorem dX6_isOver_21 : decode cX6_isOver 21 = .ok (.getfield 29, 3) := by decide +kernel
theorem dX6_isOver_24 : decode cX6_isOver 24 = .ok (.ifCond .ne 13, 3) := by decide +kernel
theorem dX6_isOver_27 : decode cX6_isOver 27 = .ok (.aload_n 0, 1) := by decide +kernel
theorem dX6_isOver_28 : decode cX6_isOver 28 = .ok (.aload_n 2, 1) := by decide +kernel
theorem dX6_isOver_29 : decode cX6_isOver 29 = .ok (.invokestatic 34, 3) := by decide +kernel
theorem dX6_isOver_32 : decode cX6_isOver 32 = .ok (.ifCond .ne 5, 3) := by decide +kernel
theorem dX6_isOver_35 : decode cX6_isOver 35 = .ok (.iconst 0, 1) := by decide +kernel
theorem dX6_isOver_36 : decode cX6_isOver 36 = .ok (.ireturn, 1) := by decide +kernel
theorem dX6_isOver_37 : decode cX6_isOver 37 = .ok (.iinc 1 1, 3) := by decide +kernel
theorem dX6_isOver_40 : decode cX6_isOver 40 = .ok (.goto (-38), 3) := by decide +kernel
theorem dX6_isOver_43 : decode cX6_isOver 43 = .ok (.iconst 1, 1) := by decide +kernel
theorem dX6_isOver_44 : decode cX6_isOver 44 = .ok (.ireturn, 1) := by decide +kernel
theorem dX6_stuckSet_0 : decode cX6_stuckSet 0 = .ok (.iconst 0, 1) := by decide +kernel
theorem dX6_stuckSet_1 : decode cX6_stuckSet 1 = .ok (.istore_n 1, 1) := by decide +kernel
theorem dX6_stuckSet_2 : decode cX6_stuckSet 2 = .ok (.iconst 0, 1) := by decide +kernel
theorem dX6_stuckSet_3 : decode cX6_stuckSet 3 = .ok (.istore_n 2, 1) := by decide +kernel
theorem dX6_stuckSet_4 : decode cX6_stuckSet 4 = .ok (.iload_n 2, 1) := by decide +kernel
theorem dX6_stuckSet_5 : decode cX6_stuckSet 5 = .ok (.aload_n 0, 1) := by decide +kernel
theorem dX6_stuckSet_6 : decode cX6_stuckSet 6 = .ok (.getfield 19, 3) := by decide +kernel
theorem dX6_stuckSet_9 : decode cX6_stuckSet 9 = .ok (.if_icmp .ge 33, 3) := by decide +kernel
theorem dX6_stuckSet_12 : decode cX6_stuckSet 12 = .ok (.aload_n 0, 1) := by decide +kernel
theorem dX6_stuckSet_13 : decode cX6_stuckSet 13 = .ok (.iload_n 2, 1) := by decide +kernel
theorem dX6_stuckSet_14 : decode cX6_stuckSet 14 = .ok (.invokevirtual 25, 3) := by decide +kernel
theorem dX6_stuckSet_17 : decode cX6_stuckSet 17 = .ok (.astore_n 3, 1) := by decide +kernel
theorem dX6_stuckSet_18 : decode cX6_stuckSet 18 = .ok (.aload_n 3, 1) := by decide +kernel
theorem dX6_stuckSet_19 : decode cX6_stuckSet 19 = .ok (.ifnull 17, 3) := by decide +kernel
theorem dX6_stuckSet_22 : decode cX6_stuckSet 22 = .ok (.aload_n 0, 1) := by decide +kernel
theorem dX6_stuckSet_23 : decode cX6_stuckSet 23 = .ok (.aload_n 3, 1) := by decide +kernel
theorem dX6_stuckSet_24 : decode cX6_stuckSet 24 = .ok (.invokestatic 34, 3) := by decide +kernel
theorem dX6_stuckSet_27 : decode cX6_stuckSet 27 = .ok (.ifCond .eq 9, 3) := by decide +kernel
theorem dX6_stuckSet_30 : decode cX6_stuckSet 30 = .ok (.iload_n 1, 1) := by decide +kernel
theorem dX6_stuckSet_31 : decode cX6_stuckSet 31 = .ok (.iconst 1, 1) := by decide +kernel
theorem dX6_stuckSet_32 : decode cX6_stuckSet 32 = .ok (.iload_n 2, 1) := by decide +kernel
theorem dX6_stuckSet_33 : decode cX6_stuckSet 33 = .ok (.ishl, 1) := by decide +kernel
theorem dX6_stuckSet_34 : decode cX6_stuckSet 34 = .ok (.ior, 1) := by decide +kernel
theorem dX6_stuckSet_35 : decode cX6_stuckSet 35 = .ok (.istore_n 1, 1) := by decide +kernel
theorem dX6_stuckSet_36 : decode cX6_stuckSet 36 = .ok (.iinc 2 1, 3) := by decide +kernel
theorem dX6_stuckSet_39 : decode cX6_stuckSet 39 = .ok (.goto (-35), 3) := by decide +kernel
theorem dX6_stuckSet_42 : decode cX6_stuckSet 42 = .ok (.iload_n 1, 1) := by decide +kernel
theorem dX6_stuckSet_43 : decode cX6_stuckSet 43 = .ok (.ireturn, 1) := by decide +kernel
theorem dX6_waitReason_0 : decode cX6_waitReason 0 = .ok (.aload_n 1, 1) := by decide +kernel
theorem dX6_waitReason_1 : decode cX6_waitReason 1 = .ok (.aload_n 1, 1) := by decide +kernel
theorem dX6_waitReason_2 : decode cX6_waitReason 2 = .ok (.getfield 38, 3) := by decide +kernel
theorem dX6_waitReason_5 : decode cX6_waitReason 5 = .ok (.invokevirtual 41, 3) := by decide +kernel
theorem dX6_waitReason_8 : decode cX6_waitReason 8 = .ok (.istore_n 2, 1) := by decide +kernel
theorem dX6_waitReason_9 : decode cX6_waitReason 9 = .ok (.aload_n 1, 1) := by decide +kernel
theorem dX6_waitReason_10 : decode cX6_waitReason 10 = .ok (.getfield 29, 3) := by decide +kernel
theorem dX6_waitReason_13 : decode cX6_waitReason 13 = .ok (.ifCond .ne 10, 3) := by decide +kernel
theorem dX6_waitReason_16 : decode cX6_waitReason 16 = .ok (.iload_n 2, 1) := by decide +kernel
theorem dX6_waitReason_17 : decode cX6_waitReason 17 = .ok (.invokestatic 45, 3) := by decide +kernel
theorem dX6_waitReason_20 : decode cX6_waitReason 20 = .ok (.ifCond .ne 5, 3) := by decide +kernel
theorem dX6_waitReason_23 : decode cX6_waitReason 23 = .ok (.iconst 0, 1) := by decide +kernel
theorem dX6_waitReason_24 : decode cX6_waitReason 24 = .ok (.ireturn, 1) := by decide +kernel
theorem dX6_waitReason_25 : decode cX6_waitReason 25 = .ok (.aload_n 1, 1) := by decide +kernel
theorem dX6_waitReason_26 : decode cX6_waitReason 26 = .ok (.aload_n 1, 1) := by decide +kernel
theorem dX6_waitReason_27 : decode cX6_waitReason 27 = .ok (.getfield 38, 3) := by decide +kernel
theorem dX6_waitReason_30 : decode cX6_waitReason 30 = .ok (.invokevirtual 49, 3) := by decide +kernel
theorem dX6_waitReason_33 : decode cX6_waitReason 33 = .ok (.istore_n 3, 1) := by decide +kernel
theorem dX6_waitReason_34 : decode cX6_waitReason 34 = .ok (.aload_n 1, 1) := by decide +kernel
theorem dX6_waitReason_35 : decode cX6_waitReason 35 = .ok (.iload_n 2, 1) := by decide +kernel
theorem dX6_waitReason_36 : decode cX6_waitReason 36 = .ok (.iload_n 3, 1) := by decide +kernel
theorem dX6_waitReason_37 : decode cX6_waitReason 37 = .ok (.invokestatic 52, 3) := by decide +kernel
theorem dX6_waitReason_40 : decode cX6_waitReason 40 = .ok (.ifCond .eq 5, 3) := by decide +kernel
theorem dX6_waitReason_43 : decode cX6_waitReason 43 = .ok (.iconst 0, 1) := by decide +kernel
theorem dX6_waitReason_44 : decode cX6_waitReason 44 = .ok (.ireturn, 1) := by decide +kernel
theorem dX6_waitReason_45 : decode cX6_waitReason 45 = .ok (.aload_n 0, 1) := by decide +kernel
theorem dX6_waitReason_46 : decode cX6_waitReason 46 = .ok (.iload_n 3, 1) := by decide +kernel
theorem dX6_waitReason_47 : decode cX6_waitReason 47 = .ok (.invokevirtual 56, 3) := by decide +kernel
theorem dX6_waitReason_50 : decode cX6_waitReason 50 = .ok (.iconst (-1), 1) := by decide +kernel
theorem dX6_waitReason_51 : decode cX6_waitReason 51 = .ok (.if_icmp .ne 7, 3) := by decide +kernel
theorem dX6_waitReason_54 : decode cX6_waitReason 54 = .ok (.iconst 1, 1) := by decide +kernel
theorem dX6_waitReason_55 : decode cX6_waitReason 55 = .ok (.goto 4, 3) := by decide +kernel
theorem dX6_waitReason_58 : decode cX6_waitReason 58 = .ok (.iconst 0, 1) := by decide +kernel
theorem dX6_waitReason_59 : decode cX6_waitReason 59 = .ok (.istore 4, 2) := by decide +kernel
theorem dX6_waitReason_61 : decode cX6_waitReason 61 = .ok (.iload_n 2, 1) := by decide +kernel
theorem dX6_waitReason_62 : decode cX6_waitReason 62 = .ok (.bipush 8, 2) := by decide +kernel
theorem dX6_waitReason_64 : decode cX6_waitReason 64 = .ok (.if_icmp .ne 14, 3) := by decide +kernel
theorem dX6_waitReason_67 : decode cX6_waitReason 67 = .ok (.iload 4, 2) := by decide +kernel
theorem dX6_waitReason_69 : decode cX6_waitReason 69 = .ok (.ifCond .eq 7, 3) := by decide +kernel
theorem dX6_waitReason_72 : decode cX6_waitReason 72 = .ok (.iconst 0, 1) := by decide +kernel
theorem dX6_waitReason_73 : decode cX6_waitReason 73 = .ok (.goto 4, 3) := by decide +kernel
theorem dX6_waitReason_76 : decode cX6_waitReason 76 = .ok (.iconst 1, 1) := by decide +kernel
theorem dX6_waitReason_77 : decode cX6_waitReason 77 = .ok (.ireturn, 1) := by decide +kernel
theorem dX6_waitReason_78 : decode cX6_waitReason 78 = .ok (.iload 4, 2) := by decide +kernel
theorem dX6_waitReason_80 : decode cX6_waitReason 80 = .ok (.ifCond .eq 7, 3) := by decide +kernel
theorem dX6_waitReason_83 : decode cX6_waitReason 83 = .ok (.iconst 2, 1) := by decide +kernel
theorem dX6_waitReason_84 : decode cX6_waitReason 84 = .ok (.goto 4, 3) := by decide +kernel
theorem dX6_waitReason_87 : decode cX6_waitReason 87 = .ok (.iconst 0, 1) := by decide +kernel
theorem dX6_waitReason_88 : decode cX6_waitReason 88 = .ok (.ireturn, 1) := by decide +kernel
theorem dX6_makeTurn_0 : decode cX6_makeTurn 0 = .ok (.aload_n 0, 1) := by decide +kernel
theorem dX6_makeTurn_1 : decode cX6_makeTurn 1 = .ok (.invokevirtual 59, 3) := by decide +kernel
theorem dX6_makeTurn_4 : decode cX6_makeTurn 4 = .ok (.istore_n 1, 1) := by decide +kernel
theorem dX6_makeTurn_5 : decode cX6_makeTurn 5 = .ok (.aload_n 0, 1) := by decide +kernel
theorem dX6_makeTurn_6 : decode cX6_makeTurn 6 = .ok (.iload_n 1, 1) := by decide +kernel
theorem dX6_makeTurn_7 : decode cX6_makeTurn 7 = .ok (.invokevirtual 25, 3) := by decide +kernel
theorem dX6_makeTurn_10 : decode cX6_makeTurn 10 = .ok (.astore_n 2, 1) := by decide +kernel
theorem dX6_makeTurn_11 : decode cX6_makeTurn 11 = .ok (.aload_n 2, 1) := by decide +kernel
theorem dX6_makeTurn_12 : decode cX6_makeTurn 12 = .ok (.ifnonnull 4, 3) := by decide +kernel
theorem dX6_makeTurn_15 : decode cX6_makeTurn 15 = .ok (.return_, 1) := by decide +kernel
theorem dX6_makeTurn_16 : decode cX6_makeTurn 16 = .ok (.aload_n 2, 1) := by decide +kernel
theorem dX6_makeTurn_17 : decode cX6_makeTurn 17 = .ok (.dup, 1) := by decide +kernel
theorem dX6_makeTurn_18 : decode cX6_makeTurn 18 = .ok (.getfield 63, 3) := by decide +kernel
theorem dX6_makeTurn_21 : decode cX6_makeTurn 21 = .ok (.iconst 1, 1) := by decide +kernel
theorem dX6_makeTurn_22 : decode cX6_makeTurn 22 = .ok (.iadd, 1) := by decide +kernel
theorem dX6_makeTurn_23 : decode cX6_makeTurn 23 = .ok (.putfield 63, 3) := by decide +kernel
theorem dX6_makeTurn_26 : decode cX6_makeTurn 26 = .ok (.iconst 1, 1) := by decide +kernel
theorem dX6_makeTurn_27 : decode cX6_makeTurn 27 = .ok (.istore_n 3, 1) := by decide +kernel
theorem dX6_makeTurn_28 : decode cX6_makeTurn 28 = .ok (.iconst 0, 1) := by decide +kernel
theorem dX6_makeTurn_29 : decode cX6_makeTurn 29 = .ok (.istore 4, 2) := by decide +kernel
theorem dX6_makeTurn_31 : decode cX6_makeTurn 31 = .ok (.iload_n 3, 1) := by decide +kernel
theorem dX6_makeTurn_32 : decode cX6_makeTurn 32 = .ok (.ifCond .eq 40, 3) := by decide +kernel
theorem dX6_makeTurn_35 : decode cX6_makeTurn 35 = .ok (.iload 4, 2) := by decide +kernel
theorem dX6_makeTurn_37 : decode cX6_makeTurn 37 = .ok (.aload_n 2, 1) := by decide +kernel
theorem dX6_makeTurn_38 : decode cX6_makeTurn 38 = .ok (.getfield 66, 3) := by decide +kernel
theorem dX6_makeTurn_41 : decode cX6_makeTurn 41 = .ok (.if_icmp .ge 31, 3) := by decide +kernel
theorem dX6_makeTurn_44 : decode cX6_makeTurn 44 = .ok (.aload_n 0, 1) := by decide +kernel
theorem dX6_makeTurn_45 : decode cX6_makeTurn 45 = .ok (.iload_n 1, 1) := by decide +kernel
theorem dX6_makeTurn_46 : decode cX6_makeTurn 46 = .ok (.aload_n 2, 1) := by decide +kernel
theorem dX6_makeTurn_47 : decode cX6_makeTurn 47 = .ok (.invokestatic 69, 3) := by decide +kernel
theorem dX6_makeTurn_50 : decode cX6_makeTurn 50 = .ok (.ifCond .eq 14, 3) := by decide +kernel
theorem dX6_makeTurn_53 : decode cX6_makeTurn 53 = .ok (.aload_n 2, 1) := by decide +kernel
theorem dX6_makeTurn_54 : decode cX6_makeTurn 54 = .ok (.getfield 29, 3) := by decide +kernel
theorem dX6_makeTurn_57 : decode cX6_makeTurn 57 = .ok (.ifCond .ne 7, 3) := by decide +kernel
theorem dX6_makeTurn_60 : decode cX6_makeTurn 60 = .ok (.iconst 1, 1) := by decide +kernel
theorem dX6_makeTurn_61 : decode cX6_makeTurn 61 = .ok (.goto 4, 3) := by decide +kernel
theorem dX6_makeTurn_64 : decode cX6_makeTurn 64 = .ok (.iconst 0, 1) := by decide +kernel
theorem dX6_makeTurn_65 : decode cX6_makeTurn 65 = .ok (.istore_n 3, 1) := by decide +kernel
theorem dX6_makeTurn_66 : decode cX6_makeTurn 66 = .ok (.iinc 4 1, 3) := by decide +kernel
theorem dX6_makeTurn_69 : decode cX6_makeTurn 69 = .ok (.goto (-38), 3) := by decide +kernel
theorem dX6_makeTurn_72 : decode cX6_makeTurn 72 = .ok (.aload_n 0, 1) := by decide +kernel
theorem dX6_makeTurn_73 : decode cX6_makeTurn 73 = .ok (.iload_n 1, 1) := by decide +kernel
theorem dX6_makeTurn_74 : decode cX6_makeTurn 74 = .ok (.putfield 73, 3) := by decide +kernel
theorem dX6_makeTurn_77 : decode cX6_makeTurn 77 = .ok (.aload_n 0, 1) := by decide +kernel
theorem dX6_makeTurn_78 : decode cX6_makeTurn 78 = .ok (.dup, 1) := by decide +kernel
theorem dX6_makeTurn_79 : decode cX6_makeTurn 79 = .ok (.getfield 76, 3) := by decide +kernel
theorem dX6_makeTurn_82 : decode cX6_makeTurn 82 = .ok (.iconst 1, 1) := by decide +kernel
theorem dX6_makeTurn_83 : decode cX6_makeTurn 83 = .ok (.iadd, 1) := by decide +kernel
theorem dX6_makeTurn_84 : decode cX6_makeTurn 84 = .ok (.putfield 76, 3) := by decide +kernel
theorem dX6_makeTurn_87 : decode cX6_makeTurn 87 = .ok (.return_, 1) := by decide +kernel
theorem dX6_makeStep_0 : decode cX6_makeStep 0 = .ok (.aload_n 2, 1) := by decide +kernel
theorem dX6_makeStep_1 : decode cX6_makeStep 1 = .ok (.aload_n 2, 1) := by decide +kernel
theorem dX6_makeStep_2 : decode cX6_makeStep 2 = .ok (.getfield 38, 3) := by decide +kernel
theorem dX6_makeStep_5 : decode cX6_makeStep 5 = .ok (.invokevirtual 41, 3) := by decide +kernel
theorem dX6_makeStep_8 : decode cX6_makeStep 8 = .ok (.iconst (-1), 1) := by decide +kernel
theorem dX6_makeStep_9 : decode cX6_makeStep 9 = .ok (.if_icmp .ne 7, 3) := by decide +kernel
theorem dX6_makeStep_12 : decode cX6_makeStep 12 = .ok (.iconst (-1), 1) := by decide +kernel
theorem dX6_makeStep_13 : decode cX6_makeStep 13 = .ok (.goto 7, 3) := by decide +kernel
theorem dX6_makeStep_16 : decode cX6_makeStep 16 = .ok (.aload_n 2, 1) := by decide +kernel
theorem dX6_makeStep_17 : decode cX6_makeStep 17 = .ok (.getfield 38, 3) := by decide +kernel
theorem dX6_makeStep_20 : decode cX6_makeStep 20 = .ok (.istore_n 3, 1) := by decide +kernel
theorem dX6_makeStep_21 : decode cX6_makeStep 21 = .ok (.aload_n 0, 1) := by decide +kernel
theorem dX6_makeStep_22 : decode cX6_makeStep 22 = .ok (.aload_n 2, 1) := by decide +kernel
theorem dX6_makeStep_23 : decode cX6_makeStep 23 = .ok (.invokestatic 34, 3) := by decide +kernel
theorem dX6_makeStep_26 : decode cX6_makeStep 26 = .ok (.ifCond .eq 29, 3) := by decide +kernel
theorem dX6_makeStep_29 : decode cX6_makeStep 29 = .ok (.aload_n 2, 1) := by decide +kernel
theorem dX6_makeStep_30 : decode cX6_makeStep 30 = .ok (.dup, 1) := by decide +kernel
theorem dX6_makeStep_31 : decode cX6_makeStep 31 = .ok (.getfield 77, 3) := by decide +kernel
theorem dX6_makeStep_34 : decode cX6_makeStep 34 = .ok (.iconst 1, 1) := by decide +kernel
theorem dX6_makeStep_35 : decode cX6_makeStep 35 = .ok (.iadd, 1) := by decide +kernel
theorem dX6_makeStep_36 : decode cX6_makeStep 36 = .ok (.putfield 77, 3) := by decide +kernel
theorem dX6_makeStep_39 : decode cX6_makeStep 39 = .ok (.aload_n 0, 1) := by decide +kernel
theorem dX6_makeStep_40 : decode cX6_makeStep 40 = .ok (.getfield 80, 3) := by decide +kernel
theorem dX6_makeStep_43 : decode cX6_makeStep 43 = .ok (.aload_n 0, 1) := by decide +kernel
theorem dX6_makeStep_44 : decode cX6_makeStep 44 = .ok (.getfield 76, 3) := by decide +kernel
theorem dX6_makeStep_47 : decode cX6_makeStep 47 = .ok (.iload_n 1, 1) := by decide +kernel
theorem dX6_makeStep_48 : decode cX6_makeStep 48 = .ok (.iload_n 3, 1) := by decide +kernel
theorem dX6_makeStep_49 : decode cX6_makeStep 49 = .ok (.iconst 1, 1) := by decide +kernel
theorem dX6_makeStep_50 : decode cX6_makeStep 50 = .ok (.invokevirtual 84, 3) := by decide +kernel
theorem dX6_makeStep_53 : decode cX6_makeStep 53 = .ok (.iconst 0, 1) := by decide +kernel
theorem dX6_makeStep_54 : decode cX6_makeStep 54 = .ok (.ireturn, 1) := by decide +kernel
theorem dX6_makeStep_55 : decode cX6_makeStep 55 = .ok (.aload_n 2, 1) := by decide +kernel
theorem dX6_makeStep_56 : decode cX6_makeStep 56 = .ok (.dup, 1) := by decide +kernel
theorem dX6_makeStep_57 : decode cX6_makeStep 57 = .ok (.getfield 90, 3) := by decide +kernel
theorem dX6_makeStep_60 : decode cX6_makeStep 60 = .ok (.iconst 1, 1) := by decide +kernel
theorem dX6_makeStep_61 : decode cX6_makeStep 61 = .ok (.iadd, 1) := by decide +kernel
theorem dX6_makeStep_62 : decode cX6_makeStep 62 = .ok (.putfield 90, 3) := by decide +kernel
theorem dX6_makeStep_65 : decode cX6_makeStep 65 = .ok (.aload_n 0, 1) := by decide +kernel
theorem dX6_makeStep_66 : decode cX6_makeStep 66 = .ok (.aload_n 2, 1) := by decide +kernel
theorem dX6_makeStep_67 : decode cX6_makeStep 67 = .ok (.invokestatic 93, 3) := by decide +kernel
theorem dX6_makeStep_70 : decode cX6_makeStep 70 = .ok (.istore 4, 2) := by decide +kernel
theorem dX6_makeStep_72 : decode cX6_makeStep 72 = .ok (.iload 4, 2) := by decide +kernel
theorem dX6_makeStep_74 : decode cX6_makeStep 74 = .ok (.ifCond .eq 35, 3) := by decide +kernel
theorem dX6_makeStep_77 : decode cX6_makeStep 77 = .ok (.aload_n 2, 1) := by decide +kernel
theorem dX6_makeStep_78 : decode cX6_makeStep 78 = .ok (.iconst 2, 1) := by decide +kernel
theorem dX6_makeStep_79 : decode cX6_makeStep 79 = .ok (.putfield 29, 3) := by decide +kernel
theorem dX6_makeStep_82 : decode cX6_makeStep 82 = .ok (.aload_n 2, 1) := by decide +kernel
theorem dX6_makeStep_83 : decode cX6_makeStep 83 = .ok (.iload 4, 2) := by decide +kernel
theorem dX6_makeStep_85 : decode cX6_makeStep 85 = .ok (.putfield 96, 3) := by decide +kernel
theorem dX6_makeStep_88 : decode cX6_makeStep 88 = .ok (.aload_n 0, 1) := by decide +kernel
theorem dX6_makeStep_89 : decode cX6_makeStep 89 = .ok (.getfield 80, 3) := by decide +kernel
theorem dX6_makeStep_92 : decode cX6_makeStep 92 = .ok (.aload_n 0, 1) := by decide +kernel
theorem dX6_makeStep_93 : decode cX6_makeStep 93 = .ok (.getfield 76, 3) := by decide +kernel
theorem dX6_makeStep_96 : decode cX6_makeStep 96 = .ok (.iload_n 1, 1) := by decide +kernel
theorem dX6_makeStep_97 : decode cX6_makeStep 97 = .ok (.iload_n 3, 1) := by decide +kernel
theorem dX6_makeStep_98 : decode cX6_makeStep 98 = .ok (.bipush 10, 2) := by decide +kernel
theorem dX6_makeStep_100 : decode cX6_makeStep 100 = .ok (.iload 4, 2) := by decide +kernel
theorem dX6_makeStep_102 : decode cX6_makeStep 102 = .ok (.iadd, 1) := by decide +kernel
theorem dX6_makeStep_103 : decode cX6_makeStep 103 = .ok (.invokevirtual 84, 3) := by decide +kernel
theorem dX6_makeStep_106 : decode cX6_makeStep 106 = .ok (.goto 23, 3) := by decide +kernel
theorem dX6_makeStep_109 : decode cX6_makeStep 109 = .ok (.aload_n 0, 1) := by decide +kernel
theorem dX6_makeStep_110 : decode cX6_makeStep 110 = .ok (.iload_n 1, 1) := by decide +kernel
theorem dX6_makeStep_111 : decode cX6_makeStep 111 = .ok (.aload_n 2, 1) := by decide +kernel
theorem dX6_makeStep_112 : decode cX6_makeStep 112 = .ok (.invokestatic 99, 3) := by decide +kernel
theorem dX6_makeStep_115 : decode cX6_makeStep 115 = .ok (.aload_n 0, 1) := by decide +kernel
theorem dX6_makeStep_116 : decode cX6_makeStep 116 = .ok (.getfield 80, 3) := by decide +kernel
theorem dX6_makeStep_119 : decode cX6_makeStep 119 = .ok (.aload_n 0, 1) := by decide +kernel
theorem dX6_makeStep_120 : decode cX6_makeStep 120 = .ok (.getfield 76, 3) := by decide +kernel
theorem dX6_makeStep_123 : decode cX6_makeStep 123 = .ok (.iload_n 1, 1) := by decide +kernel
theorem dX6_makeStep_124 : decode cX6_makeStep 124 = .ok (.iload_n 3, 1) := by decide +kernel
theorem dX6_makeStep_125 : decode cX6_makeStep 125 = .ok (.iconst 0, 1) := by decide +kernel
theorem dX6_makeStep_126 : decode cX6_makeStep 126 = .ok (.invokevirtual 84, 3) := by decide +kernel
theorem dX6_makeStep_129 : decode cX6_makeStep 129 = .ok (.iconst 1, 1) := by decide +kernel
theorem dX6_makeStep_130 : decode cX6_makeStep 130 = .ok (.ireturn, 1) := by decide +kernel
theorem dX6_isMove_0 : decode cX6_isMove 0 = .ok (.iload_n 0, 1) := by decide +kernel
theorem dX6_isMove_1 : decode cX6_isMove 1 = .ok (.bipush 8, 2) := by decide +kernel
theorem dX6_isMove_3 : decode cX6_isMove 3 = .ok (.if_icmp .eq 15, 3) := by decide +kernel
theorem dX6_isMove_6 : decode cX6_isMove 6 = .ok (.iload_n 0, 1) := by decide +kernel
theorem dX6_isMove_7 : decode cX6_isMove 7 = .ok (.bipush 9, 2) := by decide +kernel
theorem dX6_isMove_9 : decode cX6_isMove 9 = .ok (.if_icmp .eq 9, 3) := by decide +kernel
theorem dX6_isMove_12 : decode cX6_isMove 12 = .ok (.iload_n 0, 1) := by decide +kernel
theorem dX6_isMove_13 : decode cX6_isMove 13 = .ok (.bipush 10, 2) := by decide +kernel
theorem dX6_isMove_15 : decode cX6_isMove 15 = .ok (.if_icmp .ne 7, 3) := by decide +kernel
theorem dX6_isMove_18 : decode cX6_isMove 18 = .ok (.iconst 1, 1) := by decide +kernel
theorem dX6_isMove_19 : decode cX6_isMove 19 = .ok (.goto 4, 3) := by decide +kernel
theorem dX6_isMove_22 : decode cX6_isMove 22 = .ok (.iconst 0, 1) := by decide +kernel
theorem dX6_isMove_23 : decode cX6_isMove 23 = .ok (.ireturn, 1) := by decide +kernel
theorem dX6_moveFault_0 : decode cX6_moveFault 0 = .ok (.iload_n 1, 1) := by decide +kernel
theorem dX6_moveFault_1 : decode cX6_moveFault 1 = .ok (.bipush 9, 2) := by decide +kernel
theorem dX6_moveFault_3 : decode cX6_moveFault 3 = .ok (.if_icmp .eq 13, 3) := by decide +kernel
theorem dX6_moveFault_6 : decode cX6_moveFault 6 = .ok (.aload_n 0, 1) := by decide +kernel
theorem dX6_moveFault_7 : decode cX6_moveFault 7 = .ok (.getfield 103, 3) := by decide +kernel
theorem dX6_moveFault_10 : decode cX6_moveFault 10 = .ok (.iconst (-1), 1) := by decide +kernel
theorem dX6_moveFault_11 : decode cX6_moveFault 11 = .ok (.if_icmp .ne 5, 3) := by decide +kernel
theorem dX6_moveFault_14 : decode cX6_moveFault 14 = .ok (.iconst 1, 1) := by decide +kernel
theorem dX6_moveFault_15 : decode cX6_moveFault 15 = .ok (.ireturn, 1) := by decide +kernel
theorem dX6_moveFault_16 : decode cX6_moveFault 16 = .ok (.aload_n 0, 1) := by decide +kernel
theorem dX6_moveFault_17 : decode cX6_moveFault 17 = .ok (.iload_n 2, 1) := by decide +kernel
theorem dX6_moveFault_18 : decode cX6_moveFault 18 = .ok (.invokevirtual 106, 3) := by decide +kernel
theorem dX6_moveFault_21 : decode cX6_moveFault 21 = .ok (.ifCond .ne 5, 3) := by decide +kernel
theorem dX6_moveFault_24 : decode cX6_moveFault 24 = .ok (.iconst 2, 1) := by decide +kernel
theorem dX6_moveFault_25 : decode cX6_moveFault 25 = .ok (.ireturn, 1) := by decide +kernel
theorem dX6_moveFault_26 : decode cX6_moveFault 26 = .ok (.iload_n 1, 1) := by decide +kernel
theorem dX6_moveFault_27 : decode cX6_moveFault 27 = .ok (.bipush 9, 2) := by decide +kernel
theorem dX6_moveFault_29 : decode cX6_moveFault 29 = .ok (.if_icmp .ne 15, 3) := by decide +kernel
theorem dX6_moveFault_32 : decode cX6_moveFault 32 = .ok (.aload_n 0, 1) := by decide +kernel
theorem dX6_moveFault_33 : decode cX6_moveFault 33 = .ok (.getfield 103, 3) := by decide +kernel
theorem dX6_moveFault_36 : decode cX6_moveFault 36 = .ok (.iconst (-1), 1) := by decide +kernel
theorem dX6_moveFault_37 : decode cX6_moveFault 37 = .ok (.if_icmp .eq 7, 3) := by decide +kernel
theorem dX6_moveFault_40 : decode cX6_moveFault 40 = .ok (.iconst 3, 1) := by decide +kernel
theorem dX6_moveFault_41 : decode cX6_moveFault 41 = .ok (.goto 4, 3) := by decide +kernel
theorem dX6_moveFault_44 : decode cX6_moveFault 44 = .ok (.iconst 0, 1) := by decide +kernel
theorem dX6_moveFault_45 : decode cX6_moveFault 45 = .ok (.ireturn, 1) := by decide +kernel
theorem dX6_faultOf_0 : decode cX6_faultOf 0 = .ok (.aload_n 1, 1) := by decide +kernel
theorem dX6_faultOf_1 : decode cX6_faultOf 1 = .ok (.aload_n 1, 1) := by decide +kernel
theorem dX6_faultOf_2 : decode cX6_faultOf 2 = .ok (.getfield 38, 3) := by decide +kernel
theorem dX6_faultOf_5 : decode cX6_faultOf 5 = .ok (.invokevirtual 41, 3) := by decide +kernel
theorem dX6_faultOf_8 : decode cX6_faultOf 8 = .ok (.istore_n 2, 1) := by decide +kernel
theorem dX6_faultOf_9 : decode cX6_faultOf 9 = .ok (.iload_n 2, 1) := by decide +kernel
theorem dX6_faultOf_10 : decode cX6_faultOf 10 = .ok (.iconst (-1), 1) := by decide +kernel
theorem dX6_faultOf_11 : decode cX6_faultOf 11 = .ok (.if_icmp .eq 15, 3) := by decide +kernel
theorem dX6_faultOf_14 : decode cX6_faultOf 14 = .ok (.iload_n 2, 1) := by decide +kernel
theorem dX6_faultOf_15 : decode cX6_faultOf 15 = .ok (.bipush 11, 2) := by decide +kernel
theorem dX6_faultOf_17 : decode cX6_faultOf 17 = .ok (.if_icmp .eq 9, 3) := by decide +kernel
theorem dX6_faultOf_20 : decode cX6_faultOf 20 = .ok (.iload_n 2, 1) := by decide +kernel
theorem dX6_faultOf_21 : decode cX6_faultOf 21 = .ok (.bipush 13, 2) := by decide +kernel
theorem dX6_faultOf_23 : decode cX6_faultOf 23 = .ok (.if_icmp .ne 5, 3) := by decide +kernel
theorem dX6_faultOf_26 : decode cX6_faultOf 26 = .ok (.iconst 0, 1) := by decide +kernel
theorem dX6_faultOf_27 : decode cX6_faultOf 27 = .ok (.ireturn, 1) := by decide +kernel
theorem dX6_faultOf_28 : decode cX6_faultOf 28 = .ok (.iload_n 2, 1) := by decide +kernel
theorem dX6_faultOf_29 : decode cX6_faultOf 29 = .ok (.invokestatic 45, 3) := by decide +kernel
theorem dX6_faultOf_32 : decode cX6_faultOf 32 = .ok (.ifCond .eq 17, 3) := by decide +kernel
theorem dX6_faultOf_35 : decode cX6_faultOf 35 = .ok (.aload_n 1, 1) := by decide +kernel
theorem dX6_faultOf_36 : decode cX6_faultOf 36 = .ok (.iload_n 2, 1) := by decide +kernel
theorem dX6_faultOf_37 : decode cX6_faultOf 37 = .ok (.aload_n 1, 1) := by decide +kernel
theorem dX6_faultOf_38 : decode cX6_faultOf 38 = .ok (.aload_n 1, 1) := by decide +kernel
theorem dX6_faultOf_39 : decode cX6_faultOf 39 = .ok (.getfield 38, 3) := by decide +kernel
theorem dX6_faultOf_42 : decode cX6_faultOf 42 = .ok (.invokevirtual 49, 3) := by decide +kernel
theorem dX6_faultOf_45 : decode cX6_faultOf 45 = .ok (.invokestatic 52, 3) := by decide +kernel
theorem dX6_faultOf_48 : decode cX6_faultOf 48 = .ok (.ireturn, 1) := by decide +kernel
theorem dX6_faultOf_49 : decode cX6_faultOf 49 = .ok (.aload_n 0, 1) := by decide +kernel
theorem dX6_faultOf_50 : decode cX6_faultOf 50 = .ok (.aload_n 1, 1) := by decide +kernel
theorem dX6_faultOf_51 : decode cX6_faultOf 51 = .ok (.getfield 103, 3) := by decide +kernel
theorem dX6_faultOf_54 : decode cX6_faultOf 54 = .ok (.invokevirtual 109, 3) := by decide +kernel
theorem dX6_faultOf_57 : decode cX6_faultOf 57 = .ok (.astore_n 3, 1) := by decide +kernel
theorem dX6_faultOf_58 : decode cX6_faultOf 58 = .ok (.aload_n 3, 1) := by decide +kernel
theorem dX6_faultOf_59 : decode cX6_faultOf 59 = .ok (.ifnonnull 5, 3) := by decide +kernel
theorem dX6_faultOf_62 : decode cX6_faultOf 62 = .ok (.iconst 1, 1) := by decide +kernel
theorem dX6_faultOf_63 : decode cX6_faultOf 63 = .ok (.ireturn, 1) := by decide +kernel
theorem dX6_faultOf_64 : decode cX6_faultOf 64 = .ok (.aload_n 3, 1) := by decide +kernel
theorem dX6_faultOf_65 : decode cX6_faultOf 65 = .ok (.getfield 113, 3) := by decide +kernel
theorem dX6_faultOf_68 : decode cX6_faultOf 68 = .ok (.iload_n 2, 1) := by decide +kernel
theorem dX6_faultOf_69 : decode cX6_faultOf 69 = .ok (.invokestatic 118, 3) := by decide +kernel
theorem dX6_faultOf_72 : decode cX6_faultOf 72 = .ok (.if_icmp .ge 5, 3) := by decide +kernel
theorem dX6_faultOf_75 : decode cX6_faultOf 75 = .ok (.iconst 4, 1) := by decide +kernel
theorem dX6_faultOf_76 : decode cX6_faultOf 76 = .ok (.ireturn, 1) := by decide +kernel
theorem dX6_faultOf_77 : decode cX6_faultOf 77 = .ok (.iload_n 2, 1) := by decide +kernel
theorem dX6_faultOf_78 : decode cX6_faultOf 78 = .ok (.ifCond .eq 8, 3) := by decide +kernel
theorem dX6_faultOf_81 : decode cX6_faultOf 81 = .ok (.iload_n 2, 1) := by decide +kernel
theorem dX6_faultOf_82 : decode cX6_faultOf 82 = .ok (.iconst 2, 1) := by decide +kernel
theorem dX6_faultOf_83 : decode cX6_faultOf 83 = .ok (.if_icmp .ne 12, 3) := by decide +kernel
theorem dX6_faultOf_86 : decode cX6_faultOf 86 = .ok (.aload_n 3, 1) := by decide +kernel
theorem dX6_faultOf_87 : decode cX6_faultOf 87 = .ok (.invokevirtual 121, 3) := by decide +kernel
theorem dX6_faultOf_90 : decode cX6_faultOf 90 = .ok (.ifCond .eq 5, 3) := by decide +kernel
theorem dX6_faultOf_93 : decode cX6_faultOf 93 = .ok (.iconst 5, 1) := by decide +kernel
theorem dX6_faultOf_94 : decode cX6_faultOf 94 = .ok (.ireturn, 1) := by decide +kernel
theorem dX6_faultOf_95 : decode cX6_faultOf 95 = .ok (.iload_n 2, 1) := by decide +kernel
theorem dX6_faultOf_96 : decode cX6_faultOf 96 = .ok (.iconst 4, 1) := by decide +kernel
theorem dX6_faultOf_97 : decode cX6_faultOf 97 = .ok (.if_icmp .eq 14, 3) := by decide +kernel
theorem dX6_faultOf_100 : decode cX6_faultOf 100 = .ok (.iload_n 2, 1) := by decide +kernel
theorem dX6_faultOf_101 : decode cX6_faultOf 101 = .ok (.iconst 5, 1) := by decide +kernel
theorem dX6_faultOf_102 : decode cX6_faultOf 102 = .ok (.if_icmp .eq 9, 3) := by decide +kernel
theorem dX6_faultOf_105 : decode cX6_faultOf 105 = .ok (.iload_n 2, 1) := by decide +kernel
theorem dX6_faultOf_106 : decode cX6_faultOf 106 = .ok (.bipush 6, 2) := by decide +kernel
theorem dX6_faultOf_108 : decode cX6_faultOf 108 = .ok (.if_icmp .ne 46, 3) := by decide +kernel
theorem dX6_faultOf_111 : decode cX6_faultOf 111 = .ok (.iload_n 2, 1) := by decide +kernel
theorem dX6_faultOf_112 : decode cX6_faultOf 112 = .ok (.aload_n 3, 1) := by decide +kernel
theorem dX6_faultOf_113 : decode cX6_faultOf 113 = .ok (.iconst 1, 1) := by decide +kernel
theorem dX6_faultOf_114 : decode cX6_faultOf 114 = .ok (.invokevirtual 125, 3) := by decide +kernel
theorem dX6_faultOf_117 : decode cX6_faultOf 117 = .ok (.i2l, 1) := by decide +kernel
theorem dX6_faultOf_118 : decode cX6_faultOf 118 = .ok (.aload_n 3, 1) := by decide +kernel
theorem dX6_faultOf_119 : decode cX6_faultOf 119 = .ok (.iconst 0, 1) := by decide +kernel
theorem dX6_faultOf_120 : decode cX6_faultOf 120 = .ok (.invokevirtual 125, 3) := by decide +kernel
theorem dX6_faultOf_123 : decode cX6_faultOf 123 = .ok (.i2l, 1) := by decide +kernel
theorem dX6_faultOf_124 : decode cX6_faultOf 124 = .ok (.invokestatic 128, 3) := by decide +kernel
theorem dX6_faultOf_127 : decode cX6_faultOf 127 = .ok (.lstore 4, 2) := by decide +kernel
theorem dX6_faultOf_129 : decode cX6_faultOf 129 = .ok (.lload 4, 2) := by decide +kernel
theorem dX6_faultOf_131 : decode cX6_faultOf 131 = .ok (.ldc2_w 132, 3) := by decide +kernel
theorem dX6_faultOf_134 : decode cX6_faultOf 134 = .ok (.lcmp, 1) := by decide +kernel
theorem dX6_faultOf_135 : decode cX6_faultOf 135 = .ok (.ifCond .lt 12, 3) := by decide +kernel
theorem dX6_faultOf_138 : decode cX6_faultOf 138 = .ok (.lload 4, 2) := by decide +kernel
theorem dX6_faultOf_140 : decode cX6_faultOf 140 = .ok (.ldc2_w 134, 3) := by decide +kernel
theorem dX6_faultOf_143 : decode cX6_faultOf 143 = .ok (.lcmp, 1) := by decide +kernel
theorem dX6_faultOf_144 : decode cX6_faultOf 144 = .ok (.ifCond .le 8, 3) := by decide +kernel
theorem dX6_faultOf_147 : decode cX6_faultOf 147 = .ok (.bipush 6, 2) := by decide +kernel
theorem dX6_faultOf_149 : decode cX6_faultOf 149 = .ok (.goto 4, 3) := by decide +kernel
theorem dX6_faultOf_152 : decode cX6_faultOf 152 = .ok (.iconst 0, 1) := by decide +kernel
theorem dX6_faultOf_153 : decode cX6_faultOf 153 = .ok (.ireturn, 1) := by decide +kernel
theorem dX6_faultOf_154 : decode cX6_faultOf 154 = .ok (.iconst 0, 1) := by decide +kernel
theorem dX6_faultOf_155 : decode cX6_faultOf 155 = .ok (.ireturn, 1) := by decide +kernel
theorem dX6_numbersNeeded_0 : decode cX6_numbersNeeded 0 = .ok (.iload_n 0, 1) := by decide +kernel
theorem dX6_numbersNeeded_1 : decode cX6_numbersNeeded 1 = .ok (.tableswitch 67 1 12 #[63, 63, 65, 65, 65, 65, 63, 67, 67, 67, 67, 63], 63) := by decide +kernel
theorem dX6_numbersNeeded_64 : decode cX6_numbersNeeded 64 = .ok (.iconst 1, 1) := by decide +kernel
theorem dX6_numbersNeeded_65 : decode cX6_numbersNeeded 65 = .ok (.ireturn, 1) := by decide +kernel
theorem dX6_numbersNeeded_66 : decode cX6_numbersNeeded 66 = .ok (.iconst 2, 1) := by decide +kernel
theorem dX6_numbersNeeded_67 : decode cX6_numbersNeeded 67 = .ok (.ireturn, 1) := by decide +kernel
theorem dX6_numbersNeeded_68 : decode cX6_numbersNeeded 68 = .ok (.iconst 0, 1) := by decide +kernel
theorem dX6_numbersNeeded_69 : decode cX6_numbersNeeded 69 = .ok (.ireturn, 1) := by decide +kernel
theorem dX6_combined_0 : decode cX6_combined 0 = .ok (.iload_n 0, 1) := by decide +kernel
theorem dX6_combined_1 : decode cX6_combined 1 = .ok (.iconst 4, 1) := by decide +kernel
theorem dX6_combined_2 : decode cX6_combined 2 = .ok (.if_icmp .ne 7, 3) := by decide +kernel
theorem dX6_combined_5 : decode cX6_combined 5 = .ok (.lload_n 1, 1) := by decide +kernel
theorem dX6_combined_6 : decode cX6_combined 6 = .ok (.lload_n 3, 1) := by decide +kernel
theorem dX6_combined_7 : decode cX6_combined 7 = .ok (.ladd, 1) := by decide +kernel
theorem dX6_combined_8 : decode cX6_combined 8 = .ok (.lreturn, 1) := by decide +kernel
theorem dX6_combined_9 : decode cX6_combined 9 = .ok (.iload_n 0, 1) := by decide +kernel
theorem dX6_combined_10 : decode cX6_combined 10 = .ok (.iconst 5, 1) := by decide +kernel
theorem dX6_combined_11 : decode cX6_combined 11 = .ok (.if_icmp .ne 9, 3) := by decide +kernel
theorem dX6_combined_14 : decode cX6_combined 14 = .ok (.lload_n 1, 1) := by decide +kernel
theorem dX6_combined_15 : decode cX6_combined 15 = .ok (.lload_n 3, 1) := by decide +kernel
theorem dX6_combined_16 : decode cX6_combined 16 = .ok (.lsub, 1) := by decide +kernel
theorem dX6_combined_17 : decode cX6_combined 17 = .ok (.goto 6, 3) := by decide +kernel
theorem dX6_combined_20 : decode cX6_combined 20 = .ok (.lload_n 1, 1) := by decide +kernel
theorem dX6_combined_21 : decode cX6_combined 21 = .ok (.lload_n 3, 1) := by decide +kernel
theorem dX6_combined_22 : decode cX6_combined 22 = .ok (.lmul, 1) := by decide +kernel
theorem dX6_combined_23 : decode cX6_combined 23 = .ok (.lreturn, 1) := by decide +kernel
theorem dX6_carryOut_0 : decode cX6_carryOut 0 = .ok (.aload_n 2, 1) := by decide +kernel
theorem dX6_carryOut_1 : decode cX6_carryOut 1 = .ok (.aload_n 2, 1) := by decide +kernel
theorem dX6_carryOut_2 : decode cX6_carryOut 2 = .ok (.getfield 38, 3) := by decide +kernel
theorem dX6_carryOut_5 : decode cX6_carryOut 5 = .ok (.invokevirtual 41, 3) := by decide +kernel
theorem dX6_carryOut_8 : decode cX6_carryOut 8 = .ok (.istore_n 3, 1) := by decide +kernel
theorem dX6_carryOut_9 : decode cX6_carryOut 9 = .ok (.aload_n 2, 1) := by decide +kernel
theorem dX6_carryOut_10 : decode cX6_carryOut 10 = .ok (.aload_n 2, 1) := by decide +kernel
theorem dX6_carryOut_11 : decode cX6_carryOut 11 = .ok (.getfield 38, 3) := by decide +kernel
theorem dX6_carryOut_14 : decode cX6_carryOut 14 = .ok (.invokevirtual 49, 3) := by decide +kernel
theorem dX6_carryOut_17 : decode cX6_carryOut 17 = .ok (.istore 4, 2) := by decide +kernel
theorem dX6_carryOut_19 : decode cX6_carryOut 19 = .ok (.iload_n 3, 1) := by decide +kernel
theorem dX6_carryOut_20 : decode cX6_carryOut 20 = .ok (.iconst (-1), 1) := by decide +kernel
theorem dX6_carryOut_21 : decode cX6_carryOut 21 = .ok (.if_icmp .eq 9, 3) := by decide +kernel
theorem dX6_carryOut_24 : decode cX6_carryOut 24 = .ok (.iload_n 3, 1) := by decide +kernel
theorem dX6_carryOut_25 : decode cX6_carryOut 25 = .ok (.bipush 13, 2) := by decide +kernel
theorem dX6_carryOut_27 : decode cX6_carryOut 27 = .ok (.if_icmp .ne 9, 3) := by decide +kernel
theorem dX6_carryOut_30 : decode cX6_carryOut 30 = .ok (.aload_n 2, 1) := by decide +kernel
theorem dX6_carryOut_31 : decode cX6_carryOut 31 = .ok (.iconst 1, 1) := by decide +kernel
theorem dX6_carryOut_32 : decode cX6_carryOut 32 = .ok (.putfield 29, 3) := by decide +kernel
theorem dX6_carryOut_35 : decode cX6_carryOut 35 = .ok (.return_, 1) := by decide +kernel
theorem dX6_carryOut_36 : decode cX6_carryOut 36 = .ok (.aload_n 2, 1) := by decide +kernel
theorem dX6_carryOut_37 : decode cX6_carryOut 37 = .ok (.dup, 1) := by decide +kernel
theorem dX6_carryOut_38 : decode cX6_carryOut 38 = .ok (.getfield 38, 3) := by decide +kernel
theorem dX6_carryOut_41 : decode cX6_carryOut 41 = .ok (.iconst 1, 1) := by decide +kernel
theorem dX6_carryOut_42 : decode cX6_carryOut 42 = .ok (.iadd, 1) := by decide +kernel
theorem dX6_carryOut_43 : decode cX6_carryOut 43 = .ok (.putfield 38, 3) := by decide +kernel
theorem dX6_carryOut_46 : decode cX6_carryOut 46 = .ok (.iload_n 3, 1) := by decide +kernel
theorem dX6_carryOut_47 : decode cX6_carryOut 47 = .ok (.bipush 11, 2) := by decide +kernel
theorem dX6_carryOut_49 : decode cX6_carryOut 49 = .ok (.if_icmp .ne 12, 3) := by decide +kernel
theorem dX6_carryOut_52 : decode cX6_carryOut 52 = .ok (.aload_n 2, 1) := by decide +kernel
theorem dX6_carryOut_53 : decode cX6_carryOut 53 = .ok (.iload 4, 2) := by decide +kernel
theorem dX6_carryOut_55 : decode cX6_carryOut 55 = .ok (.putfield 38, 3) := by decide +kernel
theorem dX6_carryOut_58 : decode cX6_carryOut 58 = .ok (.goto 44, 3) := by decide +kernel
theorem dX6_carryOut_61 : decode cX6_carryOut 61 = .ok (.iload_n 3, 1) := by decide +kernel
theorem dX6_carryOut_62 : decode cX6_carryOut 62 = .ok (.invokestatic 45, 3) := by decide +kernel
theorem dX6_carryOut_65 : decode cX6_carryOut 65 = .ok (.ifCond .eq 13, 3) := by decide +kernel
theorem dX6_carryOut_68 : decode cX6_carryOut 68 = .ok (.aload_n 0, 1) := by decide +kernel
theorem dX6_carryOut_69 : decode cX6_carryOut 69 = .ok (.iload_n 1, 1) := by decide +kernel
theorem dX6_carryOut_70 : decode cX6_carryOut 70 = .ok (.iload 4, 2) := by decide +kernel
theorem dX6_carryOut_72 : decode cX6_carryOut 72 = .ok (.invokestatic 136, 3) := by decide +kernel
theorem dX6_carryOut_75 : decode cX6_carryOut 75 = .ok (.goto 27, 3) := by decide +kernel
theorem dX6_carryOut_78 : decode cX6_carryOut 78 = .ok (.aload_n 0, 1) := by decide +kernel
theorem dX6_carryOut_79 : decode cX6_carryOut 79 = .ok (.aload_n 2, 1) := by decide +kernel
theorem dX6_carryOut_80 : decode cX6_carryOut 80 = .ok (.getfield 103, 3) := by decide +kernel
theorem dX6_carryOut_83 : decode cX6_carryOut 83 = .ok (.invokevirtual 109, 3) := by decide +kernel
theorem dX6_carryOut_86 : decode cX6_carryOut 86 = .ok (.astore 5, 2) := by decide +kernel
theorem dX6_carryOut_88 : decode cX6_carryOut 88 = .ok (.aload 5, 2) := by decide +kernel
theorem dX6_carryOut_90 : decode cX6_carryOut 90 = .ok (.ifnull 12, 3) := by decide +kernel
theorem dX6_carryOut_93 : decode cX6_carryOut 93 = .ok (.aload_n 2, 1) := by decide +kernel
theorem dX6_carryOut_94 : decode cX6_carryOut 94 = .ok (.aload 5, 2) := by decide +kernel
theorem dX6_carryOut_96 : decode cX6_carryOut 96 = .ok (.iload_n 3, 1) := by decide +kernel
theorem dX6_carryOut_97 : decode cX6_carryOut 97 = .ok (.iload 4, 2) := by decide +kernel
theorem dX6_carryOut_99 : decode cX6_carryOut 99 = .ok (.invokestatic 140, 3) := by decide +kernel
theorem dX6_carryOut_102 : decode cX6_carryOut 102 = .ok (.return_, 1) := by decide +kernel
theorem dX6_moveStacks_0 : decode cX6_moveStacks 0 = .ok (.aload_n 0, 1) := by decide +kernel
theorem dX6_moveStacks_1 : decode cX6_moveStacks 1 = .ok (.iload_n 1, 1) := by decide +kernel
theorem dX6_moveStacks_2 : decode cX6_moveStacks 2 = .ok (.invokevirtual 25, 3) := by decide +kernel
theorem dX6_moveStacks_5 : decode cX6_moveStacks 5 = .ok (.astore_n 3, 1) := by decide +kernel
theorem dX6_moveStacks_6 : decode cX6_moveStacks 6 = .ok (.aload_n 3, 1) := by decide +kernel
theorem dX6_moveStacks_7 : decode cX6_moveStacks 7 = .ok (.ifnonnull 4, 3) := by decide +kernel
theorem dX6_moveStacks_10 : decode cX6_moveStacks 10 = .ok (.return_, 1) := by decide +kernel
theorem dX6_moveStacks_11 : decode cX6_moveStacks 11 = .ok (.aload_n 3, 1) := by decide +kernel
theorem dX6_moveStacks_12 : decode cX6_moveStacks 12 = .ok (.getfield 103, 3) := by decide +kernel
theorem dX6_moveStacks_15 : decode cX6_moveStacks 15 = .ok (.istore 4, 2) := by decide +kernel
theorem dX6_moveStacks_17 : decode cX6_moveStacks 17 = .ok (.aload_n 0, 1) := by decide +kernel
theorem dX6_moveStacks_18 : decode cX6_moveStacks 18 = .ok (.iload_n 2, 1) := by decide +kernel
theorem dX6_moveStacks_19 : decode cX6_moveStacks 19 = .ok (.invokevirtual 56, 3) := by decide +kernel
theorem dX6_moveStacks_22 : decode cX6_moveStacks 22 = .ok (.istore 5, 2) := by decide +kernel
theorem dX6_moveStacks_24 : decode cX6_moveStacks 24 = .ok (.aload_n 0, 1) := by decide +kernel
theorem dX6_moveStacks_25 : decode cX6_moveStacks 25 = .ok (.iload_n 1, 1) := by decide +kernel
theorem dX6_moveStacks_26 : decode cX6_moveStacks 26 = .ok (.iload 5, 2) := by decide +kernel
theorem dX6_moveStacks_28 : decode cX6_moveStacks 28 = .ok (.invokevirtual 144, 3) := by decide +kernel
theorem dX6_moveStacks_31 : decode cX6_moveStacks 31 = .ok (.aload_n 0, 1) := by decide +kernel
theorem dX6_moveStacks_32 : decode cX6_moveStacks 32 = .ok (.iload_n 2, 1) := by decide +kernel
theorem dX6_moveStacks_33 : decode cX6_moveStacks 33 = .ok (.iload 4, 2) := by decide +kernel
theorem dX6_moveStacks_35 : decode cX6_moveStacks 35 = .ok (.invokevirtual 148, 3) := by decide +kernel
theorem dX6_moveStacks_38 : decode cX6_moveStacks 38 = .ok (.aload_n 0, 1) := by decide +kernel
theorem dX6_moveStacks_39 : decode cX6_moveStacks 39 = .ok (.iload 4, 2) := by decide +kernel
theorem dX6_moveStacks_41 : decode cX6_moveStacks 41 = .ok (.invokevirtual 109, 3) := by decide +kernel
theorem dX6_moveStacks_44 : decode cX6_moveStacks 44 = .ok (.astore 6, 2) := by decide +kernel
theorem dX6_moveStacks_46 : decode cX6_moveStacks 46 = .ok (.aload 6, 2) := by decide +kernel
theorem dX6_moveStacks_48 : decode cX6_moveStacks 48 = .ok (.ifnull 14, 3) := by decide +kernel
theorem dX6_moveStacks_51 : decode cX6_moveStacks 51 = .ok (.aload 6, 2) := by decide +kernel
theorem dX6_moveStacks_53 : decode cX6_moveStacks 53 = .ok (.dup, 1) := by decide +kernel
theorem dX6_moveStacks_54 : decode cX6_moveStacks 54 = .ok (.getfield 151, 3) := by decide +kernel
theorem dX6_moveStacks_57 : decode cX6_moveStacks 57 = .ok (.iconst 1, 1) := by decide +kernel
theorem dX6_moveStacks_58 : decode cX6_moveStacks 58 = .ok (.iadd, 1) := by decide +kernel
theorem dX6_moveStacks_59 : decode cX6_moveStacks 59 = .ok (.putfield 151, 3) := by decide +kernel
theorem dX6_moveStacks_62 : decode cX6_moveStacks 62 = .ok (.aload_n 0, 1) := by decide +kernel
theorem dX6_moveStacks_63 : decode cX6_moveStacks 63 = .ok (.iload 5, 2) := by decide +kernel
theorem dX6_moveStacks_65 : decode cX6_moveStacks 65 = .ok (.invokevirtual 109, 3) := by decide +kernel
theorem dX6_moveStacks_68 : decode cX6_moveStacks 68 = .ok (.astore 7, 2) := by decide +kernel
theorem dX6_moveStacks_70 : decode cX6_moveStacks 70 = .ok (.aload 7, 2) := by decide +kernel
theorem dX6_moveStacks_72 : decode cX6_moveStacks 72 = .ok (.ifnull 14, 3) := by decide +kernel
theorem dX6_moveStacks_75 : decode cX6_moveStacks 75 = .ok (.aload 7, 2) := by decide +kernel
theorem dX6_moveStacks_77 : decode cX6_moveStacks 77 = .ok (.dup, 1) := by decide +kernel
theorem dX6_moveStacks_78 : decode cX6_moveStacks 78 = .ok (.getfield 151, 3) := by decide +kernel
theorem dX6_moveStacks_81 : decode cX6_moveStacks 81 = .ok (.iconst 1, 1) := by decide +kernel
theorem dX6_moveStacks_82 : decode cX6_moveStacks 82 = .ok (.iadd, 1) := by decide +kernel
theorem dX6_moveStacks_83 : decode cX6_moveStacks 83 = .ok (.putfield 151, 3) := by decide +kernel
theorem dX6_moveStacks_86 : decode cX6_moveStacks 86 = .ok (.return_, 1) := by decide +kernel
theorem dX6_work_0 : decode cX6_work 0 = .ok (.aload_n 1, 1) := by decide +kernel

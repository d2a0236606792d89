theorem dX6_init_0 : decode cX6_init 0 = .ok (.aload_n 0, 1) := by decide +kernel
theorem dX6_init_1 : decode cX6_init 1 = .ok (.invokespecial 5, 3) := by decide +kernel
theorem dX6_init_4 : decode cX6_init 4 = .ok (.aload_n 0, 1) := by decide +kernel
theorem dX6_init_5 : decode cX6_init 5 = .ok (.iconst 4, 1) := by decide +kernel
theorem dX6_init_6 : decode cX6_init 6 = .ok (.anewarray 11, 3) := by decide +kernel
theorem dX6_init_9 : decode cX6_init 9 = .ok (.putfield 13, 3) := by decide +kernel
theorem dX6_init_12 : decode cX6_init 12 = .ok (.aload_n 0, 1) := by decide +kernel
theorem dX6_init_13 : decode cX6_init 13 = .ok (.iconst 4, 1) := by decide +kernel
theorem dX6_init_14 : decode cX6_init 14 = .ok (.newarray .int, 2) := by decide +kernel
theorem dX6_init_16 : decode cX6_init 16 = .ok (.putfield 17, 3) := by decide +kernel
theorem dX6_init_19 : decode cX6_init 19 = .ok (.aload_n 0, 1) := by decide +kernel
theorem dX6_init_20 : decode cX6_init 20 = .ok (.iconst 4, 1) := by decide +kernel
theorem dX6_init_21 : decode cX6_init 21 = .ok (.newarray .int, 2) := by decide +kernel
theorem dX6_init_23 : decode cX6_init 23 = .ok (.putfield 21, 3) := by decide +kernel
theorem dX6_init_26 : decode cX6_init 26 = .ok (.aload_n 0, 1) := by decide +kernel
theorem dX6_init_27 : decode cX6_init 27 = .ok (.iconst 4, 1) := by decide +kernel
theorem dX6_init_28 : decode cX6_init 28 = .ok (.newarray .int, 2) := by decide +kernel
theorem dX6_init_30 : decode cX6_init 30 = .ok (.putfield 24, 3) := by decide +kernel
theorem dX6_init_33 : decode cX6_init 33 = .ok (.aload_n 0, 1) := by decide +kernel
theorem dX6_init_34 : decode cX6_init 34 = .ok (.bipush 6, 2) := by decide +kernel
theorem dX6_init_36 : decode cX6_init 36 = .ok (.anewarray 27, 3) := by decide +kernel
theorem dX6_init_39 : decode cX6_init 39 = .ok (.putfield 29, 3) := by decide +kernel
theorem dX6_init_42 : decode cX6_init 42 = .ok (.aload_n 0, 1) := by decide +kernel
theorem dX6_init_43 : decode cX6_init 43 = .ok (.new 33, 3) := by decide +kernel
theorem dX6_init_46 : decode cX6_init 46 = .ok (.dup, 1) := by decide +kernel
theorem dX6_init_47 : decode cX6_init 47 = .ok (.invokespecial 35, 3) := by decide +kernel
theorem dX6_init_50 : decode cX6_init 50 = .ok (.putfield 36, 3) := by decide +kernel
theorem dX6_init_53 : decode cX6_init 53 = .ok (.aload_n 0, 1) := by decide +kernel
theorem dX6_init_54 : decode cX6_init 54 = .ok (.new 33, 3) := by decide +kernel
theorem dX6_init_57 : decode cX6_init 57 = .ok (.dup, 1) := by decide +kernel
theorem dX6_init_58 : decode cX6_init 58 = .ok (.invokespecial 35, 3) := by decide +kernel
theorem dX6_init_61 : decode cX6_init 61 = .ok (.putfield 40, 3) := by decide +kernel
theorem dX6_init_64 : decode cX6_init 64 = .ok (.aload_n 0, 1) := by decide +kernel
theorem dX6_init_65 : decode cX6_init 65 = .ok (.new 43, 3) := by decide +kernel
theorem dX6_init_68 : decode cX6_init 68 = .ok (.dup, 1) := by decide +kernel
theorem dX6_init_69 : decode cX6_init 69 = .ok (.invokespecial 45, 3) := by decide +kernel
theorem dX6_init_72 : decode cX6_init 72 = .ok (.putfield 46, 3) := by decide +kernel
theorem dX6_init_75 : decode cX6_init 75 = .ok (.aload_n 0, 1) := by decide +kernel
theorem dX6_init_76 : decode cX6_init 76 = .ok (.bipush 6, 2) := by decide +kernel
theorem dX6_init_78 : decode cX6_init 78 = .ok (.iconst 4, 1) := by decide +kernel
theorem dX6_init_79 : decode cX6_init 79 = .ok (.multianewarray 50 2, 4) := by decide +kernel
theorem dX6_init_83 : decode cX6_init 83 = .ok (.putfield 52, 3) := by decide +kernel
theorem dX6_init_86 : decode cX6_init 86 = .ok (.aload_n 0, 1) := by decide +kernel
theorem dX6_init_87 : decode cX6_init 87 = .ok (.new 55, 3) := by decide +kernel
theorem dX6_init_90 : decode cX6_init 90 = .ok (.dup, 1) := by decide +kernel
theorem dX6_init_91 : decode cX6_init 91 = .ok (.invokespecial 57, 3) := by decide +kernel
theorem dX6_init_94 : decode cX6_init 94 = .ok (.putfield 58, 3) := by decide +kernel
theorem dX6_init_97 : decode cX6_init 97 = .ok (.iconst 0, 1) := by decide +kernel
theorem dX6_init_98 : decode cX6_init 98 = .ok (.istore_n 1, 1) := by decide +kernel
theorem dX6_init_99 : decode cX6_init 99 = .ok (.iload_n 1, 1) := by decide +kernel
theorem dX6_init_100 : decode cX6_init 100 = .ok (.iconst 4, 1) := by decide +kernel
theorem dX6_init_101 : decode cX6_init 101 = .ok (.if_icmp .ge 22, 3) := by decide +kernel
theorem dX6_init_104 : decode cX6_init 104 = .ok (.aload_n 0, 1) := by decide +kernel
theorem dX6_init_105 : decode cX6_init 105 = .ok (.getfield 13, 3) := by decide +kernel
theorem dX6_init_108 : decode cX6_init 108 = .ok (.iload_n 1, 1) := by decide +kernel
theorem dX6_init_109 : decode cX6_init 109 = .ok (.new 11, 3) := by decide +kernel
theorem dX6_init_112 : decode cX6_init 112 = .ok (.dup, 1) := by decide +kernel
theorem dX6_init_113 : decode cX6_init 113 = .ok (.invokespecial 62, 3) := by decide +kernel
theorem dX6_init_116 : decode cX6_init 116 = .ok (.aastore, 1) := by decide +kernel
theorem dX6_init_117 : decode cX6_init 117 = .ok (.iinc 1 1, 3) := by decide +kernel
theorem dX6_init_120 : decode cX6_init 120 = .ok (.goto (-21), 3) := by decide +kernel
theorem dX6_init_123 : decode cX6_init 123 = .ok (.iconst 0, 1) := by decide +kernel
theorem dX6_init_124 : decode cX6_init 124 = .ok (.istore_n 1, 1) := by decide +kernel
theorem dX6_init_125 : decode cX6_init 125 = .ok (.iload_n 1, 1) := by decide +kernel
theorem dX6_init_126 : decode cX6_init 126 = .ok (.bipush 6, 2) := by decide +kernel
theorem dX6_init_128 : decode cX6_init 128 = .ok (.if_icmp .ge 22, 3) := by decide +kernel
theorem dX6_init_131 : decode cX6_init 131 = .ok (.aload_n 0, 1) := by decide +kernel
theorem dX6_init_132 : decode cX6_init 132 = .ok (.getfield 29, 3) := by decide +kernel
theorem dX6_init_135 : decode cX6_init 135 = .ok (.iload_n 1, 1) := by decide +kernel
theorem dX6_init_136 : decode cX6_init 136 = .ok (.new 27, 3) := by decide +kernel
theorem dX6_init_139 : decode cX6_init 139 = .ok (.dup, 1) := by decide +kernel
theorem dX6_init_140 : decode cX6_init 140 = .ok (.invokespecial 63, 3) := by decide +kernel
theorem dX6_init_143 : decode cX6_init 143 = .ok (.aastore, 1) := by decide +kernel
theorem dX6_init_144 : decode cX6_init 144 = .ok (.iinc 1 1, 3) := by decide +kernel
theorem dX6_init_147 : decode cX6_init 147 = .ok (.goto (-22), 3) := by decide +kernel
theorem dX6_init_150 : decode cX6_init 150 = .ok (.return_, 1) := by decide +kernel
theorem dX6_addAxis_0 : decode cX6_addAxis 0 = .ok (.iload_n 1, 1) := by decide +kernel
theorem dX6_addAxis_1 : decode cX6_addAxis 1 = .ok (.ldc 64, 2) := by decide +kernel
theorem dX6_addAxis_3 : decode cX6_addAxis 3 = .ok (.ldc 65, 2) := by decide +kernel
theorem dX6_addAxis_5 : decode cX6_addAxis 5 = .ok (.invokestatic 66, 3) := by decide +kernel
theorem dX6_addAxis_8 : decode cX6_addAxis 8 = .ok (.ifCond .eq 28, 3) := by decide +kernel
theorem dX6_addAxis_11 : decode cX6_addAxis 11 = .ok (.iload_n 2, 1) := by decide +kernel
theorem dX6_addAxis_12 : decode cX6_addAxis 12 = .ok (.iload_n 1, 1) := by decide +kernel
theorem dX6_addAxis_13 : decode cX6_addAxis 13 = .ok (.ldc 65, 2) := by decide +kernel
theorem dX6_addAxis_15 : decode cX6_addAxis 15 = .ok (.invokestatic 66, 3) := by decide +kernel
theorem dX6_addAxis_18 : decode cX6_addAxis 18 = .ok (.ifCond .eq 18, 3) := by decide +kernel
theorem dX6_addAxis_21 : decode cX6_addAxis 21 = .ok (.iload_n 3, 1) := by decide +kernel
theorem dX6_addAxis_22 : decode cX6_addAxis 22 = .ok (.iload_n 2, 1) := by decide +kernel
theorem dX6_addAxis_23 : decode cX6_addAxis 23 = .ok (.ldc 65, 2) := by decide +kernel
theorem dX6_addAxis_25 : decode cX6_addAxis 25 = .ok (.invokestatic 66, 3) := by decide +kernel
theorem dX6_addAxis_28 : decode cX6_addAxis 28 = .ok (.ifCond .eq 8, 3) := by decide +kernel
theorem dX6_addAxis_31 : decode cX6_addAxis 31 = .ok (.iload_n 3, 1) := by decide +kernel
theorem dX6_addAxis_32 : decode cX6_addAxis 32 = .ok (.iload_n 1, 1) := by decide +kernel
theorem dX6_addAxis_33 : decode cX6_addAxis 33 = .ok (.if_icmp .ne 6, 3) := by decide +kernel
theorem dX6_addAxis_36 : decode cX6_addAxis 36 = .ok (.ldc 70, 2) := by decide +kernel
theorem dX6_addAxis_38 : decode cX6_addAxis 38 = .ok (.ireturn, 1) := by decide +kernel
theorem dX6_addAxis_39 : decode cX6_addAxis 39 = .ok (.aload_n 0, 1) := by decide +kernel
theorem dX6_addAxis_40 : decode cX6_addAxis 40 = .ok (.getfield 71, 3) := by decide +kernel
theorem dX6_addAxis_43 : decode cX6_addAxis 43 = .ok (.iconst 4, 1) := by decide +kernel
theorem dX6_addAxis_44 : decode cX6_addAxis 44 = .ok (.if_icmp .lt 6, 3) := by decide +kernel
theorem dX6_addAxis_47 : decode cX6_addAxis 47 = .ok (.ldc 75, 2) := by decide +kernel
theorem dX6_addAxis_49 : decode cX6_addAxis 49 = .ok (.ireturn, 1) := by decide +kernel
theorem dX6_addAxis_50 : decode cX6_addAxis 50 = .ok (.aload_n 0, 1) := by decide +kernel
theorem dX6_addAxis_51 : decode cX6_addAxis 51 = .ok (.getfield 13, 3) := by decide +kernel
theorem dX6_addAxis_54 : decode cX6_addAxis 54 = .ok (.aload_n 0, 1) := by decide +kernel
theorem dX6_addAxis_55 : decode cX6_addAxis 55 = .ok (.getfield 71, 3) := by decide +kernel
theorem dX6_addAxis_58 : decode cX6_addAxis 58 = .ok (.aaload, 1) := by decide +kernel
theorem dX6_addAxis_59 : decode cX6_addAxis 59 = .ok (.iload_n 1, 1) := by decide +kernel
theorem dX6_addAxis_60 : decode cX6_addAxis 60 = .ok (.iload_n 2, 1) := by decide +kernel
theorem dX6_addAxis_61 : decode cX6_addAxis 61 = .ok (.iload_n 3, 1) := by decide +kernel
theorem dX6_addAxis_62 : decode cX6_addAxis 62 = .ok (.invokevirtual 76, 3) := by decide +kernel
theorem dX6_addAxis_65 : decode cX6_addAxis 65 = .ok (.aload_n 0, 1) := by decide +kernel
theorem dX6_addAxis_66 : decode cX6_addAxis 66 = .ok (.dup, 1) := by decide +kernel
theorem dX6_addAxis_67 : decode cX6_addAxis 67 = .ok (.getfield 71, 3) := by decide +kernel
theorem dX6_addAxis_70 : decode cX6_addAxis 70 = .ok (.iconst 1, 1) := by decide +kernel
theorem dX6_addAxis_71 : decode cX6_addAxis 71 = .ok (.iadd, 1) := by decide +kernel
theorem dX6_addAxis_72 : decode cX6_addAxis 72 = .ok (.putfield 71, 3) := by decide +kernel
theorem dX6_addAxis_75 : decode cX6_addAxis 75 = .ok (.aload_n 0, 1) := by decide +kernel
theorem dX6_addAxis_76 : decode cX6_addAxis 76 = .ok (.getfield 71, 3) := by decide +kernel
theorem dX6_addAxis_79 : decode cX6_addAxis 79 = .ok (.iconst 1, 1) := by decide +kernel
theorem dX6_addAxis_80 : decode cX6_addAxis 80 = .ok (.isub, 1) := by decide +kernel
theorem dX6_addAxis_81 : decode cX6_addAxis 81 = .ok (.ireturn, 1) := by decide +kernel
theorem dX6_addMapPair_0 : decode cX6_addMapPair 0 = .ok (.aload_n 0, 1) := by decide +kernel
theorem dX6_addMapPair_1 : decode cX6_addMapPair 1 = .ok (.iload_n 1, 1) := by decide +kernel
theorem dX6_addMapPair_2 : decode cX6_addMapPair 2 = .ok (.invokevirtual 80, 3) := by decide +kernel
theorem dX6_addMapPair_5 : decode cX6_addMapPair 5 = .ok (.ifCond .ne 6, 3) := by decide +kernel
theorem dX6_addMapPair_8 : decode cX6_addMapPair 8 = .ok (.ldc 84, 2) := by decide +kernel
theorem dX6_addMapPair_10 : decode cX6_addMapPair 10 = .ok (.ireturn, 1) := by decide +kernel
theorem dX6_addMapPair_11 : decode cX6_addMapPair 11 = .ok (.aload_n 0, 1) := by decide +kernel
theorem dX6_addMapPair_12 : decode cX6_addMapPair 12 = .ok (.getfield 13, 3) := by decide +kernel
theorem dX6_addMapPair_15 : decode cX6_addMapPair 15 = .ok (.iload_n 1, 1) := by decide +kernel
theorem dX6_addMapPair_16 : decode cX6_addMapPair 16 = .ok (.aaload, 1) := by decide +kernel
theorem dX6_addMapPair_17 : decode cX6_addMapPair 17 = .ok (.astore 4, 2) := by decide +kernel
theorem dX6_addMapPair_19 : decode cX6_addMapPair 19 = .ok (.iload_n 2, 1) := by decide +kernel
theorem dX6_addMapPair_20 : decode cX6_addMapPair 20 = .ok (.sipush (-16383), 3) := by decide +kernel
theorem dX6_addMapPair_23 : decode cX6_addMapPair 23 = .ok (.sipush 16383, 3) := by decide +kernel
theorem dX6_addMapPair_26 : decode cX6_addMapPair 26 = .ok (.invokestatic 66, 3) := by decide +kernel
theorem dX6_addMapPair_29 : decode cX6_addMapPair 29 = .ok (.ifCond .eq 17, 3) := by decide +kernel
theorem dX6_addMapPair_32 : decode cX6_addMapPair 32 = .ok (.iload_n 2, 1) := by decide +kernel
theorem dX6_addMapPair_33 : decode cX6_addMapPair 33 = .ok (.ifCond .eq 13, 3) := by decide +kernel
theorem dX6_addMapPair_36 : decode cX6_addMapPair 36 = .ok (.aload 4, 2) := by decide +kernel
theorem dX6_addMapPair_38 : decode cX6_addMapPair 38 = .ok (.iload_n 2, 1) := by decide +kernel
theorem dX6_addMapPair_39 : decode cX6_addMapPair 39 = .ok (.iload_n 3, 1) := by decide +kernel
theorem dX6_addMapPair_40 : decode cX6_addMapPair 40 = .ok (.invokevirtual 85, 3) := by decide +kernel
theorem dX6_addMapPair_43 : decode cX6_addMapPair 43 = .ok (.ifCond .ne 6, 3) := by decide +kernel
theorem dX6_addMapPair_46 : decode cX6_addMapPair 46 = .ok (.ldc 70, 2) := by decide +kernel
theorem dX6_addMapPair_48 : decode cX6_addMapPair 48 = .ok (.ireturn, 1) := by decide +kernel
theorem dX6_addMapPair_49 : decode cX6_addMapPair 49 = .ok (.aload 4, 2) := by decide +kernel
theorem dX6_addMapPair_51 : decode cX6_addMapPair 51 = .ok (.getfield 89, 3) := by decide +kernel
theorem dX6_addMapPair_54 : decode cX6_addMapPair 54 = .ok (.bipush 8, 2) := by decide +kernel
theorem dX6_addMapPair_56 : decode cX6_addMapPair 56 = .ok (.if_icmp .lt 15, 3) := by decide +kernel
theorem dX6_addMapPair_59 : decode cX6_addMapPair 59 = .ok (.aload 4, 2) := by decide +kernel
theorem dX6_addMapPair_61 : decode cX6_addMapPair 61 = .ok (.iload_n 2, 1) := by decide +kernel
theorem dX6_addMapPair_62 : decode cX6_addMapPair 62 = .ok (.invokevirtual 92, 3) := by decide +kernel
theorem dX6_addMapPair_65 : decode cX6_addMapPair 65 = .ok (.ifCond .ne 6, 3) := by decide +kernel
theorem dX6_addMapPair_68 : decode cX6_addMapPair 68 = .ok (.ldc 75, 2) := by decide +kernel
theorem dX6_addMapPair_70 : decode cX6_addMapPair 70 = .ok (.ireturn, 1) := by decide +kernel
theorem dX6_addMapPair_71 : decode cX6_addMapPair 71 = .ok (.aload 4, 2) := by decide +kernel
theorem dX6_addMapPair_73 : decode cX6_addMapPair 73 = .ok (.iload_n 2, 1) := by decide +kernel
theorem dX6_addMapPair_74 : decode cX6_addMapPair 74 = .ok (.iload_n 3, 1) := by decide +kernel
theorem dX6_addMapPair_75 : decode cX6_addMapPair 75 = .ok (.invokevirtual 95, 3) := by decide +kernel
theorem dX6_addMapPair_78 : decode cX6_addMapPair 78 = .ok (.aload 4, 2) := by decide +kernel
theorem dX6_addMapPair_80 : decode cX6_addMapPair 80 = .ok (.getfield 89, 3) := by decide +kernel
theorem dX6_addMapPair_83 : decode cX6_addMapPair 83 = .ok (.ireturn, 1) := by decide +kernel
theorem dX6_normalize_0 : decode cX6_normalize 0 = .ok (.aload_n 0, 1) := by decide +kernel
theorem dX6_normalize_1 : decode cX6_normalize 1 = .ok (.iload_n 1, 1) := by decide +kernel
theorem dX6_normalize_2 : decode cX6_normalize 2 = .ok (.invokevirtual 80, 3) := by decide +kernel
theorem dX6_normalize_5 : decode cX6_normalize 5 = .ok (.ifCond .eq 16, 3) := by decide +kernel
theorem dX6_normalize_8 : decode cX6_normalize 8 = .ok (.aload_n 0, 1) := by decide +kernel
theorem dX6_normalize_9 : decode cX6_normalize 9 = .ok (.getfield 13, 3) := by decide +kernel
theorem dX6_normalize_12 : decode cX6_normalize 12 = .ok (.iload_n 1, 1) := by decide +kernel
theorem dX6_normalize_13 : decode cX6_normalize 13 = .ok (.aaload, 1) := by decide +kernel
theorem dX6_normalize_14 : decode cX6_normalize 14 = .ok (.iload_n 2, 1) := by decide +kernel
theorem dX6_normalize_15 : decode cX6_normalize 15 = .ok (.invokevirtual 99, 3) := by decide +kernel
theorem dX6_normalize_18 : decode cX6_normalize 18 = .ok (.goto 5, 3) := by decide +kernel
theorem dX6_normalize_21 : decode cX6_normalize 21 = .ok (.ldc 84, 2) := by decide +kernel
theorem dX6_normalize_23 : decode cX6_normalize 23 = .ok (.ireturn, 1) := by decide +kernel
theorem dX6_setUser_0 : decode cX6_setUser 0 = .ok (.aload_n 0, 1) := by decide +kernel
theorem dX6_setUser_1 : decode cX6_setUser 1 = .ok (.iload_n 1, 1) := by decide +kernel
theorem dX6_setUser_2 : decode cX6_setUser 2 = .ok (.invokevirtual 80, 3) := by decide +kernel
theorem dX6_setUser_5 : decode cX6_setUser 5 = .ok (.ifCond .ne 6, 3) := by decide +kernel
theorem dX6_setUser_8 : decode cX6_setUser 8 = .ok (.ldc 84, 2) := by decide +kernel
theorem dX6_setUser_10 : decode cX6_setUser 10 = .ok (.ireturn, 1) := by decide +kernel
theorem dX6_setUser_11 : decode cX6_setUser 11 = .ok (.aload_n 0, 1) := by decide +kernel
theorem dX6_setUser_12 : decode cX6_setUser 12 = .ok (.getfield 13, 3) := by decide +kernel
theorem dX6_setUser_15 : decode cX6_setUser 15 = .ok (.iload_n 1, 1) := by decide +kernel
theorem dX6_setUser_16 : decode cX6_setUser 16 = .ok (.aaload, 1) := by decide +kernel
theorem dX6_setUser_17 : decode cX6_setUser 17 = .ok (.getfield 103, 3) := by decide +kernel
theorem dX6_setUser_20 : decode cX6_setUser 20 = .ok (.ifCond .eq 6, 3) := by decide +kernel
theorem dX6_setUser_23 : decode cX6_setUser 23 = .ok (.ldc 107, 2) := by decide +kernel
theorem dX6_setUser_25 : decode cX6_setUser 25 = .ok (.ireturn, 1) := by decide +kernel
theorem dX6_setUser_26 : decode cX6_setUser 26 = .ok (.aload_n 0, 1) := by decide +kernel
theorem dX6_setUser_27 : decode cX6_setUser 27 = .ok (.getfield 17, 3) := by decide +kernel
theorem dX6_setUser_30 : decode cX6_setUser 30 = .ok (.iload_n 1, 1) := by decide +kernel
theorem dX6_setUser_31 : decode cX6_setUser 31 = .ok (.aload_n 0, 1) := by decide +kernel
theorem dX6_setUser_32 : decode cX6_setUser 32 = .ok (.getfield 13, 3) := by decide +kernel
theorem dX6_setUser_35 : decode cX6_setUser 35 = .ok (.iload_n 1, 1) := by decide +kernel
theorem dX6_setUser_36 : decode cX6_setUser 36 = .ok (.aaload, 1) := by decide +kernel
theorem dX6_setUser_37 : decode cX6_setUser 37 = .ok (.iload_n 2, 1) := by decide +kernel
theorem dX6_setUser_38 : decode cX6_setUser 38 = .ok (.invokevirtual 99, 3) := by decide +kernel
theorem dX6_setUser_41 : decode cX6_setUser 41 = .ok (.iastore, 1) := by decide +kernel
theorem dX6_setUser_42 : decode cX6_setUser 42 = .ok (.aload_n 0, 1) := by decide +kernel
theorem dX6_setUser_43 : decode cX6_setUser 43 = .ok (.getfield 17, 3) := by decide +kernel
theorem dX6_setUser_46 : decode cX6_setUser 46 = .ok (.iload_n 1, 1) := by decide +kernel
theorem dX6_setUser_47 : decode cX6_setUser 47 = .ok (.iaload, 1) := by decide +kernel
theorem dX6_setUser_48 : decode cX6_setUser 48 = .ok (.ireturn, 1) := by decide +kernel
theorem dX6_setCoordinate_0 : decode cX6_setCoordinate 0 = .ok (.aload_n 0, 1) := by decide +kernel
theorem dX6_setCoordinate_1 : decode cX6_setCoordinate 1 = .ok (.iload_n 1, 1) := by decide +kernel
theorem dX6_setCoordinate_2 : decode cX6_setCoordinate 2 = .ok (.invokevirtual 80, 3) := by decide +kernel
theorem dX6_setCoordinate_5 : decode cX6_setCoordinate 5 = .ok (.ifCond .ne 6, 3) := by decide +kernel
theorem dX6_setCoordinate_8 : decode cX6_setCoordinate 8 = .ok (.ldc 84, 2) := by decide +kernel
theorem dX6_setCoordinate_10 : decode cX6_setCoordinate 10 = .ok (.ireturn, 1) := by decide +kernel
theorem dX6_setCoordinate_11 : decode cX6_setCoordinate 11 = .ok (.iload_n 2, 1) := by decide +kernel
theorem dX6_setCoordinate_12 : decode cX6_setCoordinate 12 = .ok (.sipush (-16384), 3) := by decide +kernel
theorem dX6_setCoordinate_15 : decode cX6_setCoordinate 15 = .ok (.sipush 16384, 3) := by decide +kernel
theorem dX6_setCoordinate_18 : decode cX6_setCoordinate 18 = .ok (.invokestatic 66, 3) := by decide +kernel
theorem dX6_setCoordinate_21 : decode cX6_setCoordinate 21 = .ok (.ifCond .ne 6, 3) := by decide +kernel
theorem dX6_setCoordinate_24 : decode cX6_setCoordinate 24 = .ok (.ldc 70, 2) := by decide +kernel
theorem dX6_setCoordinate_26 : decode cX6_setCoordinate 26 = .ok (.ireturn, 1) := by decide +kernel
theorem dX6_setCoordinate_27 : decode cX6_setCoordinate 27 = .ok (.aload_n 0, 1) := by decide +kernel
theorem dX6_setCoordinate_28 : decode cX6_setCoordinate 28 = .ok (.getfield 13, 3) := by decide +kernel
theorem dX6_setCoordinate_31 : decode cX6_setCoordinate 31 = .ok (.iload_n 1, 1) := by decide +kernel
theorem dX6_setCoordinate_32 : decode cX6_setCoordinate 32 = .ok (.aaload, 1) := by decide +kernel
theorem dX6_setCoordinate_33 : decode cX6_setCoordinate 33 = .ok (.getfield 103, 3) := by decide +kernel
theorem dX6_setCoordinate_36 : decode cX6_setCoordinate 36 = .ok (.ifCond .eq 6, 3) := by decide +kernel
theorem dX6_setCoordinate_39 : decode cX6_setCoordinate 39 = .ok (.ldc 107, 2) := by decide +kernel
theorem dX6_setCoordinate_41 : decode cX6_setCoordinate 41 = .ok (.ireturn, 1) := by decide +kernel
theorem dX6_setCoordinate_42 : decode cX6_setCoordinate 42 = .ok (.aload_n 0, 1) := by decide +kernel
theorem dX6_setCoordinate_43 : decode cX6_setCoordinate 43 = .ok (.getfield 17, 3) := by decide +kernel
theorem dX6_setCoordinate_46 : decode cX6_setCoordinate 46 = .ok (.iload_n 1, 1) := by decide +kernel
theorem dX6_setCoordinate_47 : decode cX6_setCoordinate 47 = .ok (.iaload, 1) := by decide +kernel
theorem dX6_setCoordinate_48 : decode cX6_setCoordinate 48 = .ok (.istore_n 3, 1) := by decide +kernel
theorem dX6_setCoordinate_49 : decode cX6_setCoordinate 49 = .ok (.aload_n 0, 1) := by decide +kernel
theorem dX6_setCoordinate_50 : decode cX6_setCoordinate 50 = .ok (.getfield 17, 3) := by decide +kernel
theorem dX6_setCoordinate_53 : decode cX6_setCoordinate 53 = .ok (.iload_n 1, 1) := by decide +kernel
theorem dX6_setCoordinate_54 : decode cX6_setCoordinate 54 = .ok (.iload_n 2, 1) := by decide +kernel
theorem dX6_setCoordinate_55 : decode cX6_setCoordinate 55 = .ok (.iastore, 1) := by decide +kernel
theorem dX6_setCoordinate_56 : decode cX6_setCoordinate 56 = .ok (.iload_n 3, 1) := by decide +kernel
theorem dX6_setCoordinate_57 : decode cX6_setCoordinate 57 = .ok (.ireturn, 1) := by decide +kernel
theorem dX6_pin_0 : decode cX6_pin 0 = .ok (.aload_n 0, 1) := by decide +kernel
theorem dX6_pin_1 : decode cX6_pin 1 = .ok (.iload_n 1, 1) := by decide +kernel
theorem dX6_pin_2 : decode cX6_pin 2 = .ok (.invokevirtual 80, 3) := by decide +kernel
theorem dX6_pin_5 : decode cX6_pin 5 = .ok (.ifCond .ne 6, 3) := by decide +kernel
theorem dX6_pin_8 : decode cX6_pin 8 = .ok (.ldc 84, 2) := by decide +kernel
theorem dX6_pin_10 : decode cX6_pin 10 = .ok (.ireturn, 1) := by decide +kernel
theorem dX6_pin_11 : decode cX6_pin 11 = .ok (.aload_n 0, 1) := by decide +kernel
theorem dX6_pin_12 : decode cX6_pin 12 = .ok (.getfield 13, 3) := by decide +kernel
theorem dX6_pin_15 : decode cX6_pin 15 = .ok (.iload_n 1, 1) := by decide +kernel
theorem dX6_pin_16 : decode cX6_pin 16 = .ok (.aaload, 1) := by decide +kernel
theorem dX6_pin_17 : decode cX6_pin 17 = .ok (.getfield 103, 3) := by decide +kernel
theorem dX6_pin_20 : decode cX6_pin 20 = .ok (.iload_n 2, 1) := by decide +kernel
theorem dX6_pin_21 : decode cX6_pin 21 = .ok (.if_icmp .eq 7, 3) := by decide +kernel
theorem dX6_pin_24 : decode cX6_pin 24 = .ok (.iconst 1, 1) := by decide +kernel
theorem dX6_pin_25 : decode cX6_pin 25 = .ok (.goto 4, 3) := by decide +kernel
theorem dX6_pin_28 : decode cX6_pin 28 = .ok (.iconst 0, 1) := by decide +kernel
theorem dX6_pin_29 : decode cX6_pin 29 = .ok (.istore_n 3, 1) := by decide +kernel
theorem dX6_pin_30 : decode cX6_pin 30 = .ok (.aload_n 0, 1) := by decide +kernel
theorem dX6_pin_31 : decode cX6_pin 31 = .ok (.getfield 13, 3) := by decide +kernel
theorem dX6_pin_34 : decode cX6_pin 34 = .ok (.iload_n 1, 1) := by decide +kernel
theorem dX6_pin_35 : decode cX6_pin 35 = .ok (.aaload, 1) := by decide +kernel
theorem dX6_pin_36 : decode cX6_pin 36 = .ok (.iload_n 2, 1) := by decide +kernel
theorem dX6_pin_37 : decode cX6_pin 37 = .ok (.putfield 103, 3) := by decide +kernel
theorem dX6_pin_40 : decode cX6_pin 40 = .ok (.iload_n 3, 1) := by decide +kernel
theorem dX6_pin_41 : decode cX6_pin 41 = .ok (.ifCond .eq 7, 3) := by decide +kernel
theorem dX6_pin_44 : decode cX6_pin 44 = .ok (.iconst 1, 1) := by decide +kernel
theorem dX6_pin_45 : decode cX6_pin 45 = .ok (.goto 4, 3) := by decide +kernel
theorem dX6_pin_48 : decode cX6_pin 48 = .ok (.iconst 0, 1) := by decide +kernel
theorem dX6_pin_49 : decode cX6_pin 49 = .ok (.ireturn, 1) := by decide +kernel
theorem dX6_axisValue_0 : decode cX6_axisValue 0 = .ok (.aload_n 0, 1) := by decide +kernel
theorem dX6_axisValue_1 : decode cX6_axisValue 1 = .ok (.iload_n 1, 1) := by decide +kernel
theorem dX6_axisValue_2 : decode cX6_axisValue 2 = .ok (.invokevirtual 80, 3) := by decide +kernel
theorem dX6_axisValue_5 : decode cX6_axisValue 5 = .ok (.ifCond .ne 6, 3) := by decide +kernel
theorem dX6_axisValue_8 : decode cX6_axisValue 8 = .ok (.ldc 84, 2) := by decide +kernel
theorem dX6_axisValue_10 : decode cX6_axisValue 10 = .ok (.ireturn, 1) := by decide +kernel
theorem dX6_axisValue_11 : decode cX6_axisValue 11 = .ok (.aload_n 0, 1) := by decide +kernel
theorem dX6_axisValue_12 : decode cX6_axisValue 12 = .ok (.getfield 13, 3) := by decide +kernel
theorem dX6_axisValue_15 : decode cX6_axisValue 15 = .ok (.iload_n 1, 1) := by decide +kernel
theorem dX6_axisValue_16 : decode cX6_axisValue 16 = .ok (.aaload, 1) := by decide +kernel
theorem dX6_axisValue_17 : decode cX6_axisValue 17 = .ok (.astore_n 3, 1) := by decide +kernel
theorem dX6_axisValue_18 : decode cX6_axisValue 18 = .ok (.iload_n 2, 1) := by decide +kernel
theorem dX6_axisValue_19 : decode cX6_axisValue 19 = .ok (.tableswitch 77 0 5 #[37, 44, 49, 54, 59, 64], 37) := by decide +kernel
theorem dX6_axisValue_56 : decode cX6_axisValue 56 = .ok (.aload_n 0, 1) := by decide +kernel
theorem dX6_axisValue_57 : decode cX6_axisValue 57 = .ok (.getfield 17, 3) := by decide +kernel
theorem dX6_axisValue_60 : decode cX6_axisValue 60 = .ok (.iload_n 1, 1) := by decide +kernel
theorem dX6_axisValue_61 : decode cX6_axisValue 61 = .ok (.iaload, 1) := by decide +kernel
theorem dX6_axisValue_62 : decode cX6_axisValue 62 = .ok (.ireturn, 1) := by decide +kernel
theorem dX6_axisValue_63 : decode cX6_axisValue 63 = .ok (.aload_n 3, 1) := by decide +kernel
theorem dX6_axisValue_64 : decode cX6_axisValue 64 = .ok (.getfield 108, 3) := by decide +kernel
theorem dX6_axisValue_67 : decode cX6_axisValue 67 = .ok (.ireturn, 1) := by decide +kernel
theorem dX6_axisValue_68 : decode cX6_axisValue 68 = .ok (.aload_n 3, 1) := by decide +kernel
theorem dX6_axisValue_69 : decode cX6_axisValue 69 = .ok (.getfield 111, 3) := by decide +kernel
theorem dX6_axisValue_72 : decode cX6_axisValue 72 = .ok (.ireturn, 1) := by decide +kernel
theorem dX6_axisValue_73 : decode cX6_axisValue 73 = .ok (.aload_n 3, 1) := by decide +kernel
theorem dX6_axisValue_74 : decode cX6_axisValue 74 = .ok (.getfield 114, 3) := by decide +kernel
theorem dX6_axisValue_77 : decode cX6_axisValue 77 = .ok (.ireturn, 1) := by decide +kernel
theorem dX6_axisValue_78 : decode cX6_axisValue 78 = .ok (.aload_n 3, 1) := by decide +kernel
theorem dX6_axisValue_79 : decode cX6_axisValue 79 = .ok (.getfield 89, 3) := by decide +kernel
theorem dX6_axisValue_82 : decode cX6_axisValue 82 = .ok (.ireturn, 1) := by decide +kernel
theorem dX6_axisValue_83 : decode cX6_axisValue 83 = .ok (.aload_n 3, 1) := by decide +kernel
theorem dX6_axisValue_84 : decode cX6_axisValue 84 = .ok (.getfield 103, 3) := by decide +kernel
theorem dX6_axisValue_87 : decode cX6_axisValue 87 = .ok (.ifCond .eq 7, 3) := by decide +kernel
theorem dX6_axisValue_90 : decode cX6_axisValue 90 = .ok (.iconst 1, 1) := by decide +kernel
theorem dX6_axisValue_91 : decode cX6_axisValue 91 = .ok (.goto 4, 3) := by decide +kernel
theorem dX6_axisValue_94 : decode cX6_axisValue 94 = .ok (.iconst 0, 1) := by decide +kernel
theorem dX6_axisValue_95 : decode cX6_axisValue 95 = .ok (.ireturn, 1) := by decide +kernel
theorem dX6_axisValue_96 : decode cX6_axisValue 96 = .ok (.ldc 70, 2) := by decide +kernel
theorem dX6_axisValue_98 : decode cX6_axisValue 98 = .ok (.ireturn, 1) := by decide +kernel
theorem dX6_addGlyph_0 : decode cX6_addGlyph 0 = .ok (.iload_n 2, 1) := by decide +kernel
theorem dX6_addGlyph_1 : decode cX6_addGlyph 1 = .ok (.iconst 0, 1) := by decide +kernel
theorem dX6_addGlyph_2 : decode cX6_addGlyph 2 = .ok (.sipush 4000, 3) := by decide +kernel
theorem dX6_addGlyph_5 : decode cX6_addGlyph 5 = .ok (.invokestatic 66, 3) := by decide +kernel
theorem dX6_addGlyph_8 : decode cX6_addGlyph 8 = .ok (.ifCond .ne 6, 3) := by decide +kernel
theorem dX6_addGlyph_11 : decode cX6_addGlyph 11 = .ok (.ldc 70, 2) := by decide +kernel
theorem dX6_addGlyph_13 : decode cX6_addGlyph 13 = .ok (.ireturn, 1) := by decide +kernel
theorem dX6_addGlyph_14 : decode cX6_addGlyph 14 = .ok (.aload_n 0, 1) := by decide +kernel
theorem dX6_addGlyph_15 : decode cX6_addGlyph 15 = .ok (.getfield 117, 3) := by decide +kernel
theorem dX6_addGlyph_18 : decode cX6_addGlyph 18 = .ok (.bipush 6, 2) := by decide +kernel
theorem dX6_addGlyph_20 : decode cX6_addGlyph 20 = .ok (.if_icmp .lt 6, 3) := by decide +kernel
theorem dX6_addGlyph_23 : decode cX6_addGlyph 23 = .ok (.ldc 75, 2) := by decide +kernel
theorem dX6_addGlyph_25 : decode cX6_addGlyph 25 = .ok (.ireturn, 1) := by decide +kernel
theorem dX6_addGlyph_26 : decode cX6_addGlyph 26 = .ok (.aload_n 0, 1) := by decide +kernel
theorem dX6_addGlyph_27 : decode cX6_addGlyph 27 = .ok (.getfield 29, 3) := by decide +kernel
theorem dX6_addGlyph_30 : decode cX6_addGlyph 30 = .ok (.aload_n 0, 1) := by decide +kernel
theorem dX6_addGlyph_31 : decode cX6_addGlyph 31 = .ok (.getfield 117, 3) := by decide +kernel
theorem dX6_addGlyph_34 : decode cX6_addGlyph 34 = .ok (.aaload, 1) := by decide +kernel
theorem dX6_addGlyph_35 : decode cX6_addGlyph 35 = .ok (.iload_n 1, 1) := by decide +kernel
theorem dX6_addGlyph_36 : decode cX6_addGlyph 36 = .ok (.iload_n 2, 1) := by decide +kernel
theorem dX6_addGlyph_37 : decode cX6_addGlyph 37 = .ok (.invokevirtual 120, 3) := by decide +kernel
theorem dX6_addGlyph_40 : decode cX6_addGlyph 40 = .ok (.aload_n 0, 1) := by decide +kernel
theorem dX6_addGlyph_41 : decode cX6_addGlyph 41 = .ok (.dup, 1) := by decide +kernel
theorem dX6_addGlyph_42 : decode cX6_addGlyph 42 = .ok (.getfield 117, 3) := by decide +kernel
theorem dX6_addGlyph_45 : decode cX6_addGlyph 45 = .ok (.iconst 1, 1) := by decide +kernel
theorem dX6_addGlyph_46 : decode cX6_addGlyph 46 = .ok (.iadd, 1) := by decide +kernel
theorem dX6_addGlyph_47 : decode cX6_addGlyph 47 = .ok (.putfield 117, 3) := by decide +kernel
theorem dX6_addGlyph_50 : decode cX6_addGlyph 50 = .ok (.aload_n 0, 1) := by decide +kernel
theorem dX6_addGlyph_51 : decode cX6_addGlyph 51 = .ok (.getfield 117, 3) := by decide +kernel
theorem dX6_addGlyph_54 : decode cX6_addGlyph 54 = .ok (.iconst 1, 1) := by decide +kernel
theorem dX6_addGlyph_55 : decode cX6_addGlyph 55 = .ok (.isub, 1) := by decide +kernel
theorem dX6_addGlyph_56 : decode cX6_addGlyph 56 = .ok (.ireturn, 1) := by decide +kernel
theorem dX6_addPoint_0 : decode cX6_addPoint 0 = .ok (.aload_n 0, 1) := by decide +kernel
theorem dX6_addPoint_1 : decode cX6_addPoint 1 = .ok (.iload_n 1, 1) := by decide +kernel
theorem dX6_addPoint_2 : decode cX6_addPoint 2 = .ok (.invokevirtual 123, 3) := by decide +kernel
theorem dX6_addPoint_5 : decode cX6_addPoint 5 = .ok (.ifCond .ne 6, 3) := by decide +kernel
theorem dX6_addPoint_8 : decode cX6_addPoint 8 = .ok (.ldc 126, 2) := by decide +kernel
theorem dX6_addPoint_10 : decode cX6_addPoint 10 = .ok (.ireturn, 1) := by decide +kernel
theorem dX6_addPoint_11 : decode cX6_addPoint 11 = .ok (.iload_n 2, 1) := by decide +kernel
theorem dX6_addPoint_12 : decode cX6_addPoint 12 = .ok (.iload_n 3, 1) := by decide +kernel
theorem dX6_addPoint_13 : decode cX6_addPoint 13 = .ok (.invokestatic 127, 3) := by decide +kernel
theorem dX6_addPoint_16 : decode cX6_addPoint 16 = .ok (.ifCond .ne 6, 3) := by decide +kernel
theorem dX6_addPoint_19 : decode cX6_addPoint 19 = .ok (.ldc 70, 2) := by decide +kernel
theorem dX6_addPoint_21 : decode cX6_addPoint 21 = .ok (.ireturn, 1) := by decide +kernel
theorem dX6_addPoint_22 : decode cX6_addPoint 22 = .ok (.aload_n 0, 1) := by decide +kernel
theorem dX6_addPoint_23 : decode cX6_addPoint 23 = .ok (.getfield 29, 3) := by decide +kernel
theorem dX6_addPoint_26 : decode cX6_addPoint 26 = .ok (.iload_n 1, 1) := by decide +kernel
theorem dX6_addPoint_27 : decode cX6_addPoint 27 = .ok (.aaload, 1) := by decide +kernel
theorem dX6_addPoint_28 : decode cX6_addPoint 28 = .ok (.getfield 130, 3) := by decide +kernel
theorem dX6_addPoint_31 : decode cX6_addPoint 31 = .ok (.ifCond .ne 11, 3) := by decide +kernel
theorem dX6_addPoint_34 : decode cX6_addPoint 34 = .ok (.aload_n 0, 1) := by decide +kernel
theorem dX6_addPoint_35 : decode cX6_addPoint 35 = .ok (.iload_n 1, 1) := by decide +kernel
theorem dX6_addPoint_36 : decode cX6_addPoint 36 = .ok (.invokevirtual 133, 3) := by decide +kernel
theorem dX6_addPoint_39 : decode cX6_addPoint 39 = .ok (.ifCond .eq 6, 3) := by decide +kernel
theorem dX6_addPoint_42 : decode cX6_addPoint 42 = .ok (.ldc 107, 2) := by decide +kernel
theorem dX6_addPoint_44 : decode cX6_addPoint 44 = .ok (.ireturn, 1) := by decide +kernel
theorem dX6_addPoint_45 : decode cX6_addPoint 45 = .ok (.aload_n 0, 1) := by decide +kernel
theorem dX6_addPoint_46 : decode cX6_addPoint 46 = .ok (.getfield 29, 3) := by decide +kernel
theorem dX6_addPoint_49 : decode cX6_addPoint 49 = .ok (.iload_n 1, 1) := by decide +kernel
theorem dX6_addPoint_50 : decode cX6_addPoint 50 = .ok (.aaload, 1) := by decide +kernel
theorem dX6_addPoint_51 : decode cX6_addPoint 51 = .ok (.getfield 136, 3) := by decide +kernel
theorem dX6_addPoint_54 : decode cX6_addPoint 54 = .ok (.bipush 24, 2) := by decide +kernel
theorem dX6_addPoint_56 : decode cX6_addPoint 56 = .ok (.if_icmp .lt 6, 3) := by decide +kernel
theorem dX6_addPoint_59 : decode cX6_addPoint 59 = .ok (.ldc 75, 2) := by decide +kernel
theorem dX6_addPoint_61 : decode cX6_addPoint 61 = .ok (.ireturn, 1) := by decide +kernel
theorem dX6_addPoint_62 : decode cX6_addPoint 62 = .ok (.aload_n 0, 1) := by decide +kernel
theorem dX6_addPoint_63 : decode cX6_addPoint 63 = .ok (.getfield 29, 3) := by decide +kernel
theorem dX6_addPoint_66 : decode cX6_addPoint 66 = .ok (.iload_n 1, 1) := by decide +kernel
theorem dX6_addPoint_67 : decode cX6_addPoint 67 = .ok (.aaload, 1) := by decide +kernel
theorem dX6_addPoint_68 : decode cX6_addPoint 68 = .ok (.iload_n 2, 1) := by decide +kernel
theorem dX6_addPoint_69 : decode cX6_addPoint 69 = .ok (.iload_n 3, 1) := by decide +kernel
theorem dX6_addPoint_70 : decode cX6_addPoint 70 = .ok (.iload 4, 2) := by decide +kernel
theorem dX6_addPoint_72 : decode cX6_addPoint 72 = .ok (.invokevirtual 139, 3) := by decide +kernel
theorem dX6_addPoint_75 : decode cX6_addPoint 75 = .ok (.ireturn, 1) := by decide +kernel
theorem dX6_addComponent_0 : decode cX6_addComponent 0 = .ok (.aload_n 0, 1) := by decide +kernel
theorem dX6_addComponent_1 : decode cX6_addComponent 1 = .ok (.iload_n 1, 1) := by decide +kernel
theorem dX6_addComponent_2 : decode cX6_addComponent 2 = .ok (.invokevirtual 123, 3) := by decide +kernel
theorem dX6_addComponent_5 : decode cX6_addComponent 5 = .ok (.ifCond .eq 12, 3) := by decide +kernel
theorem dX6_addComponent_8 : decode cX6_addComponent 8 = .ok (.iload_n 2, 1) := by decide +kernel
theorem dX6_addComponent_9 : decode cX6_addComponent 9 = .ok (.ifCond .lt 8, 3) := by decide +kernel
theorem dX6_addComponent_12 : decode cX6_addComponent 12 = .ok (.iload_n 2, 1) := by decide +kernel
theorem dX6_addComponent_13 : decode cX6_addComponent 13 = .ok (.iload_n 1, 1) := by decide +kernel
theorem dX6_addComponent_14 : decode cX6_addComponent 14 = .ok (.if_icmp .lt 6, 3) := by decide +kernel
theorem dX6_addComponent_17 : decode cX6_addComponent 17 = .ok (.ldc 126, 2) := by decide +kernel
theorem dX6_addComponent_19 : decode cX6_addComponent 19 = .ok (.ireturn, 1) := by decide +kernel
theorem dX6_addComponent_20 : decode cX6_addComponent 20 = .ok (.iload_n 3, 1) := by decide +kernel
theorem dX6_addComponent_21 : decode cX6_addComponent 21 = .ok (.iload 4, 2) := by decide +kernel
theorem dX6_addComponent_23 : decode cX6_addComponent 23 = .ok (.invokestatic 127, 3) := by decide +kernel
theorem dX6_addComponent_26 : decode cX6_addComponent 26 = .ok (.ifCond .ne 6, 3) := by decide +kernel
theorem dX6_addComponent_29 : decode cX6_addComponent 29 = .ok (.ldc 70, 2) := by decide +kernel
theorem dX6_addComponent_31 : decode cX6_addComponent 31 = .ok (.ireturn, 1) := by decide +kernel
theorem dX6_addComponent_32 : decode cX6_addComponent 32 = .ok (.aload_n 0, 1) := by decide +kernel
theorem dX6_addComponent_33 : decode cX6_addComponent 33 = .ok (.getfield 29, 3) := by decide +kernel
theorem dX6_addComponent_36 : decode cX6_addComponent 36 = .ok (.iload_n 1, 1) := by decide +kernel
theorem dX6_addComponent_37 : decode cX6_addComponent 37 = .ok (.aaload, 1) := by decide +kernel
theorem dX6_addComponent_38 : decode cX6_addComponent 38 = .ok (.getfield 130, 3) := by decide +kernel
theorem dX6_addComponent_41 : decode cX6_addComponent 41 = .ok (.ifCond .eq 11, 3) := by decide +kernel
theorem dX6_addComponent_44 : decode cX6_addComponent 44 = .ok (.aload_n 0, 1) := by decide +kernel
theorem dX6_addComponent_45 : decode cX6_addComponent 45 = .ok (.iload_n 1, 1) := by decide +kernel
theorem dX6_addComponent_46 : decode cX6_addComponent 46 = .ok (.invokevirtual 133, 3) := by decide +kernel
theorem dX6_addComponent_49 : decode cX6_addComponent 49 = .ok (.ifCond .eq 6, 3) := by decide +kernel
theorem dX6_addComponent_52 : decode cX6_addComponent 52 = .ok (.ldc 107, 2) := by decide +kernel
theorem dX6_addComponent_54 : decode cX6_addComponent 54 = .ok (.ireturn, 1) := by decide +kernel
theorem dX6_addComponent_55 : decode cX6_addComponent 55 = .ok (.aload_n 0, 1) := by decide +kernel
theorem dX6_addComponent_56 : decode cX6_addComponent 56 = .ok (.iload_n 1, 1) := by decide +kernel
theorem dX6_addComponent_57 : decode cX6_addComponent 57 = .ok (.invokevirtual 143, 3) := by decide +kernel
theorem dX6_addComponent_60 : decode cX6_addComponent 60 = .ok (.getfield 147, 3) := by decide +kernel
theorem dX6_addComponent_63 : decode cX6_addComponent 63 = .ok (.istore 5, 2) := by decide +kernel
theorem dX6_addComponent_65 : decode cX6_addComponent 65 = .ok (.iload 5, 2) := by decide +kernel
theorem dX6_addComponent_67 : decode cX6_addComponent 67 = .ok (.aload_n 0, 1) := by decide +kernel
theorem dX6_addComponent_68 : decode cX6_addComponent 68 = .ok (.iload_n 2, 1) := by decide +kernel
theorem dX6_addComponent_69 : decode cX6_addComponent 69 = .ok (.invokevirtual 143, 3) := by decide +kernel
theorem dX6_addComponent_72 : decode cX6_addComponent 72 = .ok (.getfield 147, 3) := by decide +kernel
theorem dX6_addComponent_75 : decode cX6_addComponent 75 = .ok (.iadd, 1) := by decide +kernel
theorem dX6_addComponent_76 : decode cX6_addComponent 76 = .ok (.istore 5, 2) := by decide +kernel
theorem dX6_addComponent_78 : decode cX6_addComponent 78 = .ok (.aload_n 0, 1) := by decide +kernel
theorem dX6_addComponent_79 : decode cX6_addComponent 79 = .ok (.getfield 29, 3) := by decide +kernel
theorem dX6_addComponent_82 : decode cX6_addComponent 82 = .ok (.iload_n 1, 1) := by decide +kernel
theorem dX6_addComponent_83 : decode cX6_addComponent 83 = .ok (.aaload, 1) := by decide +kernel
theorem dX6_addComponent_84 : decode cX6_addComponent 84 = .ok (.getfield 136, 3) := by decide +kernel
theorem dX6_addComponent_87 : decode cX6_addComponent 87 = .ok (.iconst 4, 1) := by decide +kernel
theorem dX6_addComponent_88 : decode cX6_addComponent 88 = .ok (.if_icmp .ge 10, 3) := by decide +kernel
theorem dX6_addComponent_91 : decode cX6_addComponent 91 = .ok (.iload 5, 2) := by decide +kernel
theorem dX6_addComponent_93 : decode cX6_addComponent 93 = .ok (.bipush 96, 2) := by decide +kernel
theorem dX6_addComponent_95 : decode cX6_addComponent 95 = .ok (.if_icmp .le 6, 3) := by decide +kernel
theorem dX6_addComponent_98 : decode cX6_addComponent 98 = .ok (.ldc 75, 2) := by decide +kernel
theorem dX6_addComponent_100 : decode cX6_addComponent 100 = .ok (.ireturn, 1) := by decide +kernel
theorem dX6_addComponent_101 : decode cX6_addComponent 101 = .ok (.aload_n 0, 1) := by decide +kernel
theorem dX6_addComponent_102 : decode cX6_addComponent 102 = .ok (.getfield 29, 3) := by decide +kernel
theorem dX6_addComponent_105 : decode cX6_addComponent 105 = .ok (.iload_n 1, 1) := by decide +kernel
theorem dX6_addComponent_106 : decode cX6_addComponent 106 = .ok (.aaload, 1) := by decide +kernel
theorem dX6_addComponent_107 : decode cX6_addComponent 107 = .ok (.iload_n 2, 1) := by decide +kernel
theorem dX6_addComponent_108 : decode cX6_addComponent 108 = .ok (.iload_n 3, 1) := by decide +kernel
theorem dX6_addComponent_109 : decode cX6_addComponent 109 = .ok (.iload 4, 2) := by decide +kernel
theorem dX6_addComponent_111 : decode cX6_addComponent 111 = .ok (.invokevirtual 150, 3) := by decide +kernel
theorem dX6_addComponent_114 : decode cX6_addComponent 114 = .ok (.ireturn, 1) := by decide +kernel
theorem dX6_glyphValue_0 : decode cX6_glyphValue 0 = .ok (.aload_n 0, 1) := by decide +kernel
theorem dX6_glyphValue_1 : decode cX6_glyphValue 1 = .ok (.iload_n 1, 1) := by decide +kernel
theorem dX6_glyphValue_2 : decode cX6_glyphValue 2 = .ok (.invokevirtual 123, 3) := by decide +kernel
theorem dX6_glyphValue_5 : decode cX6_glyphValue 5 = .ok (.ifCond .ne 6, 3) := by decide +kernel
theorem dX6_glyphValue_8 : decode cX6_glyphValue 8 = .ok (.ldc 126, 2) := by decide +kernel
theorem dX6_glyphValue_10 : decode cX6_glyphValue 10 = .ok (.ireturn, 1) := by decide +kernel
theorem dX6_glyphValue_11 : decode cX6_glyphValue 11 = .ok (.aload_n 0, 1) := by decide +kernel
theorem dX6_glyphValue_12 : decode cX6_glyphValue 12 = .ok (.getfield 29, 3) := by decide +kernel
theorem dX6_glyphValue_15 : decode cX6_glyphValue 15 = .ok (.iload_n 1, 1) := by decide +kernel
theorem dX6_glyphValue_16 : decode cX6_glyphValue 16 = .ok (.aaload, 1) := by decide +kernel
theorem dX6_glyphValue_17 : decode cX6_glyphValue 17 = .ok (.astore_n 3, 1) := by decide +kernel
theorem dX6_glyphValue_18 : decode cX6_glyphValue 18 = .ok (.iload_n 2, 1) := by decide +kernel
theorem dX6_glyphValue_19 : decode cX6_glyphValue 19 = .ok (.tableswitch 85 0 5 #[37, 50, 55, 64, 73, 78], 37) := by decide +kernel
theorem dX6_glyphValue_56 : decode cX6_glyphValue 56 = .ok (.aload_n 3, 1) := by decide +kernel
theorem dX6_glyphValue_57 : decode cX6_glyphValue 57 = .ok (.getfield 130, 3) := by decide +kernel
theorem dX6_glyphValue_60 : decode cX6_glyphValue 60 = .ok (.ifCond .eq 7, 3) := by decide +kernel
theorem dX6_glyphValue_63 : decode cX6_glyphValue 63 = .ok (.iconst 1, 1) := by decide +kernel
theorem dX6_glyphValue_64 : decode cX6_glyphValue 64 = .ok (.goto 4, 3) := by decide +kernel
theorem dX6_glyphValue_67 : decode cX6_glyphValue 67 = .ok (.iconst 0, 1) := by decide +kernel
theorem dX6_glyphValue_68 : decode cX6_glyphValue 68 = .ok (.ireturn, 1) := by decide +kernel
theorem dX6_glyphValue_69 : decode cX6_glyphValue 69 = .ok (.aload_n 3, 1) := by decide +kernel
theorem dX6_glyphValue_70 : decode cX6_glyphValue 70 = .ok (.getfield 136, 3) := by decide +kernel
theorem dX6_glyphValue_73 : decode cX6_glyphValue 73 = .ok (.ireturn, 1) := by decide +kernel
theorem dX6_glyphValue_74 : decode cX6_glyphValue 74 = .ok (.aload_n 0, 1) := by decide +kernel
theorem dX6_glyphValue_75 : decode cX6_glyphValue 75 = .ok (.iload_n 1, 1) := by decide +kernel
theorem dX6_glyphValue_76 : decode cX6_glyphValue 76 = .ok (.invokevirtual 143, 3) := by decide +kernel
theorem dX6_glyphValue_79 : decode cX6_glyphValue 79 = .ok (.getfield 154, 3) := by decide +kernel
theorem dX6_glyphValue_82 : decode cX6_glyphValue 82 = .ok (.ireturn, 1) := by decide +kernel
theorem dX6_glyphValue_83 : decode cX6_glyphValue 83 = .ok (.aload_n 0, 1) := by decide +kernel
theorem dX6_glyphValue_84 : decode cX6_glyphValue 84 = .ok (.iload_n 1, 1) := by decide +kernel
theorem dX6_glyphValue_85 : decode cX6_glyphValue 85 = .ok (.invokevirtual 143, 3) := by decide +kernel
theorem dX6_glyphValue_88 : decode cX6_glyphValue 88 = .ok (.getfield 147, 3) := by decide +kernel
theorem dX6_glyphValue_91 : decode cX6_glyphValue 91 = .ok (.ireturn, 1) := by decide +kernel
theorem dX6_glyphValue_92 : decode cX6_glyphValue 92 = .ok (.aload_n 3, 1) := by decide +kernel
theorem dX6_glyphValue_93 : decode cX6_glyphValue 93 = .ok (.getfield 157, 3) := by decide +kernel
theorem dX6_glyphValue_96 : decode cX6_glyphValue 96 = .ok (.ireturn, 1) := by decide +kernel
theorem dX6_glyphValue_97 : decode cX6_glyphValue 97 = .ok (.aload_n 3, 1) := by decide +kernel
theorem dX6_glyphValue_98 : decode cX6_glyphValue 98 = .ok (.getfield 160, 3) := by decide +kernel
theorem dX6_glyphValue_101 : decode cX6_glyphValue 101 = .ok (.iconst 0, 1) := by decide +kernel
theorem dX6_glyphValue_102 : decode cX6_glyphValue 102 = .ok (.iaload, 1) := by decide +kernel
theorem dX6_glyphValue_103 : decode cX6_glyphValue 103 = .ok (.ireturn, 1) := by decide +kernel
theorem dX6_glyphValue_104 : decode cX6_glyphValue 104 = .ok (.ldc 70, 2) := by decide +kernel
theorem dX6_glyphValue_106 : decode cX6_glyphValue 106 = .ok (.ireturn, 1) := by decide +kernel
theorem dX6_addTuple_0 : decode cX6_addTuple 0 = .ok (.aload_n 0, 1) := by decide +kernel
theorem dX6_addTuple_1 : decode cX6_addTuple 1 = .ok (.iload_n 1, 1) := by decide +kernel
theorem dX6_addTuple_2 : decode cX6_addTuple 2 = .ok (.invokevirtual 123, 3) := by decide +kernel
theorem dX6_addTuple_5 : decode cX6_addTuple 5 = .ok (.ifCond .ne 6, 3) := by decide +kernel
theorem dX6_addTuple_8 : decode cX6_addTuple 8 = .ok (.ldc 126, 2) := by decide +kernel
theorem dX6_addTuple_10 : decode cX6_addTuple 10 = .ok (.ireturn, 1) := by decide +kernel
theorem dX6_addTuple_11 : decode cX6_addTuple 11 = .ok (.aload_n 0, 1) := by decide +kernel
theorem dX6_addTuple_12 : decode cX6_addTuple 12 = .ok (.getfield 29, 3) := by decide +kernel
theorem dX6_addTuple_15 : decode cX6_addTuple 15 = .ok (.iload_n 1, 1) := by decide +kernel
theorem dX6_addTuple_16 : decode cX6_addTuple 16 = .ok (.aaload, 1) := by decide +kernel
theorem dX6_addTuple_17 : decode cX6_addTuple 17 = .ok (.astore_n 2, 1) := by decide +kernel
theorem dX6_addTuple_18 : decode cX6_addTuple 18 = .ok (.aload_n 2, 1) := by decide +kernel
theorem dX6_addTuple_19 : decode cX6_addTuple 19 = .ok (.getfield 157, 3) := by decide +kernel
theorem dX6_addTuple_22 : decode cX6_addTuple 22 = .ok (.iconst 5, 1) := by decide +kernel
theorem dX6_addTuple_23 : decode cX6_addTuple 23 = .ok (.if_icmp .lt 6, 3) := by decide +kernel
theorem dX6_addTuple_26 : decode cX6_addTuple 26 = .ok (.ldc 75, 2) := by decide +kernel
theorem dX6_addTuple_28 : decode cX6_addTuple 28 = .ok (.ireturn, 1) := by decide +kernel
theorem dX6_addTuple_29 : decode cX6_addTuple 29 = .ok (.aload_n 2, 1) := by decide +kernel
theorem dX6_addTuple_30 : decode cX6_addTuple 30 = .ok (.getfield 163, 3) := by decide +kernel
theorem dX6_addTuple_33 : decode cX6_addTuple 33 = .ok (.aload_n 2, 1) := by decide +kernel
theorem dX6_addTuple_34 : decode cX6_addTuple 34 = .ok (.getfield 157, 3) := by decide +kernel
theorem dX6_addTuple_37 : decode cX6_addTuple 37 = .ok (.aaload, 1) := by decide +kernel
theorem dX6_addTuple_38 : decode cX6_addTuple 38 = .ok (.invokevirtual 167, 3) := by decide +kernel
theorem dX6_addTuple_41 : decode cX6_addTuple 41 = .ok (.aload_n 2, 1) := by decide +kernel
theorem dX6_addTuple_42 : decode cX6_addTuple 42 = .ok (.dup, 1) := by decide +kernel
theorem dX6_addTuple_43 : decode cX6_addTuple 43 = .ok (.getfield 157, 3) := by decide +kernel
theorem dX6_addTuple_46 : decode cX6_addTuple 46 = .ok (.iconst 1, 1) := by decide +kernel
theorem dX6_addTuple_47 : decode cX6_addTuple 47 = .ok (.iadd, 1) := by decide +kernel
theorem dX6_addTuple_48 : decode cX6_addTuple 48 = .ok (.putfield 157, 3) := by decide +kernel
theorem dX6_addTuple_51 : decode cX6_addTuple 51 = .ok (.aload_n 2, 1) := by decide +kernel
theorem dX6_addTuple_52 : decode cX6_addTuple 52 = .ok (.getfield 157, 3) := by decide +kernel
theorem dX6_addTuple_55 : decode cX6_addTuple 55 = .ok (.iconst 1, 1) := by decide +kernel
theorem dX6_addTuple_56 : decode cX6_addTuple 56 = .ok (.isub, 1) := by decide +kernel
theorem dX6_addTuple_57 : decode cX6_addTuple 57 = .ok (.ireturn, 1) := by decide +kernel
theorem dX6_setRegion_0 : decode cX6_setRegion 0 = .ok (.aload_n 0, 1) := by decide +kernel
theorem dX6_setRegion_1 : decode cX6_setRegion 1 = .ok (.iload_n 1, 1) := by decide +kernel
theorem dX6_setRegion_2 : decode cX6_setRegion 2 = .ok (.iload_n 2, 1) := by decide +kernel
theorem dX6_setRegion_3 : decode cX6_setRegion 3 = .ok (.invokevirtual 171, 3) := by decide +kernel
theorem dX6_setRegion_6 : decode cX6_setRegion 6 = .ok (.istore 7, 2) := by decide +kernel
theorem dX6_setRegion_8 : decode cX6_setRegion 8 = .ok (.iload 7, 2) := by decide +kernel
theorem dX6_setRegion_10 : decode cX6_setRegion 10 = .ok (.ifCond .eq 6, 3) := by decide +kernel
theorem dX6_setRegion_13 : decode cX6_setRegion 13 = .ok (.iload 7, 2) := by decide +kernel
theorem dX6_setRegion_15 : decode cX6_setRegion 15 = .ok (.ireturn, 1) := by decide +kernel
theorem dX6_setRegion_16 : decode cX6_setRegion 16 = .ok (.aload_n 0, 1) := by decide +kernel
theorem dX6_setRegion_17 : decode cX6_setRegion 17 = .ok (.iload_n 3, 1) := by decide +kernel
theorem dX6_setRegion_18 : decode cX6_setRegion 18 = .ok (.invokevirtual 80, 3) := by decide +kernel
theorem dX6_setRegion_21 : decode cX6_setRegion 21 = .ok (.ifCond .ne 6, 3) := by decide +kernel
theorem dX6_setRegion_24 : decode cX6_setRegion 24 = .ok (.ldc 84, 2) := by decide +kernel
theorem dX6_setRegion_26 : decode cX6_setRegion 26 = .ok (.ireturn, 1) := by decide +kernel
theorem dX6_setRegion_27 : decode cX6_setRegion 27 = .ok (.iload 5, 2) := by decide +kernel
theorem dX6_setRegion_29 : decode cX6_setRegion 29 = .ok (.sipush (-16384), 3) := by decide +kernel
theorem dX6_setRegion_32 : decode cX6_setRegion 32 = .ok (.sipush 16384, 3) := by decide +kernel
theorem dX6_setRegion_35 : decode cX6_setRegion 35 = .ok (.invokestatic 66, 3) := by decide +kernel
theorem dX6_setRegion_38 : decode cX6_setRegion 38 = .ok (.ifCond .eq 44, 3) := by decide +kernel
theorem dX6_setRegion_41 : decode cX6_setRegion 41 = .ok (.iload 4, 2) := by decide +kernel
theorem dX6_setRegion_43 : decode cX6_setRegion 43 = .ok (.sipush (-16384), 3) := by decide +kernel
theorem dX6_setRegion_46 : decode cX6_setRegion 46 = .ok (.iload 5, 2) := by decide +kernel
theorem dX6_setRegion_48 : decode cX6_setRegion 48 = .ok (.invokestatic 66, 3) := by decide +kernel
theorem dX6_setRegion_51 : decode cX6_setRegion 51 = .ok (.ifCond .eq 31, 3) := by decide +kernel
theorem dX6_setRegion_54 : decode cX6_setRegion 54 = .ok (.iload 6, 2) := by decide +kernel
theorem dX6_setRegion_56 : decode cX6_setRegion 56 = .ok (.iload 5, 2) := by decide +kernel
theorem dX6_setRegion_58 : decode cX6_setRegion 58 = .ok (.sipush 16384, 3) := by decide +kernel
theorem dX6_setRegion_61 : decode cX6_setRegion 61 = .ok (.invokestatic 66, 3) := by decide +kernel
theorem dX6_setRegion_64 : decode cX6_setRegion 64 = .ok (.ifCond .eq 18, 3) := by decide +kernel
theorem dX6_setRegion_67 : decode cX6_setRegion 67 = .ok (.iload 5, 2) := by decide +kernel
theorem dX6_setRegion_69 : decode cX6_setRegion 69 = .ok (.ifCond .eq 16, 3) := by decide +kernel
theorem dX6_setRegion_72 : decode cX6_setRegion 72 = .ok (.iload 4, 2) := by decide +kernel
theorem dX6_setRegion_74 : decode cX6_setRegion 74 = .ok (.ifCond .ge 11, 3) := by decide +kernel
theorem dX6_setRegion_77 : decode cX6_setRegion 77 = .ok (.iload 6, 2) := by decide +kernel
theorem dX6_setRegion_79 : decode cX6_setRegion 79 = .ok (.ifCond .le 6, 3) := by decide +kernel
theorem dX6_setRegion_82 : decode cX6_setRegion 82 = .ok (.ldc 70, 2) := by decide +kernel
theorem dX6_setRegion_84 : decode cX6_setRegion 84 = .ok (.ireturn, 1) := by decide +kernel
theorem dX6_setRegion_85 : decode cX6_setRegion 85 = .ok (.aload_n 0, 1) := by decide +kernel
theorem dX6_setRegion_86 : decode cX6_setRegion 86 = .ok (.getfield 29, 3) := by decide +kernel
theorem dX6_setRegion_89 : decode cX6_setRegion 89 = .ok (.iload_n 1, 1) := by decide +kernel
theorem dX6_setRegion_90 : decode cX6_setRegion 90 = .ok (.aaload, 1) := by decide +kernel
theorem dX6_setRegion_91 : decode cX6_setRegion 91 = .ok (.getfield 163, 3) := by decide +kernel
theorem dX6_setRegion_94 : decode cX6_setRegion 94 = .ok (.iload_n 2, 1) := by decide +kernel
theorem dX6_setRegion_95 : decode cX6_setRegion 95 = .ok (.aaload, 1) := by decide +kernel
theorem dX6_setRegion_96 : decode cX6_setRegion 96 = .ok (.iload_n 3, 1) := by decide +kernel
theorem dX6_setRegion_97 : decode cX6_setRegion 97 = .ok (.iload 4, 2) := by decide +kernel
theorem dX6_setRegion_99 : decode cX6_setRegion 99 = .ok (.iload 5, 2) := by decide +kernel
theorem dX6_setRegion_101 : decode cX6_setRegion 101 = .ok (.iload 6, 2) := by decide +kernel
theorem dX6_setRegion_103 : decode cX6_setRegion 103 = .ok (.invokevirtual 175, 3) := by decide +kernel
theorem dX6_setRegion_106 : decode cX6_setRegion 106 = .ok (.ifCond .eq 7, 3) := by decide +kernel
theorem dX6_setRegion_109 : decode cX6_setRegion 109 = .ok (.iconst 1, 1) := by decide +kernel
theorem dX6_setRegion_110 : decode cX6_setRegion 110 = .ok (.goto 4, 3) := by decide +kernel
theorem dX6_setRegion_113 : decode cX6_setRegion 113 = .ok (.iconst 0, 1) := by decide +kernel
theorem dX6_setRegion_114 : decode cX6_setRegion 114 = .ok (.ireturn, 1) := by decide +kernel
theorem dX6_touch_0 : decode cX6_touch 0 = .ok (.aload_n 0, 1) := by decide +kernel
theorem dX6_touch_1 : decode cX6_touch 1 = .ok (.iload_n 1, 1) := by decide +kernel
theorem dX6_touch_2 : decode cX6_touch 2 = .ok (.iload_n 2, 1) := by decide +kernel
theorem dX6_touch_3 : decode cX6_touch 3 = .ok (.iload_n 3, 1) := by decide +kernel
theorem dX6_touch_4 : decode cX6_touch 4 = .ok (.invokevirtual 179, 3) := by decide +kernel
theorem dX6_touch_7 : decode cX6_touch 7 = .ok (.istore 6, 2) := by decide +kernel
theorem dX6_touch_9 : decode cX6_touch 9 = .ok (.iload 6, 2) := by decide +kernel
theorem dX6_touch_11 : decode cX6_touch 11 = .ok (.ifCond .eq 6, 3) := by decide +kernel
theorem dX6_touch_14 : decode cX6_touch 14 = .ok (.iload 6, 2) := by decide +kernel
theorem dX6_touch_16 : decode cX6_touch 16 = .ok (.ireturn, 1) := by decide +kernel
theorem dX6_touch_17 : decode cX6_touch 17 = .ok (.iload_n 3, 1) := by decide +kernel
theorem dX6_touch_18 : decode cX6_touch 18 = .ok (.iconst 1, 1) := by decide +kernel
theorem dX6_touch_19 : decode cX6_touch 19 = .ok (.iadd, 1) := by decide +kernel
theorem dX6_touch_20 : decode cX6_touch 20 = .ok (.ifCond .ne 7, 3) := by decide +kernel
theorem dX6_touch_23 : decode cX6_touch 23 = .ok (.iconst 0, 1) := by decide +kernel
theorem dX6_touch_24 : decode cX6_touch 24 = .ok (.goto 6, 3) := by decide +kernel
theorem dX6_touch_27 : decode cX6_touch 27 = .ok (.sipush 2000, 3) := by decide +kernel
theorem dX6_touch_30 : decode cX6_touch 30 = .ok (.istore 7, 2) := by decide +kernel
theorem dX6_touch_32 : decode cX6_touch 32 = .ok (.iload 4, 2) := by decide +kernel
theorem dX6_touch_34 : decode cX6_touch 34 = .ok (.sipush (-2000), 3) := by decide +kernel
theorem dX6_touch_37 : decode cX6_touch 37 = .ok (.sipush 2000, 3) := by decide +kernel
theorem dX6_touch_40 : decode cX6_touch 40 = .ok (.invokestatic 66, 3) := by decide +kernel
theorem dX6_touch_43 : decode cX6_touch 43 = .ok (.ifCond .eq 16, 3) := by decide +kernel
theorem dX6_touch_46 : decode cX6_touch 46 = .ok (.iload 5, 2) := by decide +kernel
theorem dX6_touch_48 : decode cX6_touch 48 = .ok (.iload 7, 2) := by decide +kernel
theorem dX6_touch_50 : decode cX6_touch 50 = .ok (.ineg, 1) := by decide +kernel
theorem dX6_touch_51 : decode cX6_touch 51 = .ok (.iload 7, 2) := by decide +kernel
theorem dX6_touch_53 : decode cX6_touch 53 = .ok (.invokestatic 66, 3) := by decide +kernel
theorem dX6_touch_56 : decode cX6_touch 56 = .ok (.ifCond .ne 6, 3) := by decide +kernel
theorem dX6_touch_59 : decode cX6_touch 59 = .ok (.ldc 70, 2) := by decide +kernel
theorem dX6_touch_61 : decode cX6_touch 61 = .ok (.ireturn, 1) := by decide +kernel
theorem dX6_touch_62 : decode cX6_touch 62 = .ok (.aload_n 0, 1) := by decide +kernel
theorem dX6_touch_63 : decode cX6_touch 63 = .ok (.getfield 29, 3) := by decide +kernel
theorem dX6_touch_66 : decode cX6_touch 66 = .ok (.iload_n 1, 1) := by decide +kernel
theorem dX6_touch_67 : decode cX6_touch 67 = .ok (.aaload, 1) := by decide +kernel
theorem dX6_touch_68 : decode cX6_touch 68 = .ok (.getfield 163, 3) := by decide +kernel
theorem dX6_touch_71 : decode cX6_touch 71 = .ok (.iload_n 2, 1) := by decide +kernel
theorem dX6_touch_72 : decode cX6_touch 72 = .ok (.aaload, 1) := by decide +kernel
theorem dX6_touch_73 : decode cX6_touch 73 = .ok (.astore 8, 2) := by decide +kernel
theorem dX6_touch_75 : decode cX6_touch 75 = .ok (.aload 8, 2) := by decide +kernel
theorem dX6_touch_77 : decode cX6_touch 77 = .ok (.iload_n 3, 1) := by decide +kernel
theorem dX6_touch_78 : decode cX6_touch 78 = .ok (.iconst 1, 1) := by decide +kernel
theorem dX6_touch_79 : decode cX6_touch 79 = .ok (.iadd, 1) := by decide +kernel
theorem dX6_touch_80 : decode cX6_touch 80 = .ok (.invokevirtual 182, 3) := by decide +kernel
theorem dX6_touch_83 : decode cX6_touch 83 = .ok (.istore 9, 2) := by decide +kernel
theorem dX6_touch_85 : decode cX6_touch 85 = .ok (.aload 8, 2) := by decide +kernel
theorem dX6_touch_87 : decode cX6_touch 87 = .ok (.iload_n 3, 1) := by decide +kernel
theorem dX6_touch_88 : decode cX6_touch 88 = .ok (.iconst 1, 1) := by decide +kernel
theorem dX6_touch_89 : decode cX6_touch 89 = .ok (.iadd, 1) := by decide +kernel
theorem dX6_touch_90 : decode cX6_touch 90 = .ok (.iload 4, 2) := by decide +kernel
theorem dX6_touch_92 : decode cX6_touch 92 = .ok (.iload 5, 2) := by decide +kernel
theorem dX6_touch_94 : decode cX6_touch 94 = .ok (.invokevirtual 185, 3) := by decide +kernel
theorem dX6_touch_97 : decode cX6_touch 97 = .ok (.iload 9, 2) := by decide +kernel
theorem dX6_touch_99 : decode cX6_touch 99 = .ok (.ifCond .eq 7, 3) := by decide +kernel
theorem dX6_touch_102 : decode cX6_touch 102 = .ok (.iconst 0, 1) := by decide +kernel
theorem dX6_touch_103 : decode cX6_touch 103 = .ok (.goto 4, 3) := by decide +kernel
theorem dX6_touch_106 : decode cX6_touch 106 = .ok (.iconst 1, 1) := by decide +kernel
theorem dX6_touch_107 : decode cX6_touch 107 = .ok (.ireturn, 1) := by decide +kernel
theorem dX6_release_0 : decode cX6_release 0 = .ok (.aload_n 0, 1) := by decide +kernel
theorem dX6_release_1 : decode cX6_release 1 = .ok (.iload_n 1, 1) := by decide +kernel
theorem dX6_release_2 : decode cX6_release 2 = .ok (.iload_n 2, 1) := by decide +kernel
theorem dX6_release_3 : decode cX6_release 3 = .ok (.iload_n 3, 1) := by decide +kernel
theorem dX6_release_4 : decode cX6_release 4 = .ok (.invokevirtual 179, 3) := by decide +kernel
theorem dX6_release_7 : decode cX6_release 7 = .ok (.istore 4, 2) := by decide +kernel
theorem dX6_release_9 : decode cX6_release 9 = .ok (.iload 4, 2) := by decide +kernel
theorem dX6_release_11 : decode cX6_release 11 = .ok (.ifCond .eq 6, 3) := by decide +kernel
theorem dX6_release_14 : decode cX6_release 14 = .ok (.iload 4, 2) := by decide +kernel
theorem dX6_release_16 : decode cX6_release 16 = .ok (.ireturn, 1) := by decide +kernel
theorem dX6_release_17 : decode cX6_release 17 = .ok (.aload_n 0, 1) := by decide +kernel
theorem dX6_release_18 : decode cX6_release 18 = .ok (.getfield 29, 3) := by decide +kernel
theorem dX6_release_21 : decode cX6_release 21 = .ok (.iload_n 1, 1) := by decide +kernel
theorem dX6_release_22 : decode cX6_release 22 = .ok (.aaload, 1) := by decide +kernel
theorem dX6_release_23 : decode cX6_release 23 = .ok (.getfield 163, 3) := by decide +kernel
theorem dX6_release_26 : decode cX6_release 26 = .ok (.iload_n 2, 1) := by decide +kernel
theorem dX6_release_27 : decode cX6_release 27 = .ok (.aaload, 1) := by decide +kernel
theorem dX6_release_28 : decode cX6_release 28 = .ok (.astore 5, 2) := by decide +kernel
theorem dX6_release_30 : decode cX6_release 30 = .ok (.aload 5, 2) := by decide +kernel
theorem dX6_release_32 : decode cX6_release 32 = .ok (.iload_n 3, 1) := by decide +kernel
theorem dX6_release_33 : decode cX6_release 33 = .ok (.iconst 1, 1) := by decide +kernel
theorem dX6_release_34 : decode cX6_release 34 = .ok (.iadd, 1) := by decide +kernel
theorem dX6_release_35 : decode cX6_release 35 = .ok (.invokevirtual 182, 3) := by decide +kernel
theorem dX6_release_38 : decode cX6_release 38 = .ok (.istore 6, 2) := by decide +kernel
theorem dX6_release_40 : decode cX6_release 40 = .ok (.aload 5, 2) := by decide +kernel
theorem dX6_release_42 : decode cX6_release 42 = .ok (.iload_n 3, 1) := by decide +kernel
theorem dX6_release_43 : decode cX6_release 43 = .ok (.iconst 1, 1) := by decide +kernel
theorem dX6_release_44 : decode cX6_release 44 = .ok (.iadd, 1) := by decide +kernel
theorem dX6_release_45 : decode cX6_release 45 = .ok (.invokevirtual 188, 3) := by decide +kernel
theorem dX6_release_48 : decode cX6_release 48 = .ok (.iload 6, 2) := by decide +kernel
theorem dX6_release_50 : decode cX6_release 50 = .ok (.ifCond .eq 7, 3) := by decide +kernel
theorem dX6_release_53 : decode cX6_release 53 = .ok (.iconst 1, 1) := by decide +kernel
theorem dX6_release_54 : decode cX6_release 54 = .ok (.goto 4, 3) := by decide +kernel
theorem dX6_release_57 : decode cX6_release 57 = .ok (.iconst 0, 1) := by decide +kernel
theorem dX6_release_58 : decode cX6_release 58 = .ok (.ireturn, 1) := by decide +kernel
theorem dX6_delta_0 : decode cX6_delta 0 = .ok (.aload_n 0, 1) := by decide +kernel
theorem dX6_delta_1 : decode cX6_delta 1 = .ok (.iload_n 1, 1) := by decide +kernel
theorem dX6_delta_2 : decode cX6_delta 2 = .ok (.iload_n 2, 1) := by decide +kernel
theorem dX6_delta_3 : decode cX6_delta 3 = .ok (.iload_n 3, 1) := by decide +kernel
theorem dX6_delta_4 : decode cX6_delta 4 = .ok (.invokevirtual 179, 3) := by decide +kernel
theorem dX6_delta_7 : decode cX6_delta 7 = .ok (.istore 5, 2) := by decide +kernel
theorem dX6_delta_9 : decode cX6_delta 9 = .ok (.iload 5, 2) := by decide +kernel
theorem dX6_delta_11 : decode cX6_delta 11 = .ok (.ifCond .eq 6, 3) := by decide +kernel
theorem dX6_delta_14 : decode cX6_delta 14 = .ok (.iload 5, 2) := by decide +kernel
theorem dX6_delta_16 : decode cX6_delta 16 = .ok (.ireturn, 1) := by decide +kernel
theorem dX6_delta_17 : decode cX6_delta 17 = .ok (.aload_n 0, 1) := by decide +kernel
theorem dX6_delta_18 : decode cX6_delta 18 = .ok (.getfield 29, 3) := by decide +kernel
theorem dX6_delta_21 : decode cX6_delta 21 = .ok (.iload_n 1, 1) := by decide +kernel
theorem dX6_delta_22 : decode cX6_delta 22 = .ok (.aaload, 1) := by decide +kernel
theorem dX6_delta_23 : decode cX6_delta 23 = .ok (.astore 6, 2) := by decide +kernel
theorem dX6_delta_25 : decode cX6_delta 25 = .ok (.aload 6, 2) := by decide +kernel
theorem dX6_delta_27 : decode cX6_delta 27 = .ok (.aload 6, 2) := by decide +kernel
theorem dX6_delta_29 : decode cX6_delta 29 = .ok (.getfield 163, 3) := by decide +kernel
theorem dX6_delta_32 : decode cX6_delta 32 = .ok (.iload_n 2, 1) := by decide +kernel
theorem dX6_delta_33 : decode cX6_delta 33 = .ok (.aaload, 1) := by decide +kernel
theorem dX6_delta_34 : decode cX6_delta 34 = .ok (.iload_n 3, 1) := by decide +kernel
theorem dX6_delta_35 : decode cX6_delta 35 = .ok (.iconst 1, 1) := by decide +kernel
theorem dX6_delta_36 : decode cX6_delta 36 = .ok (.iadd, 1) := by decide +kernel
theorem dX6_delta_37 : decode cX6_delta 37 = .ok (.iload 4, 2) := by decide +kernel
theorem dX6_delta_39 : decode cX6_delta 39 = .ok (.invokevirtual 192, 3) := by decide +kernel
theorem dX6_delta_42 : decode cX6_delta 42 = .ok (.ireturn, 1) := by decide +kernel
theorem dX6_touchedCount_0 : decode cX6_touchedCount 0 = .ok (.aload_n 0, 1) := by decide +kernel
theorem dX6_touchedCount_1 : decode cX6_touchedCount 1 = .ok (.iload_n 1, 1) := by decide +kernel
theorem dX6_touchedCount_2 : decode cX6_touchedCount 2 = .ok (.iload_n 2, 1) := by decide +kernel
theorem dX6_touchedCount_3 : decode cX6_touchedCount 3 = .ok (.invokevirtual 171, 3) := by decide +kernel
theorem dX6_touchedCount_6 : decode cX6_touchedCount 6 = .ok (.istore_n 3, 1) := by decide +kernel
theorem dX6_touchedCount_7 : decode cX6_touchedCount 7 = .ok (.iload_n 3, 1) := by decide +kernel
theorem dX6_touchedCount_8 : decode cX6_touchedCount 8 = .ok (.ifCond .eq 7, 3) := by decide +kernel
theorem dX6_touchedCount_11 : decode cX6_touchedCount 11 = .ok (.iload_n 3, 1) := by decide +kernel
theorem dX6_touchedCount_12 : decode cX6_touchedCount 12 = .ok (.goto 20, 3) := by decide +kernel
theorem dX6_touchedCount_15 : decode cX6_touchedCount 15 = .ok (.aload_n 0, 1) := by decide +kernel
theorem dX6_touchedCount_16 : decode cX6_touchedCount 16 = .ok (.getfield 29, 3) := by decide +kernel
theorem dX6_touchedCount_19 : decode cX6_touchedCount 19 = .ok (.iload_n 1, 1) := by decide +kernel
theorem dX6_touchedCount_20 : decode cX6_touchedCount 20 = .ok (.aaload, 1) := by decide +kernel
theorem dX6_touchedCount_21 : decode cX6_touchedCount 21 = .ok (.getfield 163, 3) := by decide +kernel
theorem dX6_touchedCount_24 : decode cX6_touchedCount 24 = .ok (.iload_n 2, 1) := by decide +kernel
theorem dX6_touchedCount_25 : decode cX6_touchedCount 25 = .ok (.aaload, 1) := by decide +kernel
theorem dX6_touchedCount_26 : decode cX6_touchedCount 26 = .ok (.getfield 196, 3) := by decide +kernel
theorem dX6_touchedCount_29 : decode cX6_touchedCount 29 = .ok (.invokestatic 199, 3) := by decide +kernel
theorem dX6_touchedCount_32 : decode cX6_touchedCount 32 = .ok (.ireturn, 1) := by decide +kernel
theorem dX6_scalar_0 : decode cX6_scalar 0 = .ok (.aload_n 0, 1) := by decide +kernel
theorem dX6_scalar_1 : decode cX6_scalar 1 = .ok (.iload_n 1, 1) := by decide +kernel
theorem dX6_scalar_2 : decode cX6_scalar 2 = .ok (.iload_n 2, 1) := by decide +kernel
theorem dX6_scalar_3 : decode cX6_scalar 3 = .ok (.invokevirtual 171, 3) := by decide +kernel
theorem dX6_scalar_6 : decode cX6_scalar 6 = .ok (.istore_n 3, 1) := by decide +kernel
theorem dX6_scalar_7 : decode cX6_scalar 7 = .ok (.iload_n 3, 1) := by decide +kernel
theorem dX6_scalar_8 : decode cX6_scalar 8 = .ok (.ifCond .eq 7, 3) := by decide +kernel
theorem dX6_scalar_11 : decode cX6_scalar 11 = .ok (.iload_n 3, 1) := by decide +kernel
theorem dX6_scalar_12 : decode cX6_scalar 12 = .ok (.goto 21, 3) := by decide +kernel
theorem dX6_scalar_15 : decode cX6_scalar 15 = .ok (.aload_n 0, 1) := by decide +kernel
theorem dX6_scalar_16 : decode cX6_scalar 16 = .ok (.getfield 29, 3) := by decide +kernel
theorem dX6_scalar_19 : decode cX6_scalar 19 = .ok (.iload_n 1, 1) := by decide +kernel
theorem dX6_scalar_20 : decode cX6_scalar 20 = .ok (.aaload, 1) := by decide +kernel
theorem dX6_scalar_21 : decode cX6_scalar 21 = .ok (.getfield 163, 3) := by decide +kernel
theorem dX6_scalar_24 : decode cX6_scalar 24 = .ok (.iload_n 2, 1) := by decide +kernel
theorem dX6_scalar_25 : decode cX6_scalar 25 = .ok (.aaload, 1) := by decide +kernel
theorem dX6_scalar_26 : decode cX6_scalar 26 = .ok (.aload_n 0, 1) := by decide +kernel
theorem dX6_scalar_27 : decode cX6_scalar 27 = .ok (.getfield 17, 3) := by decide +kernel
theorem dX6_scalar_30 : decode cX6_scalar 30 = .ok (.invokevirtual 204, 3) := by decide +kernel
theorem dX6_scalar_33 : decode cX6_scalar 33 = .ok (.ireturn, 1) := by decide +kernel
theorem dX6_share_0 : decode cX6_share 0 = .ok (.aload_n 0, 1) := by decide +kernel
theorem dX6_share_1 : decode cX6_share 1 = .ok (.iload_n 1, 1) := by decide +kernel
theorem dX6_share_2 : decode cX6_share 2 = .ok (.iload_n 2, 1) := by decide +kernel
theorem dX6_share_3 : decode cX6_share 3 = .ok (.invokevirtual 171, 3) := by decide +kernel
theorem dX6_share_6 : decode cX6_share 6 = .ok (.ifCond .eq 7, 3) := by decide +kernel
theorem dX6_share_9 : decode cX6_share 9 = .ok (.ldc2_w 208, 3) := by decide +kernel
theorem dX6_share_12 : decode cX6_share 12 = .ok (.dreturn, 1) := by decide +kernel
theorem dX6_share_13 : decode cX6_share 13 = .ok (.aload_n 0, 1) := by decide +kernel
theorem dX6_share_14 : decode cX6_share 14 = .ok (.getfield 29, 3) := by decide +kernel
theorem dX6_share_17 : decode cX6_share 17 = .ok (.iload_n 1, 1) := by decide +kernel
theorem dX6_share_18 : decode cX6_share 18 = .ok (.aaload, 1) := by decide +kernel
theorem dX6_share_19 : decode cX6_share 19 = .ok (.getfield 163, 3) := by decide +kernel
theorem dX6_share_22 : decode cX6_share 22 = .ok (.iload_n 2, 1) := by decide +kernel
theorem dX6_share_23 : decode cX6_share 23 = .ok (.aaload, 1) := by decide +kernel
theorem dX6_share_24 : decode cX6_share 24 = .ok (.aload_n 0, 1) := by decide +kernel
theorem dX6_share_25 : decode cX6_share 25 = .ok (.getfield 17, 3) := by decide +kernel
theorem dX6_share_28 : decode cX6_share 28 = .ok (.invokevirtual 204, 3) := by decide +kernel
theorem dX6_share_31 : decode cX6_share 31 = .ok (.i2d, 1) := by decide +kernel
theorem dX6_share_32 : decode cX6_share 32 = .ok (.ldc2_w 210, 3) := by decide +kernel
theorem dX6_share_35 : decode cX6_share 35 = .ok (.ddiv, 1) := by decide +kernel
theorem dX6_share_36 : decode cX6_share 36 = .ok (.dreturn, 1) := by decide +kernel
theorem dX6_position_0 : decode cX6_position 0 = .ok (.aload_n 0, 1) := by decide +kernel
theorem dX6_position_1 : decode cX6_position 1 = .ok (.iload_n 1, 1) := by decide +kernel
theorem dX6_position_2 : decode cX6_position 2 = .ok (.invokevirtual 123, 3) := by decide +kernel
theorem dX6_position_5 : decode cX6_position 5 = .ok (.ifCond .eq 21, 3) := by decide +kernel
theorem dX6_position_8 : decode cX6_position 8 = .ok (.aload_n 0, 1) := by decide +kernel
theorem dX6_position_9 : decode cX6_position 9 = .ok (.iload_n 1, 1) := by decide +kernel
theorem dX6_position_10 : decode cX6_position 10 = .ok (.iload_n 2, 1) := by decide +kernel
theorem dX6_position_11 : decode cX6_position 11 = .ok (.invokevirtual 212, 3) := by decide +kernel
theorem dX6_position_14 : decode cX6_position 14 = .ok (.ifCond .eq 12, 3) := by decide +kernel
theorem dX6_position_17 : decode cX6_position 17 = .ok (.iload_n 3, 1) := by decide +kernel
theorem dX6_position_18 : decode cX6_position 18 = .ok (.iconst 0, 1) := by decide +kernel
theorem dX6_position_19 : decode cX6_position 19 = .ok (.iconst 3, 1) := by decide +kernel
theorem dX6_position_20 : decode cX6_position 20 = .ok (.invokestatic 66, 3) := by decide +kernel
theorem dX6_position_23 : decode cX6_position 23 = .ok (.ifCond .ne 7, 3) := by decide +kernel
theorem dX6_position_26 : decode cX6_position 26 = .ok (.ldc2_w 215, 3) := by decide +kernel
theorem dX6_position_29 : decode cX6_position 29 = .ok (.lreturn, 1) := by decide +kernel
theorem dX6_position_30 : decode cX6_position 30 = .ok (.aload_n 0, 1) := by decide +kernel
theorem dX6_position_31 : decode cX6_position 31 = .ok (.getfield 29, 3) := by decide +kernel
theorem dX6_position_34 : decode cX6_position 34 = .ok (.iload_n 1, 1) := by decide +kernel
theorem dX6_position_35 : decode cX6_position 35 = .ok (.aaload, 1) := by decide +kernel
theorem dX6_position_36 : decode cX6_position 36 = .ok (.astore 4, 2) := by decide +kernel
theorem dX6_position_38 : decode cX6_position 38 = .ok (.iload_n 3, 1) := by decide +kernel
theorem dX6_position_39 : decode cX6_position 39 = .ok (.iconst 1, 1) := by decide +kernel
theorem dX6_position_40 : decode cX6_position 40 = .ok (.if_icmp .eq 8, 3) := by decide +kernel
theorem dX6_position_43 : decode cX6_position 43 = .ok (.iload_n 3, 1) := by decide +kernel
theorem dX6_position_44 : decode cX6_position 44 = .ok (.iconst 3, 1) := by decide +kernel
theorem dX6_position_45 : decode cX6_position 45 = .ok (.if_icmp .ne 7, 3) := by decide +kernel
theorem dX6_position_48 : decode cX6_position 48 = .ok (.iconst 1, 1) := by decide +kernel
theorem dX6_position_49 : decode cX6_position 49 = .ok (.goto 4, 3) := by decide +kernel
theorem dX6_position_52 : decode cX6_position 52 = .ok (.iconst 0, 1) := by decide +kernel
theorem dX6_position_53 : decode cX6_position 53 = .ok (.istore 5, 2) := by decide +kernel
theorem dX6_position_55 : decode cX6_position 55 = .ok (.iload_n 3, 1) := by decide +kernel
theorem dX6_position_56 : decode cX6_position 56 = .ok (.iconst 2, 1) := by decide +kernel
theorem dX6_position_57 : decode cX6_position 57 = .ok (.if_icmp .ge 32, 3) := by decide +kernel
theorem dX6_position_60 : decode cX6_position 60 = .ok (.iload 5, 2) := by decide +kernel
theorem dX6_position_62 : decode cX6_position 62 = .ok (.ifCond .eq 16, 3) := by decide +kernel
theorem dX6_position_65 : decode cX6_position 65 = .ok (.aload 4, 2) := by decide +kernel
theorem dX6_position_67 : decode cX6_position 67 = .ok (.getfield 217, 3) := by decide +kernel
theorem dX6_position_70 : decode cX6_position 70 = .ok (.iload_n 2, 1) := by decide +kernel
theorem dX6_position_71 : decode cX6_position 71 = .ok (.iconst 1, 1) := by decide +kernel
theorem dX6_position_72 : decode cX6_position 72 = .ok (.iadd, 1) := by decide +kernel
theorem dX6_position_73 : decode cX6_position 73 = .ok (.iaload, 1) := by decide +kernel
theorem dX6_position_74 : decode cX6_position 74 = .ok (.i2l, 1) := by decide +kernel
theorem dX6_position_75 : decode cX6_position 75 = .ok (.goto 13, 3) := by decide +kernel
theorem dX6_position_78 : decode cX6_position 78 = .ok (.aload 4, 2) := by decide +kernel
theorem dX6_position_80 : decode cX6_position 80 = .ok (.getfield 160, 3) := by decide +kernel
theorem dX6_position_83 : decode cX6_position 83 = .ok (.iload_n 2, 1) := by decide +kernel
theorem dX6_position_84 : decode cX6_position 84 = .ok (.iconst 1, 1) := by decide +kernel
theorem dX6_position_85 : decode cX6_position 85 = .ok (.iadd, 1) := by decide +kernel
theorem dX6_position_86 : decode cX6_position 86 = .ok (.iaload, 1) := by decide +kernel
theorem dX6_position_87 : decode cX6_position 87 = .ok (.i2l, 1) := by decide +kernel
theorem dX6_position_88 : decode cX6_position 88 = .ok (.lreturn, 1) := by decide +kernel
theorem dX6_position_89 : decode cX6_position 89 = .ok (.aload 4, 2) := by decide +kernel
theorem dX6_position_91 : decode cX6_position 91 = .ok (.iload_n 2, 1) := by decide +kernel
theorem dX6_position_92 : decode cX6_position 92 = .ok (.iconst 1, 1) := by decide +kernel
theorem dX6_position_93 : decode cX6_position 93 = .ok (.iadd, 1) := by decide +kernel
theorem dX6_position_94 : decode cX6_position 94 = .ok (.iload 5, 2) := by decide +kernel
theorem dX6_position_96 : decode cX6_position 96 = .ok (.aload_n 0, 1) := by decide +kernel
theorem dX6_position_97 : decode cX6_position 97 = .ok (.getfield 17, 3) := by decide +kernel
theorem dX6_position_100 : decode cX6_position 100 = .ok (.bipush 15, 2) := by decide +kernel
theorem dX6_position_102 : decode cX6_position 102 = .ok (.invokevirtual 220, 3) := by decide +kernel
theorem dX6_position_105 : decode cX6_position 105 = .ok (.lreturn, 1) := by decide +kernel
theorem dX6_outline_0 : decode cX6_outline 0 = .ok (.aload_n 0, 1) := by decide +kernel
theorem dX6_outline_1 : decode cX6_outline 1 = .ok (.iload_n 1, 1) := by decide +kernel
theorem dX6_outline_2 : decode cX6_outline 2 = .ok (.invokevirtual 123, 3) := by decide +kernel
theorem dX6_outline_5 : decode cX6_outline 5 = .ok (.ifCond .eq 12, 3) := by decide +kernel
theorem dX6_outline_8 : decode cX6_outline 8 = .ok (.iload_n 3, 1) := by decide +kernel
theorem dX6_outline_9 : decode cX6_outline 9 = .ok (.iconst 0, 1) := by decide +kernel
theorem dX6_outline_10 : decode cX6_outline 10 = .ok (.iconst 2, 1) := by decide +kernel
theorem dX6_outline_11 : decode cX6_outline 11 = .ok (.invokestatic 66, 3) := by decide +kernel
theorem dX6_outline_14 : decode cX6_outline 14 = .ok (.ifCond .ne 7, 3) := by decide +kernel
theorem dX6_outline_17 : decode cX6_outline 17 = .ok (.ldc2_w 215, 3) := by decide +kernel
theorem dX6_outline_20 : decode cX6_outline 20 = .ok (.lreturn, 1) := by decide +kernel
theorem dX6_outline_21 : decode cX6_outline 21 = .ok (.aload_n 0, 1) := by decide +kernel
theorem dX6_outline_22 : decode cX6_outline 22 = .ok (.iload_n 1, 1) := by decide +kernel
theorem dX6_outline_23 : decode cX6_outline 23 = .ok (.invokevirtual 143, 3) := by decide +kernel
theorem dX6_outline_26 : decode cX6_outline 26 = .ok (.astore 4, 2) := by decide +kernel
theorem dX6_outline_28 : decode cX6_outline 28 = .ok (.iload_n 2, 1) := by decide +kernel
theorem dX6_outline_29 : decode cX6_outline 29 = .ok (.iconst 0, 1) := by decide +kernel
theorem dX6_outline_30 : decode cX6_outline 30 = .ok (.aload 4, 2) := by decide +kernel
theorem dX6_outline_32 : decode cX6_outline 32 = .ok (.getfield 147, 3) := by decide +kernel
theorem dX6_outline_35 : decode cX6_outline 35 = .ok (.iconst 1, 1) := by decide +kernel
theorem dX6_outline_36 : decode cX6_outline 36 = .ok (.isub, 1) := by decide +kernel
theorem dX6_outline_37 : decode cX6_outline 37 = .ok (.invokestatic 66, 3) := by decide +kernel
theorem dX6_outline_40 : decode cX6_outline 40 = .ok (.ifCond .ne 7, 3) := by decide +kernel
theorem dX6_outline_43 : decode cX6_outline 43 = .ok (.ldc2_w 215, 3) := by decide +kernel
theorem dX6_outline_46 : decode cX6_outline 46 = .ok (.lreturn, 1) := by decide +kernel
theorem dX6_outline_47 : decode cX6_outline 47 = .ok (.iload_n 3, 1) := by decide +kernel
theorem dX6_outline_48 : decode cX6_outline 48 = .ok (.lookupswitch 44 #[(0, 28), (1, 36)], 28) := by decide +kernel
theorem dX6_outline_76 : decode cX6_outline 76 = .ok (.aload 4, 2) := by decide +kernel
theorem dX6_outline_78 : decode cX6_outline 78 = .ok (.getfield 224, 3) := by decide +kernel
theorem dX6_outline_81 : decode cX6_outline 81 = .ok (.iload_n 2, 1) := by decide +kernel
theorem dX6_outline_82 : decode cX6_outline 82 = .ok (.laload, 1) := by decide +kernel
theorem dX6_outline_83 : decode cX6_outline 83 = .ok (.lreturn, 1) := by decide +kernel
theorem dX6_outline_84 : decode cX6_outline 84 = .ok (.aload 4, 2) := by decide +kernel
theorem dX6_outline_86 : decode cX6_outline 86 = .ok (.getfield 227, 3) := by decide +kernel
theorem dX6_outline_89 : decode cX6_outline 89 = .ok (.iload_n 2, 1) := by decide +kernel
theorem dX6_outline_90 : decode cX6_outline 90 = .ok (.laload, 1) := by decide +kernel
theorem dX6_outline_91 : decode cX6_outline 91 = .ok (.lreturn, 1) := by decide +kernel
theorem dX6_outline_92 : decode cX6_outline 92 = .ok (.aload 4, 2) := by decide +kernel
theorem dX6_outline_94 : decode cX6_outline 94 = .ok (.getfield 229, 3) := by decide +kernel
theorem dX6_outline_97 : decode cX6_outline 97 = .ok (.iload_n 2, 1) := by decide +kernel
theorem dX6_outline_98 : decode cX6_outline 98 = .ok (.iaload, 1) := by decide +kernel
theorem dX6_outline_99 : decode cX6_outline 99 = .ok (.i2l, 1) := by decide +kernel
theorem dX6_outline_100 : decode cX6_outline 100 = .ok (.lreturn, 1) := by decide +kernel
theorem dX6_box_0 : decode cX6_box 0 = .ok (.aload_n 0, 1) := by decide +kernel
theorem dX6_box_1 : decode cX6_box 1 = .ok (.iload_n 1, 1) := by decide +kernel
theorem dX6_box_2 : decode cX6_box 2 = .ok (.invokevirtual 123, 3) := by decide +kernel
theorem dX6_box_5 : decode cX6_box 5 = .ok (.ifCond .eq 12, 3) := by decide +kernel
theorem dX6_box_8 : decode cX6_box 8 = .ok (.iload_n 2, 1) := by decide +kernel
theorem dX6_box_9 : decode cX6_box 9 = .ok (.iconst 0, 1) := by decide +kernel
theorem dX6_box_10 : decode cX6_box 10 = .ok (.iconst 3, 1) := by decide +kernel
theorem dX6_box_11 : decode cX6_box 11 = .ok (.invokestatic 66, 3) := by decide +kernel
theorem dX6_box_14 : decode cX6_box 14 = .ok (.ifCond .ne 7, 3) := by decide +kernel
theorem dX6_box_17 : decode cX6_box 17 = .ok (.ldc2_w 215, 3) := by decide +kernel
theorem dX6_box_20 : decode cX6_box 20 = .ok (.lreturn, 1) := by decide +kernel
theorem dX6_box_21 : decode cX6_box 21 = .ok (.aload_n 0, 1) := by decide +kernel
theorem dX6_box_22 : decode cX6_box 22 = .ok (.iload_n 1, 1) := by decide +kernel
theorem dX6_box_23 : decode cX6_box 23 = .ok (.invokevirtual 143, 3) := by decide +kernel
theorem dX6_box_26 : decode cX6_box 26 = .ok (.astore_n 3, 1) := by decide +kernel
theorem dX6_box_27 : decode cX6_box 27 = .ok (.aload_n 3, 1) := by decide +kernel
theorem dX6_box_28 : decode cX6_box 28 = .ok (.getfield 147, 3) := by decide +kernel
theorem dX6_box_31 : decode cX6_box 31 = .ok (.ifCond .ne 7, 3) := by decide +kernel
theorem dX6_box_34 : decode cX6_box 34 = .ok (.ldc2_w 215, 3) := by decide +kernel
theorem dX6_box_37 : decode cX6_box 37 = .ok (.lreturn, 1) := by decide +kernel
theorem dX6_box_38 : decode cX6_box 38 = .ok (.iload_n 2, 1) := by decide +kernel
theorem dX6_box_39 : decode cX6_box 39 = .ok (.iconst 2, 1) := by decide +kernel
theorem dX6_box_40 : decode cX6_box 40 = .ok (.if_icmp .lt 7, 3) := by decide +kernel
theorem dX6_box_43 : decode cX6_box 43 = .ok (.iconst 1, 1) := by decide +kernel
theorem dX6_box_44 : decode cX6_box 44 = .ok (.goto 4, 3) := by decide +kernel
theorem dX6_box_47 : decode cX6_box 47 = .ok (.iconst 0, 1) := by decide +kernel
theorem dX6_box_48 : decode cX6_box 48 = .ok (.istore 4, 2) := by decide +kernel
theorem dX6_box_50 : decode cX6_box 50 = .ok (.iload_n 2, 1) := by decide +kernel
theorem dX6_box_51 : decode cX6_box 51 = .ok (.iconst 2, 1) := by decide +kernel
theorem dX6_box_52 : decode cX6_box 52 = .ok (.irem, 1) := by decide +kernel
theorem dX6_box_53 : decode cX6_box 53 = .ok (.ifCond .ne 12, 3) := by decide +kernel
theorem dX6_box_56 : decode cX6_box 56 = .ok (.aload_n 3, 1) := by decide +kernel
theorem dX6_box_57 : decode cX6_box 57 = .ok (.iload 4, 2) := by decide +kernel
theorem dX6_box_59 : decode cX6_box 59 = .ok (.invokevirtual 232, 3) := by decide +kernel
theorem dX6_box_62 : decode cX6_box 62 = .ok (.goto 9, 3) := by decide +kernel
theorem dX6_box_65 : decode cX6_box 65 = .ok (.aload_n 3, 1) := by decide +kernel
theorem dX6_box_66 : decode cX6_box 66 = .ok (.iload 4, 2) := by decide +kernel
theorem dX6_box_68 : decode cX6_box 68 = .ok (.invokevirtual 236, 3) := by decide +kernel
theorem dX6_box_71 : decode cX6_box 71 = .ok (.lreturn, 1) := by decide +kernel
theorem dX6_middle_0 : decode cX6_middle 0 = .ok (.aload_n 0, 1) := by decide +kernel
theorem dX6_middle_1 : decode cX6_middle 1 = .ok (.iload_n 1, 1) := by decide +kernel
theorem dX6_middle_2 : decode cX6_middle 2 = .ok (.invokevirtual 123, 3) := by decide +kernel
theorem dX6_middle_5 : decode cX6_middle 5 = .ok (.ifCond .ne 5, 3) := by decide +kernel
theorem dX6_middle_8 : decode cX6_middle 8 = .ok (.fconst 0, 1) := by decide +kernel
theorem dX6_middle_9 : decode cX6_middle 9 = .ok (.freturn, 1) := by decide +kernel
theorem dX6_middle_10 : decode cX6_middle 10 = .ok (.aload_n 0, 1) := by decide +kernel
theorem dX6_middle_11 : decode cX6_middle 11 = .ok (.iload_n 1, 1) := by decide +kernel
theorem dX6_middle_12 : decode cX6_middle 12 = .ok (.invokevirtual 143, 3) := by decide +kernel
theorem dX6_middle_15 : decode cX6_middle 15 = .ok (.astore_n 3, 1) := by decide +kernel
theorem dX6_middle_16 : decode cX6_middle 16 = .ok (.aload_n 3, 1) := by decide +kernel
theorem dX6_middle_17 : decode cX6_middle 17 = .ok (.getfield 147, 3) := by decide +kernel
theorem dX6_middle_20 : decode cX6_middle 20 = .ok (.ifCond .ne 5, 3) := by decide +kernel
theorem dX6_middle_23 : decode cX6_middle 23 = .ok (.fconst 0, 1) := by decide +kernel
theorem dX6_middle_24 : decode cX6_middle 24 = .ok (.freturn, 1) := by decide +kernel
theorem dX6_middle_25 : decode cX6_middle 25 = .ok (.aload_n 3, 1) := by decide +kernel
theorem dX6_middle_26 : decode cX6_middle 26 = .ok (.iload_n 2, 1) := by decide +kernel
theorem dX6_middle_27 : decode cX6_middle 27 = .ok (.invokevirtual 232, 3) := by decide +kernel
theorem dX6_middle_30 : decode cX6_middle 30 = .ok (.aload_n 3, 1) := by decide +kernel
theorem dX6_middle_31 : decode cX6_middle 31 = .ok (.iload_n 2, 1) := by decide +kernel
theorem dX6_middle_32 : decode cX6_middle 32 = .ok (.invokevirtual 236, 3) := by decide +kernel
theorem dX6_middle_35 : decode cX6_middle 35 = .ok (.ladd, 1) := by decide +kernel
theorem dX6_middle_36 : decode cX6_middle 36 = .ok (.l2d, 1) := by decide +kernel
theorem dX6_middle_37 : decode cX6_middle 37 = .ok (.ldc2_w 239, 3) := by decide +kernel
theorem dX6_middle_40 : decode cX6_middle 40 = .ok (.ddiv, 1) := by decide +kernel
theorem dX6_middle_41 : decode cX6_middle 41 = .ok (.d2f, 1) := by decide +kernel
theorem dX6_middle_42 : decode cX6_middle 42 = .ok (.freturn, 1) := by decide +kernel
theorem dX6_area_0 : decode cX6_area 0 = .ok (.aload_n 0, 1) := by decide +kernel
theorem dX6_area_1 : decode cX6_area 1 = .ok (.iload_n 1, 1) := by decide +kernel
theorem dX6_area_2 : decode cX6_area 2 = .ok (.invokevirtual 123, 3) := by decide +kernel
theorem dX6_area_5 : decode cX6_area 5 = .ok (.ifCond .ne 7, 3) := by decide +kernel
theorem dX6_area_8 : decode cX6_area 8 = .ok (.ldc2_w 215, 3) := by decide +kernel
theorem dX6_area_11 : decode cX6_area 11 = .ok (.lreturn, 1) := by decide +kernel
theorem dX6_area_12 : decode cX6_area 12 = .ok (.aload_n 0, 1) := by decide +kernel
theorem dX6_area_13 : decode cX6_area 13 = .ok (.iload_n 1, 1) := by decide +kernel
theorem dX6_area_14 : decode cX6_area 14 = .ok (.invokevirtual 143, 3) := by decide +kernel
theorem dX6_area_17 : decode cX6_area 17 = .ok (.astore_n 3, 1) := by decide +kernel
theorem dX6_area_18 : decode cX6_area 18 = .ok (.iload_n 2, 1) := by decide +kernel
theorem dX6_area_19 : decode cX6_area 19 = .ok (.iconst (-1), 1) := by decide +kernel
theorem dX6_area_20 : decode cX6_area 20 = .ok (.aload_n 3, 1) := by decide +kernel
theorem dX6_area_21 : decode cX6_area 21 = .ok (.getfield 154, 3) := by decide +kernel
theorem dX6_area_24 : decode cX6_area 24 = .ok (.iconst 1, 1) := by decide +kernel
theorem dX6_area_25 : decode cX6_area 25 = .ok (.isub, 1) := by decide +kernel
theorem dX6_area_26 : decode cX6_area 26 = .ok (.invokestatic 66, 3) := by decide +kernel
theorem dX6_area_29 : decode cX6_area 29 = .ok (.ifCond .ne 7, 3) := by decide +kernel
theorem dX6_area_32 : decode cX6_area 32 = .ok (.ldc2_w 215, 3) := by decide +kernel
theorem dX6_area_35 : decode cX6_area 35 = .ok (.lreturn, 1) := by decide +kernel
theorem dX6_area_36 : decode cX6_area 36 = .ok (.iload_n 2, 1) := by decide +kernel
theorem dX6_area_37 : decode cX6_area 37 = .ok (.iconst (-1), 1) := by decide +kernel
theorem dX6_area_38 : decode cX6_area 38 = .ok (.if_icmp .ne 10, 3) := by decide +kernel
theorem dX6_area_41 : decode cX6_area 41 = .ok (.aload_n 3, 1) := by decide +kernel
theorem dX6_area_42 : decode cX6_area 42 = .ok (.invokevirtual 241, 3) := by decide +kernel
theorem dX6_area_45 : decode cX6_area 45 = .ok (.goto 8, 3) := by decide +kernel
theorem dX6_area_48 : decode cX6_area 48 = .ok (.aload_n 3, 1) := by decide +kernel
theorem dX6_area_49 : decode cX6_area 49 = .ok (.iload_n 2, 1) := by decide +kernel
theorem dX6_area_50 : decode cX6_area 50 = .ok (.invokevirtual 245, 3) := by decide +kernel
theorem dX6_area_53 : decode cX6_area 53 = .ok (.lreturn, 1) := by decide +kernel
theorem dX6_flips_0 : decode cX6_flips 0 = .ok (.aload_n 0, 1) := by decide +kernel
theorem dX6_flips_1 : decode cX6_flips 1 = .ok (.iload_n 1, 1) := by decide +kernel
theorem dX6_flips_2 : decode cX6_flips 2 = .ok (.invokevirtual 123, 3) := by decide +kernel
theorem dX6_flips_5 : decode cX6_flips 5 = .ok (.ifCond .ne 6, 3) := by decide +kernel
theorem dX6_flips_8 : decode cX6_flips 8 = .ok (.ldc 126, 2) := by decide +kernel
theorem dX6_flips_10 : decode cX6_flips 10 = .ok (.ireturn, 1) := by decide +kernel
theorem dX6_flips_11 : decode cX6_flips 11 = .ok (.aload_n 0, 1) := by decide +kernel
theorem dX6_flips_12 : decode cX6_flips 12 = .ok (.iload_n 1, 1) := by decide +kernel
theorem dX6_flips_13 : decode cX6_flips 13 = .ok (.invokevirtual 143, 3) := by decide +kernel
theorem dX6_flips_16 : decode cX6_flips 16 = .ok (.astore_n 2, 1) := by decide +kernel
theorem dX6_flips_17 : decode cX6_flips 17 = .ok (.aload_n 0, 1) := by decide +kernel
theorem dX6_flips_18 : decode cX6_flips 18 = .ok (.getfield 40, 3) := by decide +kernel
theorem dX6_flips_21 : decode cX6_flips 21 = .ok (.invokevirtual 249, 3) := by decide +kernel
theorem dX6_flips_24 : decode cX6_flips 24 = .ok (.aload_n 0, 1) := by decide +kernel
theorem dX6_flips_25 : decode cX6_flips 25 = .ok (.getfield 29, 3) := by decide +kernel
theorem dX6_flips_28 : decode cX6_flips 28 = .ok (.iload_n 1, 1) := by decide +kernel
theorem dX6_flips_29 : decode cX6_flips 29 = .ok (.aload_n 0, 1) := by decide +kernel
theorem dX6_flips_30 : decode cX6_flips 30 = .ok (.getfield 21, 3) := by decide +kernel
theorem dX6_flips_33 : decode cX6_flips 33 = .ok (.aload_n 0, 1) := by decide +kernel
theorem dX6_flips_34 : decode cX6_flips 34 = .ok (.getfield 40, 3) := by decide +kernel
theorem dX6_flips_37 : decode cX6_flips 37 = .ok (.lconst 0, 1) := by decide +kernel
theorem dX6_flips_38 : decode cX6_flips 38 = .ok (.lconst 0, 1) := by decide +kernel
theorem dX6_flips_39 : decode cX6_flips 39 = .ok (.iconst 0, 1) := by decide +kernel
theorem dX6_flips_40 : decode cX6_flips 40 = .ok (.invokestatic 252, 3) := by decide +kernel
theorem dX6_flips_43 : decode cX6_flips 43 = .ok (.iconst 0, 1) := by decide +kernel
theorem dX6_flips_44 : decode cX6_flips 44 = .ok (.istore_n 3, 1) := by decide +kernel
theorem dX6_flips_45 : decode cX6_flips 45 = .ok (.iconst 0, 1) := by decide +kernel
theorem dX6_flips_46 : decode cX6_flips 46 = .ok (.istore 4, 2) := by decide +kernel
theorem dX6_flips_48 : decode cX6_flips 48 = .ok (.iload 4, 2) := by decide +kernel
theorem dX6_flips_50 : decode cX6_flips 50 = .ok (.aload_n 2, 1) := by decide +kernel
theorem dX6_flips_51 : decode cX6_flips 51 = .ok (.getfield 154, 3) := by decide +kernel
theorem dX6_flips_54 : decode cX6_flips 54 = .ok (.if_icmp .ge 33, 3) := by decide +kernel
theorem dX6_flips_57 : decode cX6_flips 57 = .ok (.aload_n 2, 1) := by decide +kernel
theorem dX6_flips_58 : decode cX6_flips 58 = .ok (.iload 4, 2) := by decide +kernel
theorem dX6_flips_60 : decode cX6_flips 60 = .ok (.invokevirtual 245, 3) := by decide +kernel
theorem dX6_flips_63 : decode cX6_flips 63 = .ok (.aload_n 0, 1) := by decide +kernel
theorem dX6_flips_64 : decode cX6_flips 64 = .ok (.getfield 40, 3) := by decide +kernel
theorem dX6_flips_67 : decode cX6_flips 67 = .ok (.iload 4, 2) := by decide +kernel
theorem dX6_flips_69 : decode cX6_flips 69 = .ok (.invokevirtual 245, 3) := by decide +kernel
theorem dX6_flips_72 : decode cX6_flips 72 = .ok (.invokestatic 256, 3) := by decide +kernel
theorem dX6_flips_75 : decode cX6_flips 75 = .ok (.ifCond .ne 6, 3) := by decide +kernel
theorem dX6_flips_78 : decode cX6_flips 78 = .ok (.iinc 3 1, 3) := by decide +kernel
theorem dX6_flips_81 : decode cX6_flips 81 = .ok (.iinc 4 1, 3) := by decide +kernel
theorem dX6_flips_84 : decode cX6_flips 84 = .ok (.goto (-36), 3) := by decide +kernel
theorem dX6_flips_87 : decode cX6_flips 87 = .ok (.iload_n 3, 1) := by decide +kernel
theorem dX6_flips_88 : decode cX6_flips 88 = .ok (.ireturn, 1) := by decide +kernel
theorem dX6_widest_0 : decode cX6_widest 0 = .ok (.aload_n 0, 1) := by decide +kernel
theorem dX6_widest_1 : decode cX6_widest 1 = .ok (.iload_n 1, 1) := by decide +kernel
theorem dX6_widest_2 : decode cX6_widest 2 = .ok (.invokevirtual 123, 3) := by decide +kernel
theorem dX6_widest_5 : decode cX6_widest 5 = .ok (.ifCond .ne 6, 3) := by decide +kernel
theorem dX6_widest_8 : decode cX6_widest 8 = .ok (.ldc 126, 2) := by decide +kernel
theorem dX6_widest_10 : decode cX6_widest 10 = .ok (.ireturn, 1) := by decide +kernel
theorem dX6_widest_11 : decode cX6_widest 11 = .ok (.aload_n 0, 1) := by decide +kernel
theorem dX6_widest_12 : decode cX6_widest 12 = .ok (.iload_n 2, 1) := by decide +kernel
theorem dX6_widest_13 : decode cX6_widest 13 = .ok (.invokevirtual 80, 3) := by decide +kernel
theorem dX6_widest_16 : decode cX6_widest 16 = .ok (.ifCond .ne 6, 3) := by decide +kernel
theorem dX6_widest_19 : decode cX6_widest 19 = .ok (.ldc 84, 2) := by decide +kernel
theorem dX6_widest_21 : decode cX6_widest 21 = .ok (.ireturn, 1) := by decide +kernel
theorem dX6_widest_22 : decode cX6_widest 22 = .ok (.aload_n 0, 1) := by decide +kernel
theorem dX6_widest_23 : decode cX6_widest 23 = .ok (.getfield 17, 3) := by decide +kernel
theorem dX6_widest_26 : decode cX6_widest 26 = .ok (.iconst 0, 1) := by decide +kernel
theorem dX6_widest_27 : decode cX6_widest 27 = .ok (.aload_n 0, 1) := by decide +kernel
theorem dX6_widest_28 : decode cX6_widest 28 = .ok (.getfield 24, 3) := by decide +kernel
theorem dX6_widest_31 : decode cX6_widest 31 = .ok (.iconst 0, 1) := by decide +kernel
theorem dX6_widest_32 : decode cX6_widest 32 = .ok (.iconst 4, 1) := by decide +kernel
theorem dX6_widest_33 : decode cX6_widest 33 = .ok (.invokestatic 260, 3) := by decide +kernel
theorem dX6_widest_36 : decode cX6_widest 36 = .ok (.sipush (-16384), 3) := by decide +kernel
theorem dX6_widest_39 : decode cX6_widest 39 = .ok (.istore_n 3, 1) := by decide +kernel
theorem dX6_widest_40 : decode cX6_widest 40 = .ok (.ldc2_w 215, 3) := by decide +kernel
theorem dX6_widest_43 : decode cX6_widest 43 = .ok (.lstore 4, 2) := by decide +kernel
theorem dX6_widest_45 : decode cX6_widest 45 = .ok (.sipush (-16384), 3) := by decide +kernel
theorem dX6_widest_48 : decode cX6_widest 48 = .ok (.istore 6, 2) := by decide +kernel
theorem dX6_widest_50 : decode cX6_widest 50 = .ok (.iload 6, 2) := by decide +kernel
theorem dX6_widest_52 : decode cX6_widest 52 = .ok (.sipush 16384, 3) := by decide +kernel
theorem dX6_widest_55 : decode cX6_widest 55 = .ok (.if_icmp .gt 54, 3) := by decide +kernel
theorem dX6_widest_58 : decode cX6_widest 58 = .ok (.aload_n 0, 1) := by decide +kernel
theorem dX6_widest_59 : decode cX6_widest 59 = .ok (.getfield 24, 3) := by decide +kernel
theorem dX6_widest_62 : decode cX6_widest 62 = .ok (.iload_n 2, 1) := by decide +kernel
theorem dX6_widest_63 : decode cX6_widest 63 = .ok (.iload 6, 2) := by decide +kernel
theorem dX6_widest_65 : decode cX6_widest 65 = .ok (.iastore, 1) := by decide +kernel
theorem dX6_widest_66 : decode cX6_widest 66 = .ok (.aload_n 0, 1) := by decide +kernel
theorem dX6_widest_67 : decode cX6_widest 67 = .ok (.getfield 29, 3) := by decide +kernel
theorem dX6_widest_70 : decode cX6_widest 70 = .ok (.iload_n 1, 1) := by decide +kernel
theorem dX6_widest_71 : decode cX6_widest 71 = .ok (.aaload, 1) := by decide +kernel
theorem dX6_widest_72 : decode cX6_widest 72 = .ok (.iconst 0, 1) := by decide +kernel
theorem dX6_widest_73 : decode cX6_widest 73 = .ok (.iconst 0, 1) := by decide +kernel
theorem dX6_widest_74 : decode cX6_widest 74 = .ok (.aload_n 0, 1) := by decide +kernel
theorem dX6_widest_75 : decode cX6_widest 75 = .ok (.getfield 24, 3) := by decide +kernel
theorem dX6_widest_78 : decode cX6_widest 78 = .ok (.bipush 15, 2) := by decide +kernel
theorem dX6_widest_80 : decode cX6_widest 80 = .ok (.invokevirtual 220, 3) := by decide +kernel
theorem dX6_widest_83 : decode cX6_widest 83 = .ok (.lstore 7, 2) := by decide +kernel
theorem dX6_widest_85 : decode cX6_widest 85 = .ok (.lload 7, 2) := by decide +kernel
theorem dX6_widest_87 : decode cX6_widest 87 = .ok (.lload 4, 2) := by decide +kernel
theorem dX6_widest_89 : decode cX6_widest 89 = .ok (.lcmp, 1) := by decide +kernel
theorem dX6_widest_90 : decode cX6_widest 90 = .ok (.ifCond .le 10, 3) := by decide +kernel
theorem dX6_widest_93 : decode cX6_widest 93 = .ok (.lload 7, 2) := by decide +kernel
theorem dX6_widest_95 : decode cX6_widest 95 = .ok (.lstore 4, 2) := by decide +kernel
theorem dX6_widest_97 : decode cX6_widest 97 = .ok (.iload 6, 2) := by decide +kernel
theorem dX6_widest_99 : decode cX6_widest 99 = .ok (.istore_n 3, 1) := by decide +kernel
theorem dX6_widest_100 : decode cX6_widest 100 = .ok (.iinc 6 2048, 6) := by decide +kernel
theorem dX6_widest_106 : decode cX6_widest 106 = .ok (.goto (-56), 3) := by decide +kernel
theorem dX6_widest_109 : decode cX6_widest 109 = .ok (.iload_n 3, 1) := by decide +kernel
theorem dX6_widest_110 : decode cX6_widest 110 = .ok (.ireturn, 1) := by decide +kernel
theorem dX6_merge_0 : decode cX6_merge 0 = .ok (.aload_n 0, 1) := by decide +kernel
theorem dX6_merge_1 : decode cX6_merge 1 = .ok (.iload_n 1, 1) := by decide +kernel
theorem dX6_merge_2 : decode cX6_merge 2 = .ok (.invokevirtual 123, 3) := by decide +kernel
theorem dX6_merge_5 : decode cX6_merge 5 = .ok (.ifCond .ne 6, 3) := by decide +kernel
theorem dX6_merge_8 : decode cX6_merge 8 = .ok (.ldc 126, 2) := by decide +kernel
theorem dX6_merge_10 : decode cX6_merge 10 = .ok (.ireturn, 1) := by decide +kernel
theorem dX6_merge_11 : decode cX6_merge 11 = .ok (.aload_n 0, 1) := by decide +kernel
theorem dX6_merge_12 : decode cX6_merge 12 = .ok (.getfield 46, 3) := by decide +kernel
theorem dX6_merge_15 : decode cX6_merge 15 = .ok (.iload_n 1, 1) := by decide +kernel
theorem dX6_merge_16 : decode cX6_merge 16 = .ok (.aload_n 0, 1) := by decide +kernel
theorem dX6_merge_17 : decode cX6_merge 17 = .ok (.getfield 29, 3) := by decide +kernel
theorem dX6_merge_20 : decode cX6_merge 20 = .ok (.iload_n 1, 1) := by decide +kernel
theorem dX6_merge_21 : decode cX6_merge 21 = .ok (.aaload, 1) := by decide +kernel
theorem dX6_merge_22 : decode cX6_merge 22 = .ok (.invokevirtual 266, 3) := by decide +kernel
theorem dX6_merge_25 : decode cX6_merge 25 = .ok (.aload_n 0, 1) := by decide +kernel
theorem dX6_merge_26 : decode cX6_merge 26 = .ok (.getfield 29, 3) := by decide +kernel
theorem dX6_merge_29 : decode cX6_merge 29 = .ok (.iload_n 1, 1) := by decide +kernel
theorem dX6_merge_30 : decode cX6_merge 30 = .ok (.aaload, 1) := by decide +kernel
theorem dX6_merge_31 : decode cX6_merge 31 = .ok (.invokevirtual 270, 3) := by decide +kernel
theorem dX6_merge_34 : decode cX6_merge 34 = .ok (.ireturn, 1) := by decide +kernel
theorem dX6_compact_0 : decode cX6_compact 0 = .ok (.aload_n 0, 1) := by decide +kernel
theorem dX6_compact_1 : decode cX6_compact 1 = .ok (.iload_n 1, 1) := by decide +kernel
theorem dX6_compact_2 : decode cX6_compact 2 = .ok (.iload_n 2, 1) := by decide +kernel
theorem dX6_compact_3 : decode cX6_compact 3 = .ok (.invokevirtual 171, 3) := by decide +kernel
theorem dX6_compact_6 : decode cX6_compact 6 = .ok (.istore_n 3, 1) := by decide +kernel
theorem dX6_compact_7 : decode cX6_compact 7 = .ok (.iload_n 3, 1) := by decide +kernel
theorem dX6_compact_8 : decode cX6_compact 8 = .ok (.ifCond .eq 5, 3) := by decide +kernel
theorem dX6_compact_11 : decode cX6_compact 11 = .ok (.iload_n 3, 1) := by decide +kernel
theorem dX6_compact_12 : decode cX6_compact 12 = .ok (.ireturn, 1) := by decide +kernel
theorem dX6_compact_13 : decode cX6_compact 13 = .ok (.aload_n 0, 1) := by decide +kernel
theorem dX6_compact_14 : decode cX6_compact 14 = .ok (.getfield 46, 3) := by decide +kernel
theorem dX6_compact_17 : decode cX6_compact 17 = .ok (.iload_n 1, 1) := by decide +kernel
theorem dX6_compact_18 : decode cX6_compact 18 = .ok (.aload_n 0, 1) := by decide +kernel
theorem dX6_compact_19 : decode cX6_compact 19 = .ok (.getfield 29, 3) := by decide +kernel
theorem dX6_compact_22 : decode cX6_compact 22 = .ok (.iload_n 1, 1) := by decide +kernel
theorem dX6_compact_23 : decode cX6_compact 23 = .ok (.aaload, 1) := by decide +kernel
theorem dX6_compact_24 : decode cX6_compact 24 = .ok (.invokevirtual 266, 3) := by decide +kernel
theorem dX6_compact_27 : decode cX6_compact 27 = .ok (.aload_n 0, 1) := by decide +kernel
theorem dX6_compact_28 : decode cX6_compact 28 = .ok (.getfield 29, 3) := by decide +kernel
theorem dX6_compact_31 : decode cX6_compact 31 = .ok (.iload_n 1, 1) := by decide +kernel
theorem dX6_compact_32 : decode cX6_compact 32 = .ok (.aaload, 1) := by decide +kernel
theorem dX6_compact_33 : decode cX6_compact 33 = .ok (.aload_n 0, 1) := by decide +kernel
theorem dX6_compact_34 : decode cX6_compact 34 = .ok (.getfield 29, 3) := by decide +kernel
theorem dX6_compact_37 : decode cX6_compact 37 = .ok (.iload_n 1, 1) := by decide +kernel
theorem dX6_compact_38 : decode cX6_compact 38 = .ok (.aaload, 1) := by decide +kernel
theorem dX6_compact_39 : decode cX6_compact 39 = .ok (.getfield 163, 3) := by decide +kernel
theorem dX6_compact_42 : decode cX6_compact 42 = .ok (.iload_n 2, 1) := by decide +kernel
theorem dX6_compact_43 : decode cX6_compact 43 = .ok (.aaload, 1) := by decide +kernel
theorem dX6_compact_44 : decode cX6_compact 44 = .ok (.invokevirtual 274, 3) := by decide +kernel
theorem dX6_compact_47 : decode cX6_compact 47 = .ok (.ireturn, 1) := by decide +kernel
theorem dX6_fold_0 : decode cX6_fold 0 = .ok (.aload_n 0, 1) := by decide +kernel
theorem dX6_fold_1 : decode cX6_fold 1 = .ok (.iload_n 1, 1) := by decide +kernel
theorem dX6_fold_2 : decode cX6_fold 2 = .ok (.invokevirtual 123, 3) := by decide +kernel
theorem dX6_fold_5 : decode cX6_fold 5 = .ok (.ifCond .ne 6, 3) := by decide +kernel
theorem dX6_fold_8 : decode cX6_fold 8 = .ok (.ldc 126, 2) := by decide +kernel
theorem dX6_fold_10 : decode cX6_fold 10 = .ok (.ireturn, 1) := by decide +kernel
theorem dX6_fold_11 : decode cX6_fold 11 = .ok (.aload_n 0, 1) := by decide +kernel
theorem dX6_fold_12 : decode cX6_fold 12 = .ok (.getfield 46, 3) := by decide +kernel
theorem dX6_fold_15 : decode cX6_fold 15 = .ok (.iload_n 1, 1) := by decide +kernel
theorem dX6_fold_16 : decode cX6_fold 16 = .ok (.aload_n 0, 1) := by decide +kernel
theorem dX6_fold_17 : decode cX6_fold 17 = .ok (.getfield 29, 3) := by decide +kernel
theorem dX6_fold_20 : decode cX6_fold 20 = .ok (.iload_n 1, 1) := by decide +kernel
theorem dX6_fold_21 : decode cX6_fold 21 = .ok (.aaload, 1) := by decide +kernel
theorem dX6_fold_22 : decode cX6_fold 22 = .ok (.invokevirtual 266, 3) := by decide +kernel
theorem dX6_fold_25 : decode cX6_fold 25 = .ok (.aload_n 0, 1) := by decide +kernel
theorem dX6_fold_26 : decode cX6_fold 26 = .ok (.getfield 29, 3) := by decide +kernel
theorem dX6_fold_29 : decode cX6_fold 29 = .ok (.iload_n 1, 1) := by decide +kernel
theorem dX6_fold_30 : decode cX6_fold 30 = .ok (.aaload, 1) := by decide +kernel
theorem dX6_fold_31 : decode cX6_fold 31 = .ok (.aload_n 0, 1) := by decide +kernel
theorem dX6_fold_32 : decode cX6_fold 32 = .ok (.invokevirtual 278, 3) := by decide +kernel
theorem dX6_fold_35 : decode cX6_fold 35 = .ok (.aload_n 0, 1) := by decide +kernel
theorem dX6_fold_36 : decode cX6_fold 36 = .ok (.getfield 17, 3) := by decide +kernel
theorem dX6_fold_39 : decode cX6_fold 39 = .ok (.invokevirtual 281, 3) := by decide +kernel
theorem dX6_fold_42 : decode cX6_fold 42 = .ok (.ireturn, 1) := by decide +kernel
theorem dX6_prune_0 : decode cX6_prune 0 = .ok (.aload_n 0, 1) := by decide +kernel
theorem dX6_prune_1 : decode cX6_prune 1 = .ok (.iload_n 1, 1) := by decide +kernel
theorem dX6_prune_2 : decode cX6_prune 2 = .ok (.invokevirtual 123, 3) := by decide +kernel
theorem dX6_prune_5 : decode cX6_prune 5 = .ok (.ifCond .ne 6, 3) := by decide +kernel
theorem dX6_prune_8 : decode cX6_prune 8 = .ok (.ldc 126, 2) := by decide +kernel
theorem dX6_prune_10 : decode cX6_prune 10 = .ok (.ireturn, 1) := by decide +kernel
theorem dX6_prune_11 : decode cX6_prune 11 = .ok (.aload_n 0, 1) := by decide +kernel
theorem dX6_prune_12 : decode cX6_prune 12 = .ok (.getfield 46, 3) := by decide +kernel
theorem dX6_prune_15 : decode cX6_prune 15 = .ok (.iload_n 1, 1) := by decide +kernel
theorem dX6_prune_16 : decode cX6_prune 16 = .ok (.aload_n 0, 1) := by decide +kernel
theorem dX6_prune_17 : decode cX6_prune 17 = .ok (.getfield 29, 3) := by decide +kernel
theorem dX6_prune_20 : decode cX6_prune 20 = .ok (.iload_n 1, 1) := by decide +kernel
theorem dX6_prune_21 : decode cX6_prune 21 = .ok (.aaload, 1) := by decide +kernel
theorem dX6_prune_22 : decode cX6_prune 22 = .ok (.invokevirtual 266, 3) := by decide +kernel
theorem dX6_prune_25 : decode cX6_prune 25 = .ok (.aload_n 0, 1) := by decide +kernel
theorem dX6_prune_26 : decode cX6_prune 26 = .ok (.getfield 29, 3) := by decide +kernel
theorem dX6_prune_29 : decode cX6_prune 29 = .ok (.iload_n 1, 1) := by decide +kernel
theorem dX6_prune_30 : decode cX6_prune 30 = .ok (.aaload, 1) := by decide +kernel
theorem dX6_prune_31 : decode cX6_prune 31 = .ok (.invokevirtual 285, 3) := by decide +kernel
theorem dX6_prune_34 : decode cX6_prune 34 = .ok (.ireturn, 1) := by decide +kernel
theorem dX6_undo_0 : decode cX6_undo 0 = .ok (.aload_n 0, 1) := by decide +kernel
theorem dX6_undo_1 : decode cX6_undo 1 = .ok (.getfield 46, 3) := by decide +kernel
theorem dX6_undo_4 : decode cX6_undo 4 = .ok (.getfield 288, 3) := by decide +kernel
theorem dX6_undo_7 : decode cX6_undo 7 = .ok (.ifCond .gt 7, 3) := by decide +kernel
theorem dX6_undo_10 : decode cX6_undo 10 = .ok (.ldc_w 289, 3) := by decide +kernel
theorem dX6_undo_13 : decode cX6_undo 13 = .ok (.ireturn, 1) := by decide +kernel
theorem dX6_undo_14 : decode cX6_undo 14 = .ok (.aload_n 0, 1) := by decide +kernel
theorem dX6_undo_15 : decode cX6_undo 15 = .ok (.getfield 46, 3) := by decide +kernel
theorem dX6_undo_18 : decode cX6_undo 18 = .ok (.dup, 1) := by decide +kernel
theorem dX6_undo_19 : decode cX6_undo 19 = .ok (.getfield 288, 3) := by decide +kernel
theorem dX6_undo_22 : decode cX6_undo 22 = .ok (.iconst 1, 1) := by decide +kernel
theorem dX6_undo_23 : decode cX6_undo 23 = .ok (.isub, 1) := by decide +kernel
theorem dX6_undo_24 : decode cX6_undo 24 = .ok (.putfield 288, 3) := by decide +kernel
theorem dX6_undo_27 : decode cX6_undo 27 = .ok (.aload_n 0, 1) := by decide +kernel
theorem dX6_undo_28 : decode cX6_undo 28 = .ok (.getfield 46, 3) := by decide +kernel
theorem dX6_undo_31 : decode cX6_undo 31 = .ok (.getfield 290, 3) := by decide +kernel
theorem dX6_undo_34 : decode cX6_undo 34 = .ok (.aload_n 0, 1) := by decide +kernel
theorem dX6_undo_35 : decode cX6_undo 35 = .ok (.getfield 46, 3) := by decide +kernel
theorem dX6_undo_38 : decode cX6_undo 38 = .ok (.getfield 288, 3) := by decide +kernel
theorem dX6_undo_41 : decode cX6_undo 41 = .ok (.iaload, 1) := by decide +kernel
theorem dX6_undo_42 : decode cX6_undo 42 = .ok (.istore_n 1, 1) := by decide +kernel
theorem dX6_undo_43 : decode cX6_undo 43 = .ok (.aload_n 0, 1) := by decide +kernel
theorem dX6_undo_44 : decode cX6_undo 44 = .ok (.iload_n 1, 1) := by decide +kernel
theorem dX6_undo_45 : decode cX6_undo 45 = .ok (.invokevirtual 123, 3) := by decide +kernel
theorem dX6_undo_48 : decode cX6_undo 48 = .ok (.ifCond .eq 27, 3) := by decide +kernel
theorem dX6_undo_51 : decode cX6_undo 51 = .ok (.aload_n 0, 1) := by decide +kernel
theorem dX6_undo_52 : decode cX6_undo 52 = .ok (.getfield 29, 3) := by decide +kernel
theorem dX6_undo_55 : decode cX6_undo 55 = .ok (.iload_n 1, 1) := by decide +kernel
theorem dX6_undo_56 : decode cX6_undo 56 = .ok (.aaload, 1) := by decide +kernel
theorem dX6_undo_57 : decode cX6_undo 57 = .ok (.aload_n 0, 1) := by decide +kernel
theorem dX6_undo_58 : decode cX6_undo 58 = .ok (.getfield 46, 3) := by decide +kernel
theorem dX6_undo_61 : decode cX6_undo 61 = .ok (.getfield 293, 3) := by decide +kernel
theorem dX6_undo_64 : decode cX6_undo 64 = .ok (.aload_n 0, 1) := by decide +kernel
theorem dX6_undo_65 : decode cX6_undo 65 = .ok (.getfield 46, 3) := by decide +kernel
theorem dX6_undo_68 : decode cX6_undo 68 = .ok (.getfield 288, 3) := by decide +kernel
theorem dX6_undo_71 : decode cX6_undo 71 = .ok (.aaload, 1) := by decide +kernel
theorem dX6_undo_72 : decode cX6_undo 72 = .ok (.invokevirtual 296, 3) := by decide +kernel
theorem dX6_undo_75 : decode cX6_undo 75 = .ok (.iload_n 1, 1) := by decide +kernel
theorem dX6_undo_76 : decode cX6_undo 76 = .ok (.ireturn, 1) := by decide +kernel
theorem dX6_addInstance_0 : decode cX6_addInstance 0 = .ok (.aload_n 0, 1) := by decide +kernel
theorem dX6_addInstance_1 : decode cX6_addInstance 1 = .ok (.getfield 300, 3) := by decide +kernel
theorem dX6_addInstance_4 : decode cX6_addInstance 4 = .ok (.bipush 6, 2) := by decide +kernel
theorem dX6_addInstance_6 : decode cX6_addInstance 6 = .ok (.if_icmp .lt 6, 3) := by decide +kernel
theorem dX6_addInstance_9 : decode cX6_addInstance 9 = .ok (.ldc 75, 2) := by decide +kernel
theorem dX6_addInstance_11 : decode cX6_addInstance 11 = .ok (.ireturn, 1) := by decide +kernel
theorem dX6_addInstance_12 : decode cX6_addInstance 12 = .ok (.aload_n 0, 1) := by decide +kernel
theorem dX6_addInstance_13 : decode cX6_addInstance 13 = .ok (.getfield 17, 3) := by decide +kernel
theorem dX6_addInstance_16 : decode cX6_addInstance 16 = .ok (.iconst 0, 1) := by decide +kernel
theorem dX6_addInstance_17 : decode cX6_addInstance 17 = .ok (.aload_n 0, 1) := by decide +kernel
theorem dX6_addInstance_18 : decode cX6_addInstance 18 = .ok (.getfield 52, 3) := by decide +kernel
theorem dX6_addInstance_21 : decode cX6_addInstance 21 = .ok (.aload_n 0, 1) := by decide +kernel
theorem dX6_addInstance_22 : decode cX6_addInstance 22 = .ok (.getfield 300, 3) := by decide +kernel
theorem dX6_addInstance_25 : decode cX6_addInstance 25 = .ok (.aaload, 1) := by decide +kernel
theorem dX6_addInstance_26 : decode cX6_addInstance 26 = .ok (.iconst 0, 1) := by decide +kernel
theorem dX6_addInstance_27 : decode cX6_addInstance 27 = .ok (.iconst 4, 1) := by decide +kernel
theorem dX6_addInstance_28 : decode cX6_addInstance 28 = .ok (.invokestatic 260, 3) := by decide +kernel
theorem dX6_addInstance_31 : decode cX6_addInstance 31 = .ok (.aload_n 0, 1) := by decide +kernel
theorem dX6_addInstance_32 : decode cX6_addInstance 32 = .ok (.dup, 1) := by decide +kernel
theorem dX6_addInstance_33 : decode cX6_addInstance 33 = .ok (.getfield 300, 3) := by decide +kernel
theorem dX6_addInstance_36 : decode cX6_addInstance 36 = .ok (.iconst 1, 1) := by decide +kernel
theorem dX6_addInstance_37 : decode cX6_addInstance 37 = .ok (.iadd, 1) := by decide +kernel
theorem dX6_addInstance_38 : decode cX6_addInstance 38 = .ok (.putfield 300, 3) := by decide +kernel
theorem dX6_addInstance_41 : decode cX6_addInstance 41 = .ok (.aload_n 0, 1) := by decide +kernel
theorem dX6_addInstance_42 : decode cX6_addInstance 42 = .ok (.getfield 300, 3) := by decide +kernel
theorem dX6_addInstance_45 : decode cX6_addInstance 45 = .ok (.iconst 1, 1) := by decide +kernel
theorem dX6_addInstance_46 : decode cX6_addInstance 46 = .ok (.isub, 1) := by decide +kernel
theorem dX6_addInstance_47 : decode cX6_addInstance 47 = .ok (.ireturn, 1) := by decide +kernel
theorem dX6_applyInstance_0 : decode cX6_applyInstance 0 = .ok (.iload_n 1, 1) := by decide +kernel
theorem dX6_applyInstance_1 : decode cX6_applyInstance 1 = .ok (.iconst 0, 1) := by decide +kernel
theorem dX6_applyInstance_2 : decode cX6_applyInstance 2 = .ok (.aload_n 0, 1) := by decide +kernel
theorem dX6_applyInstance_3 : decode cX6_applyInstance 3 = .ok (.getfield 300, 3) := by decide +kernel
theorem dX6_applyInstance_6 : decode cX6_applyInstance 6 = .ok (.iconst 1, 1) := by decide +kernel
theorem dX6_applyInstance_7 : decode cX6_applyInstance 7 = .ok (.isub, 1) := by decide +kernel
theorem dX6_applyInstance_8 : decode cX6_applyInstance 8 = .ok (.invokestatic 66, 3) := by decide +kernel
theorem dX6_applyInstance_11 : decode cX6_applyInstance 11 = .ok (.ifCond .ne 6, 3) := by decide +kernel
theorem dX6_applyInstance_14 : decode cX6_applyInstance 14 = .ok (.ldc 70, 2) := by decide +kernel
theorem dX6_applyInstance_16 : decode cX6_applyInstance 16 = .ok (.ireturn, 1) := by decide +kernel
theorem dX6_applyInstance_17 : decode cX6_applyInstance 17 = .ok (.iconst 0, 1) := by decide +kernel
theorem dX6_applyInstance_18 : decode cX6_applyInstance 18 = .ok (.istore_n 2, 1) := by decide +kernel
theorem dX6_applyInstance_19 : decode cX6_applyInstance 19 = .ok (.iconst 0, 1) := by decide +kernel
theorem dX6_applyInstance_20 : decode cX6_applyInstance 20 = .ok (.istore_n 3, 1) := by decide +kernel
theorem dX6_applyInstance_21 : decode cX6_applyInstance 21 = .ok (.iload_n 3, 1) := by decide +kernel
theorem dX6_applyInstance_22 : decode cX6_applyInstance 22 = .ok (.aload_n 0, 1) := by decide +kernel
theorem dX6_applyInstance_23 : decode cX6_applyInstance 23 = .ok (.getfield 71, 3) := by decide +kernel
theorem dX6_applyInstance_26 : decode cX6_applyInstance 26 = .ok (.if_icmp .ge 53, 3) := by decide +kernel
theorem dX6_applyInstance_29 : decode cX6_applyInstance 29 = .ok (.aload_n 0, 1) := by decide +kernel
theorem dX6_applyInstance_30 : decode cX6_applyInstance 30 = .ok (.getfield 52, 3) := by decide +kernel
theorem dX6_applyInstance_33 : decode cX6_applyInstance 33 = .ok (.iload_n 1, 1) := by decide +kernel
theorem dX6_applyInstance_34 : decode cX6_applyInstance 34 = .ok (.aaload, 1) := by decide +kernel
theorem dX6_applyInstance_35 : decode cX6_applyInstance 35 = .ok (.iload_n 3, 1) := by decide +kernel
theorem dX6_applyInstance_36 : decode cX6_applyInstance 36 = .ok (.iaload, 1) := by decide +kernel
theorem dX6_applyInstance_37 : decode cX6_applyInstance 37 = .ok (.istore 4, 2) := by decide +kernel
theorem dX6_applyInstance_39 : decode cX6_applyInstance 39 = .ok (.aload_n 0, 1) := by decide +kernel
theorem dX6_applyInstance_40 : decode cX6_applyInstance 40 = .ok (.getfield 13, 3) := by decide +kernel
theorem dX6_applyInstance_43 : decode cX6_applyInstance 43 = .ok (.iload_n 3, 1) := by decide +kernel
theorem dX6_applyInstance_44 : decode cX6_applyInstance 44 = .ok (.aaload, 1) := by decide +kernel
theorem dX6_applyInstance_45 : decode cX6_applyInstance 45 = .ok (.getfield 103, 3) := by decide +kernel
theorem dX6_applyInstance_48 : decode cX6_applyInstance 48 = .ok (.ifCond .ne 25, 3) := by decide +kernel
theorem dX6_applyInstance_51 : decode cX6_applyInstance 51 = .ok (.aload_n 0, 1) := by decide +kernel
theorem dX6_applyInstance_52 : decode cX6_applyInstance 52 = .ok (.getfield 17, 3) := by decide +kernel
theorem dX6_applyInstance_55 : decode cX6_applyInstance 55 = .ok (.iload_n 3, 1) := by decide +kernel
theorem dX6_applyInstance_56 : decode cX6_applyInstance 56 = .ok (.iaload, 1) := by decide +kernel
theorem dX6_applyInstance_57 : decode cX6_applyInstance 57 = .ok (.iload 4, 2) := by decide +kernel
theorem dX6_applyInstance_59 : decode cX6_applyInstance 59 = .ok (.if_icmp .eq 14, 3) := by decide +kernel
theorem dX6_applyInstance_62 : decode cX6_applyInstance 62 = .ok (.aload_n 0, 1) := by decide +kernel
theorem dX6_applyInstance_63 : decode cX6_applyInstance 63 = .ok (.getfield 17, 3) := by decide +kernel
theorem dX6_applyInstance_66 : decode cX6_applyInstance 66 = .ok (.iload_n 3, 1) := by decide +kernel
theorem dX6_applyInstance_67 : decode cX6_applyInstance 67 = .ok (.iload 4, 2) := by decide +kernel
theorem dX6_applyInstance_69 : decode cX6_applyInstance 69 = .ok (.iastore, 1) := by decide +kernel
theorem dX6_applyInstance_70 : decode cX6_applyInstance 70 = .ok (.iinc 2 1, 3) := by decide +kernel
theorem dX6_applyInstance_73 : decode cX6_applyInstance 73 = .ok (.iinc 3 1, 3) := by decide +kernel
theorem dX6_applyInstance_76 : decode cX6_applyInstance 76 = .ok (.goto (-55), 3) := by decide +kernel
theorem dX6_applyInstance_79 : decode cX6_applyInstance 79 = .ok (.iload_n 2, 1) := by decide +kernel
theorem dX6_applyInstance_80 : decode cX6_applyInstance 80 = .ok (.ireturn, 1) := by decide +kernel
theorem dX6_nearestInstance_0 : decode cX6_nearestInstance 0 = .ok (.ldc_w 289, 3) := by decide +kernel
theorem dX6_nearestInstance_3 : decode cX6_nearestInstance 3 = .ok (.istore_n 1, 1) := by decide +kernel
theorem dX6_nearestInstance_4 : decode cX6_nearestInstance 4 = .ok (.ldc_w 303, 3) := by decide +kernel
theorem dX6_nearestInstance_7 : decode cX6_nearestInstance 7 = .ok (.istore_n 2, 1) := by decide +kernel
theorem dX6_nearestInstance_8 : decode cX6_nearestInstance 8 = .ok (.iconst 0, 1) := by decide +kernel
theorem dX6_nearestInstance_9 : decode cX6_nearestInstance 9 = .ok (.istore_n 3, 1) := by decide +kernel
theorem dX6_nearestInstance_10 : decode cX6_nearestInstance 10 = .ok (.iload_n 3, 1) := by decide +kernel
theorem dX6_nearestInstance_11 : decode cX6_nearestInstance 11 = .ok (.aload_n 0, 1) := by decide +kernel
theorem dX6_nearestInstance_12 : decode cX6_nearestInstance 12 = .ok (.getfield 300, 3) := by decide +kernel
theorem dX6_nearestInstance_15 : decode cX6_nearestInstance 15 = .ok (.if_icmp .ge 66, 3) := by decide +kernel
theorem dX6_nearestInstance_18 : decode cX6_nearestInstance 18 = .ok (.iconst 0, 1) := by decide +kernel
theorem dX6_nearestInstance_19 : decode cX6_nearestInstance 19 = .ok (.istore 4, 2) := by decide +kernel
theorem dX6_nearestInstance_21 : decode cX6_nearestInstance 21 = .ok (.iconst 0, 1) := by decide +kernel
theorem dX6_nearestInstance_22 : decode cX6_nearestInstance 22 = .ok (.istore 5, 2) := by decide +kernel
theorem dX6_nearestInstance_24 : decode cX6_nearestInstance 24 = .ok (.iload 5, 2) := by decide +kernel
theorem dX6_nearestInstance_26 : decode cX6_nearestInstance 26 = .ok (.aload_n 0, 1) := by decide +kernel
theorem dX6_nearestInstance_27 : decode cX6_nearestInstance 27 = .ok (.getfield 71, 3) := by decide +kernel
theorem dX6_nearestInstance_30 : decode cX6_nearestInstance 30 = .ok (.if_icmp .ge 34, 3) := by decide +kernel
theorem dX6_nearestInstance_33 : decode cX6_nearestInstance 33 = .ok (.iload 4, 2) := by decide +kernel
theorem dX6_nearestInstance_35 : decode cX6_nearestInstance 35 = .ok (.aload_n 0, 1) := by decide +kernel
theorem dX6_nearestInstance_36 : decode cX6_nearestInstance 36 = .ok (.getfield 52, 3) := by decide +kernel
theorem dX6_nearestInstance_39 : decode cX6_nearestInstance 39 = .ok (.iload_n 3, 1) := by decide +kernel
theorem dX6_nearestInstance_40 : decode cX6_nearestInstance 40 = .ok (.aaload, 1) := by decide +kernel
theorem dX6_nearestInstance_41 : decode cX6_nearestInstance 41 = .ok (.iload 5, 2) := by decide +kernel
theorem dX6_nearestInstance_43 : decode cX6_nearestInstance 43 = .ok (.iaload, 1) := by decide +kernel
theorem dX6_nearestInstance_44 : decode cX6_nearestInstance 44 = .ok (.aload_n 0, 1) := by decide +kernel
theorem dX6_nearestInstance_45 : decode cX6_nearestInstance 45 = .ok (.getfield 17, 3) := by decide +kernel
theorem dX6_nearestInstance_48 : decode cX6_nearestInstance 48 = .ok (.iload 5, 2) := by decide +kernel
theorem dX6_nearestInstance_50 : decode cX6_nearestInstance 50 = .ok (.iaload, 1) := by decide +kernel
theorem dX6_nearestInstance_51 : decode cX6_nearestInstance 51 = .ok (.isub, 1) := by decide +kernel
theorem dX6_nearestInstance_52 : decode cX6_nearestInstance 52 = .ok (.invokestatic 304, 3) := by decide +kernel
theorem dX6_nearestInstance_55 : decode cX6_nearestInstance 55 = .ok (.iadd, 1) := by decide +kernel
theorem dX6_nearestInstance_56 : decode cX6_nearestInstance 56 = .ok (.istore 4, 2) := by decide +kernel
theorem dX6_nearestInstance_58 : decode cX6_nearestInstance 58 = .ok (.iinc 5 1, 3) := by decide +kernel
theorem dX6_nearestInstance_61 : decode cX6_nearestInstance 61 = .ok (.goto (-37), 3) := by decide +kernel
theorem dX6_nearestInstance_64 : decode cX6_nearestInstance 64 = .ok (.iload 4, 2) := by decide +kernel
theorem dX6_nearestInstance_66 : decode cX6_nearestInstance 66 = .ok (.iload_n 2, 1) := by decide +kernel
theorem dX6_nearestInstance_67 : decode cX6_nearestInstance 67 = .ok (.if_icmp .ge 8, 3) := by decide +kernel
theorem dX6_nearestInstance_70 : decode cX6_nearestInstance 70 = .ok (.iload 4, 2) := by decide +kernel
theorem dX6_nearestInstance_72 : decode cX6_nearestInstance 72 = .ok (.istore_n 2, 1) := by decide +kernel
theorem dX6_nearestInstance_73 : decode cX6_nearestInstance 73 = .ok (.iload_n 3, 1) := by decide +kernel
theorem dX6_nearestInstance_74 : decode cX6_nearestInstance 74 = .ok (.istore_n 1, 1) := by decide +kernel
theorem dX6_nearestInstance_75 : decode cX6_nearestInstance 75 = .ok (.iinc 3 1, 3) := by decide +kernel
theorem dX6_nearestInstance_78 : decode cX6_nearestInstance 78 = .ok (.goto (-68), 3) := by decide +kernel
theorem dX6_nearestInstance_81 : decode cX6_nearestInstance 81 = .ok (.iload_n 1, 1) := by decide +kernel
theorem dX6_nearestInstance_82 : decode cX6_nearestInstance 82 = .ok (.ireturn, 1) := by decide +kernel
theorem dX6_type_0 : decode cX6_type 0 = .ok (.aload_n 0, 1) := by decide +kernel
theorem dX6_type_1 : decode cX6_type 1 = .ok (.getfield 58, 3) := by decide +kernel
theorem dX6_type_4 : decode cX6_type 4 = .ok (.iload_n 1, 1) := by decide +kernel
theorem dX6_type_5 : decode cX6_type 5 = .ok (.invokevirtual 309, 3) := by decide +kernel
theorem dX6_type_8 : decode cX6_type 8 = .ok (.ifCond .eq 13, 3) := by decide +kernel
theorem dX6_type_11 : decode cX6_type 11 = .ok (.aload_n 0, 1) := by decide +kernel
theorem dX6_type_12 : decode cX6_type 12 = .ok (.getfield 58, 3) := by decide +kernel
theorem dX6_type_15 : decode cX6_type 15 = .ok (.getfield 313, 3) := by decide +kernel
theorem dX6_type_18 : decode cX6_type 18 = .ok (.goto 5, 3) := by decide +kernel
theorem dX6_type_21 : decode cX6_type 21 = .ok (.ldc 75, 2) := by decide +kernel
theorem dX6_type_23 : decode cX6_type 23 = .ok (.ireturn, 1) := by decide +kernel
theorem dX6_clearText_0 : decode cX6_clearText 0 = .ok (.aload_n 0, 1) := by decide +kernel
theorem dX6_clearText_1 : decode cX6_clearText 1 = .ok (.getfield 58, 3) := by decide +kernel
theorem dX6_clearText_4 : decode cX6_clearText 4 = .ok (.getfield 313, 3) := by decide +kernel
theorem dX6_clearText_7 : decode cX6_clearText 7 = .ok (.istore_n 1, 1) := by decide +kernel
theorem dX6_clearText_8 : decode cX6_clearText 8 = .ok (.aload_n 0, 1) := by decide +kernel
theorem dX6_clearText_9 : decode cX6_clearText 9 = .ok (.getfield 58, 3) := by decide +kernel
theorem dX6_clearText_12 : decode cX6_clearText 12 = .ok (.iconst 0, 1) := by decide +kernel
theorem dX6_clearText_13 : decode cX6_clearText 13 = .ok (.putfield 313, 3) := by decide +kernel
theorem dX6_clearText_16 : decode cX6_clearText 16 = .ok (.iload_n 1, 1) := by decide +kernel
theorem dX6_clearText_17 : decode cX6_clearText 17 = .ok (.ireturn, 1) := by decide +kernel
theorem dX6_readLocation_0 : decode cX6_readLocation 0 = .ok (.aload_n 0, 1) := by decide +kernel
theorem dX6_readLocation_1 : decode cX6_readLocation 1 = .ok (.getfield 58, 3) := by decide +kernel
theorem dX6_readLocation_4 : decode cX6_readLocation 4 = .ok (.aload_n 0, 1) := by decide +kernel
theorem dX6_readLocation_5 : decode cX6_readLocation 5 = .ok (.getfield 71, 3) := by decide +kernel
theorem dX6_readLocation_8 : decode cX6_readLocation 8 = .ok (.aload_n 0, 1) := by decide +kernel
theorem dX6_readLocation_9 : decode cX6_readLocation 9 = .ok (.invokevirtual 278, 3) := by decide +kernel
theorem dX6_readLocation_12 : decode cX6_readLocation 12 = .ok (.invokevirtual 316, 3) := by decide +kernel
theorem dX6_readLocation_15 : decode cX6_readLocation 15 = .ok (.istore_n 1, 1) := by decide +kernel
theorem dX6_readLocation_16 : decode cX6_readLocation 16 = .ok (.iload_n 1, 1) := by decide +kernel
theorem dX6_readLocation_17 : decode cX6_readLocation 17 = .ok (.ifCond .ge 5, 3) := by decide +kernel
theorem dX6_readLocation_20 : decode cX6_readLocation 20 = .ok (.iload_n 1, 1) := by decide +kernel
theorem dX6_readLocation_21 : decode cX6_readLocation 21 = .ok (.ireturn, 1) := by decide +kernel
theorem dX6_readLocation_22 : decode cX6_readLocation 22 = .ok (.iconst 0, 1) := by decide +kernel
theorem dX6_readLocation_23 : decode cX6_readLocation 23 = .ok (.istore_n 2, 1) := by decide +kernel
theorem dX6_readLocation_24 : decode cX6_readLocation 24 = .ok (.iload_n 2, 1) := by decide +kernel
theorem dX6_readLocation_25 : decode cX6_readLocation 25 = .ok (.aload_n 0, 1) := by decide +kernel
theorem dX6_readLocation_26 : decode cX6_readLocation 26 = .ok (.getfield 71, 3) := by decide +kernel
theorem dX6_readLocation_29 : decode cX6_readLocation 29 = .ok (.if_icmp .ge 47, 3) := by decide +kernel
theorem dX6_readLocation_32 : decode cX6_readLocation 32 = .ok (.aload_n 0, 1) := by decide +kernel
theorem dX6_readLocation_33 : decode cX6_readLocation 33 = .ok (.getfield 58, 3) := by decide +kernel
theorem dX6_readLocation_36 : decode cX6_readLocation 36 = .ok (.getfield 319, 3) := by decide +kernel
theorem dX6_readLocation_39 : decode cX6_readLocation 39 = .ok (.iload_n 2, 1) := by decide +kernel
theorem dX6_readLocation_40 : decode cX6_readLocation 40 = .ok (.invokestatic 322, 3) := by decide +kernel
theorem dX6_readLocation_43 : decode cX6_readLocation 43 = .ok (.ifCond .eq 27, 3) := by decide +kernel
theorem dX6_readLocation_46 : decode cX6_readLocation 46 = .ok (.aload_n 0, 1) := by decide +kernel
theorem dX6_readLocation_47 : decode cX6_readLocation 47 = .ok (.getfield 17, 3) := by decide +kernel
theorem dX6_readLocation_50 : decode cX6_readLocation 50 = .ok (.iload_n 2, 1) := by decide +kernel
theorem dX6_readLocation_51 : decode cX6_readLocation 51 = .ok (.aload_n 0, 1) := by decide +kernel
theorem dX6_readLocation_52 : decode cX6_readLocation 52 = .ok (.getfield 13, 3) := by decide +kernel
theorem dX6_readLocation_55 : decode cX6_readLocation 55 = .ok (.iload_n 2, 1) := by decide +kernel
theorem dX6_readLocation_56 : decode cX6_readLocation 56 = .ok (.aaload, 1) := by decide +kernel
theorem dX6_readLocation_57 : decode cX6_readLocation 57 = .ok (.aload_n 0, 1) := by decide +kernel
theorem dX6_readLocation_58 : decode cX6_readLocation 58 = .ok (.getfield 58, 3) := by decide +kernel
theorem dX6_readLocation_61 : decode cX6_readLocation 61 = .ok (.getfield 325, 3) := by decide +kernel
theorem dX6_readLocation_64 : decode cX6_readLocation 64 = .ok (.iload_n 2, 1) := by decide +kernel
theorem dX6_readLocation_65 : decode cX6_readLocation 65 = .ok (.iaload, 1) := by decide +kernel
theorem dX6_readLocation_66 : decode cX6_readLocation 66 = .ok (.invokevirtual 99, 3) := by decide +kernel
theorem dX6_readLocation_69 : decode cX6_readLocation 69 = .ok (.iastore, 1) := by decide +kernel
theorem dX6_readLocation_70 : decode cX6_readLocation 70 = .ok (.iinc 2 1, 3) := by decide +kernel
theorem dX6_readLocation_73 : decode cX6_readLocation 73 = .ok (.goto (-49), 3) := by decide +kernel
theorem dX6_readLocation_76 : decode cX6_readLocation 76 = .ok (.iload_n 1, 1) := by decide +kernel
theorem dX6_readLocation_77 : decode cX6_readLocation 77 = .ok (.ireturn, 1) := by decide +kernel
theorem dX6_count_0 : decode cX6_count 0 = .ok (.iload_n 1, 1) := by decide +kernel
theorem dX6_count_1 : decode cX6_count 1 = .ok (.tableswitch 54 0 3 #[31, 36, 41, 46], 31) := by decide +kernel
theorem dX6_count_32 : decode cX6_count 32 = .ok (.aload_n 0, 1) := by decide +kernel
theorem dX6_count_33 : decode cX6_count 33 = .ok (.getfield 71, 3) := by decide +kernel
theorem dX6_count_36 : decode cX6_count 36 = .ok (.ireturn, 1) := by decide +kernel
theorem dX6_count_37 : decode cX6_count 37 = .ok (.aload_n 0, 1) := by decide +kernel
theorem dX6_count_38 : decode cX6_count 38 = .ok (.getfield 117, 3) := by decide +kernel
theorem dX6_count_41 : decode cX6_count 41 = .ok (.ireturn, 1) := by decide +kernel
theorem dX6_count_42 : decode cX6_count 42 = .ok (.aload_n 0, 1) := by decide +kernel
theorem dX6_count_43 : decode cX6_count 43 = .ok (.getfield 300, 3) := by decide +kernel
theorem dX6_count_46 : decode cX6_count 46 = .ok (.ireturn, 1) := by decide +kernel
theorem dX6_count_47 : decode cX6_count 47 = .ok (.aload_n 0, 1) := by decide +kernel
theorem dX6_count_48 : decode cX6_count 48 = .ok (.getfield 46, 3) := by decide +kernel
theorem dX6_count_51 : decode cX6_count 51 = .ok (.getfield 288, 3) := by decide +kernel
theorem dX6_count_54 : decode cX6_count 54 = .ok (.ireturn, 1) := by decide +kernel
theorem dX6_count_55 : decode cX6_count 55 = .ok (.ldc 70, 2) := by decide +kernel
theorem dX6_count_57 : decode cX6_count 57 = .ok (.ireturn, 1) := by decide +kernel
theorem dX6_within_0 : decode cX6_within 0 = .ok (.iload_n 0, 1) := by decide +kernel
theorem dX6_within_1 : decode cX6_within 1 = .ok (.iload_n 1, 1) := by decide +kernel
theorem dX6_within_2 : decode cX6_within 2 = .ok (.if_icmp .lt 12, 3) := by decide +kernel
theorem dX6_within_5 : decode cX6_within 5 = .ok (.iload_n 0, 1) := by decide +kernel
theorem dX6_within_6 : decode cX6_within 6 = .ok (.iload_n 2, 1) := by decide +kernel
theorem dX6_within_7 : decode cX6_within 7 = .ok (.if_icmp .gt 7, 3) := by decide +kernel
theorem dX6_within_10 : decode cX6_within 10 = .ok (.iconst 1, 1) := by decide +kernel
theorem dX6_within_11 : decode cX6_within 11 = .ok (.goto 4, 3) := by decide +kernel
theorem dX6_within_14 : decode cX6_within 14 = .ok (.iconst 0, 1) := by decide +kernel
theorem dX6_within_15 : decode cX6_within 15 = .ok (.ireturn, 1) := by decide +kernel
theorem dX6_isPosition_0 : decode cX6_isPosition 0 = .ok (.iload_n 0, 1) := by decide +kernel
theorem dX6_isPosition_1 : decode cX6_isPosition 1 = .ok (.sipush (-4000), 3) := by decide +kernel
theorem dX6_isPosition_4 : decode cX6_isPosition 4 = .ok (.sipush 4000, 3) := by decide +kernel
theorem dX6_isPosition_7 : decode cX6_isPosition 7 = .ok (.invokestatic 66, 3) := by decide +kernel
theorem dX6_isPosition_10 : decode cX6_isPosition 10 = .ok (.ifCond .eq 20, 3) := by decide +kernel
theorem dX6_isPosition_13 : decode cX6_isPosition 13 = .ok (.iload_n 1, 1) := by decide +kernel
theorem dX6_isPosition_14 : decode cX6_isPosition 14 = .ok (.sipush (-4000), 3) := by decide +kernel
theorem dX6_isPosition_17 : decode cX6_isPosition 17 = .ok (.sipush 4000, 3) := by decide +kernel
theorem dX6_isPosition_20 : decode cX6_isPosition 20 = .ok (.invokestatic 66, 3) := by decide +kernel
theorem dX6_isPosition_23 : decode cX6_isPosition 23 = .ok (.ifCond .eq 7, 3) := by decide +kernel
theorem dX6_isPosition_26 : decode cX6_isPosition 26 = .ok (.iconst 1, 1) := by decide +kernel
theorem dX6_isPosition_27 : decode cX6_isPosition 27 = .ok (.goto 4, 3) := by decide +kernel
theorem dX6_isPosition_30 : decode cX6_isPosition 30 = .ok (.iconst 0, 1) := by decide +kernel
theorem dX6_isPosition_31 : decode cX6_isPosition 31 = .ok (.ireturn, 1) := by decide +kernel
theorem dX6_hasBit_0 : decode cX6_hasBit 0 = .ok (.iload_n 0, 1) := by decide +kernel
theorem dX6_hasBit_1 : decode cX6_hasBit 1 = .ok (.iconst 1, 1) := by decide +kernel
theorem dX6_hasBit_2 : decode cX6_hasBit 2 = .ok (.iload_n 1, 1) := by decide +kernel
theorem dX6_hasBit_3 : decode cX6_hasBit 3 = .ok (.ishl, 1) := by decide +kernel
theorem dX6_hasBit_4 : decode cX6_hasBit 4 = .ok (.iand, 1) := by decide +kernel
theorem dX6_hasBit_5 : decode cX6_hasBit 5 = .ok (.ifCond .eq 7, 3) := by decide +kernel
theorem dX6_hasBit_8 : decode cX6_hasBit 8 = .ok (.iconst 1, 1) := by decide +kernel
theorem dX6_hasBit_9 : decode cX6_hasBit 9 = .ok (.goto 4, 3) := by decide +kernel
theorem dX6_hasBit_12 : decode cX6_hasBit 12 = .ok (.iconst 0, 1) := by decide +kernel
theorem dX6_hasBit_13 : decode cX6_hasBit 13 = .ok (.ireturn, 1) := by decide +kernel
theorem dX6_haveSameSign_0 : decode cX6_haveSameSign 0 = .ok (.lload_n 0, 1) := by decide +kernel
theorem dX6_haveSameSign_1 : decode cX6_haveSameSign 1 = .ok (.lconst 0, 1) := by decide +kernel
theorem dX6_haveSameSign_2 : decode cX6_haveSameSign 2 = .ok (.lcmp, 1) := by decide +kernel
theorem dX6_haveSameSign_3 : decode cX6_haveSameSign 3 = .ok (.ifCond .le 7, 3) := by decide +kernel
theorem dX6_haveSameSign_6 : decode cX6_haveSameSign 6 = .ok (.iconst 1, 1) := by decide +kernel
theorem dX6_haveSameSign_7 : decode cX6_haveSameSign 7 = .ok (.goto 4, 3) := by decide +kernel
theorem dX6_haveSameSign_10 : decode cX6_haveSameSign 10 = .ok (.iconst 0, 1) := by decide +kernel
theorem dX6_haveSameSign_11 : decode cX6_haveSameSign 11 = .ok (.lload_n 2, 1) := by decide +kernel
theorem dX6_haveSameSign_12 : decode cX6_haveSameSign 12 = .ok (.lconst 0, 1) := by decide +kernel
theorem dX6_haveSameSign_13 : decode cX6_haveSameSign 13 = .ok (.lcmp, 1) := by decide +kernel
theorem dX6_haveSameSign_14 : decode cX6_haveSameSign 14 = .ok (.ifCond .le 7, 3) := by decide +kernel
theorem dX6_haveSameSign_17 : decode cX6_haveSameSign 17 = .ok (.iconst 1, 1) := by decide +kernel
theorem dX6_haveSameSign_18 : decode cX6_haveSameSign 18 = .ok (.goto 4, 3) := by decide +kernel
theorem dX6_haveSameSign_21 : decode cX6_haveSameSign 21 = .ok (.iconst 0, 1) := by decide +kernel
theorem dX6_haveSameSign_22 : decode cX6_haveSameSign 22 = .ok (.if_icmp .ne 32, 3) := by decide +kernel
theorem dX6_haveSameSign_25 : decode cX6_haveSameSign 25 = .ok (.lload_n 0, 1) := by decide +kernel
theorem dX6_haveSameSign_26 : decode cX6_haveSameSign 26 = .ok (.lconst 0, 1) := by decide +kernel
theorem dX6_haveSameSign_27 : decode cX6_haveSameSign 27 = .ok (.lcmp, 1) := by decide +kernel
theorem dX6_haveSameSign_28 : decode cX6_haveSameSign 28 = .ok (.ifCond .ge 7, 3) := by decide +kernel
theorem dX6_haveSameSign_31 : decode cX6_haveSameSign 31 = .ok (.iconst 1, 1) := by decide +kernel
theorem dX6_haveSameSign_32 : decode cX6_haveSameSign 32 = .ok (.goto 4, 3) := by decide +kernel
theorem dX6_haveSameSign_35 : decode cX6_haveSameSign 35 = .ok (.iconst 0, 1) := by decide +kernel
theorem dX6_haveSameSign_36 : decode cX6_haveSameSign 36 = .ok (.lload_n 2, 1) := by decide +kernel
theorem dX6_haveSameSign_37 : decode cX6_haveSameSign 37 = .ok (.lconst 0, 1) := by decide +kernel
theorem dX6_haveSameSign_38 : decode cX6_haveSameSign 38 = .ok (.lcmp, 1) := by decide +kernel
theorem dX6_haveSameSign_39 : decode cX6_haveSameSign 39 = .ok (.ifCond .ge 7, 3) := by decide +kernel
theorem dX6_haveSameSign_42 : decode cX6_haveSameSign 42 = .ok (.iconst 1, 1) := by decide +kernel
theorem dX6_haveSameSign_43 : decode cX6_haveSameSign 43 = .ok (.goto 4, 3) := by decide +kernel
theorem dX6_haveSameSign_46 : decode cX6_haveSameSign 46 = .ok (.iconst 0, 1) := by decide +kernel
theorem dX6_haveSameSign_47 : decode cX6_haveSameSign 47 = .ok (.if_icmp .ne 7, 3) := by decide +kernel
theorem dX6_haveSameSign_50 : decode cX6_haveSameSign 50 = .ok (.iconst 1, 1) := by decide +kernel
theorem dX6_haveSameSign_51 : decode cX6_haveSameSign 51 = .ok (.goto 4, 3) := by decide +kernel
theorem dX6_haveSameSign_54 : decode cX6_haveSameSign 54 = .ok (.iconst 0, 1) := by decide +kernel
theorem dX6_haveSameSign_55 : decode cX6_haveSameSign 55 = .ok (.ireturn, 1) := by decide +kernel
theorem dX6_hasAxis_0 : decode cX6_hasAxis 0 = .ok (.iload_n 1, 1) := by decide +kernel
theorem dX6_hasAxis_1 : decode cX6_hasAxis 1 = .ok (.ifCond .lt 15, 3) := by decide +kernel
theorem dX6_hasAxis_4 : decode cX6_hasAxis 4 = .ok (.iload_n 1, 1) := by decide +kernel
theorem dX6_hasAxis_5 : decode cX6_hasAxis 5 = .ok (.aload_n 0, 1) := by decide +kernel
theorem dX6_hasAxis_6 : decode cX6_hasAxis 6 = .ok (.getfield 71, 3) := by decide +kernel
theorem dX6_hasAxis_9 : decode cX6_hasAxis 9 = .ok (.if_icmp .ge 7, 3) := by decide +kernel
theorem dX6_hasAxis_12 : decode cX6_hasAxis 12 = .ok (.iconst 1, 1) := by decide +kernel
theorem dX6_hasAxis_13 : decode cX6_hasAxis 13 = .ok (.goto 4, 3) := by decide +kernel
theorem dX6_hasAxis_16 : decode cX6_hasAxis 16 = .ok (.iconst 0, 1) := by decide +kernel
theorem dX6_hasAxis_17 : decode cX6_hasAxis 17 = .ok (.ireturn, 1) := by decide +kernel
theorem dX6_hasGlyph_0 : decode cX6_hasGlyph 0 = .ok (.iload_n 1, 1) := by decide +kernel
theorem dX6_hasGlyph_1 : decode cX6_hasGlyph 1 = .ok (.ifCond .lt 15, 3) := by decide +kernel
theorem dX6_hasGlyph_4 : decode cX6_hasGlyph 4 = .ok (.iload_n 1, 1) := by decide +kernel
theorem dX6_hasGlyph_5 : decode cX6_hasGlyph 5 = .ok (.aload_n 0, 1) := by decide +kernel
theorem dX6_hasGlyph_6 : decode cX6_hasGlyph 6 = .ok (.getfield 117, 3) := by decide +kernel
theorem dX6_hasGlyph_9 : decode cX6_hasGlyph 9 = .ok (.if_icmp .ge 7, 3) := by decide +kernel
theorem dX6_hasGlyph_12 : decode cX6_hasGlyph 12 = .ok (.iconst 1, 1) := by decide +kernel
theorem dX6_hasGlyph_13 : decode cX6_hasGlyph 13 = .ok (.goto 4, 3) := by decide +kernel
theorem dX6_hasGlyph_16 : decode cX6_hasGlyph 16 = .ok (.iconst 0, 1) := by decide +kernel
theorem dX6_hasGlyph_17 : decode cX6_hasGlyph 17 = .ok (.ireturn, 1) := by decide +kernel
theorem dX6_hasPlace_0 : decode cX6_hasPlace 0 = .ok (.iload_n 2, 1) := by decide +kernel
theorem dX6_hasPlace_1 : decode cX6_hasPlace 1 = .ok (.iconst (-1), 1) := by decide +kernel
theorem dX6_hasPlace_2 : decode cX6_hasPlace 2 = .ok (.if_icmp .lt 20, 3) := by decide +kernel
theorem dX6_hasPlace_5 : decode cX6_hasPlace 5 = .ok (.iload_n 2, 1) := by decide +kernel
theorem dX6_hasPlace_6 : decode cX6_hasPlace 6 = .ok (.aload_n 0, 1) := by decide +kernel
theorem dX6_hasPlace_7 : decode cX6_hasPlace 7 = .ok (.getfield 29, 3) := by decide +kernel
theorem dX6_hasPlace_10 : decode cX6_hasPlace 10 = .ok (.iload_n 1, 1) := by decide +kernel
theorem dX6_hasPlace_11 : decode cX6_hasPlace 11 = .ok (.aaload, 1) := by decide +kernel
theorem dX6_hasPlace_12 : decode cX6_hasPlace 12 = .ok (.getfield 136, 3) := by decide +kernel
theorem dX6_hasPlace_15 : decode cX6_hasPlace 15 = .ok (.if_icmp .ge 7, 3) := by decide +kernel
theorem dX6_hasPlace_18 : decode cX6_hasPlace 18 = .ok (.iconst 1, 1) := by decide +kernel
theorem dX6_hasPlace_19 : decode cX6_hasPlace 19 = .ok (.goto 4, 3) := by decide +kernel
theorem dX6_hasPlace_22 : decode cX6_hasPlace 22 = .ok (.iconst 0, 1) := by decide +kernel
theorem dX6_hasPlace_23 : decode cX6_hasPlace 23 = .ok (.ireturn, 1) := by decide +kernel
theorem dX6_tupleError_0 : decode cX6_tupleError 0 = .ok (.aload_n 0, 1) := by decide +kernel
theorem dX6_tupleError_1 : decode cX6_tupleError 1 = .ok (.iload_n 1, 1) := by decide +kernel
theorem dX6_tupleError_2 : decode cX6_tupleError 2 = .ok (.invokevirtual 123, 3) := by decide +kernel
theorem dX6_tupleError_5 : decode cX6_tupleError 5 = .ok (.ifCond .ne 6, 3) := by decide +kernel
theorem dX6_tupleError_8 : decode cX6_tupleError 8 = .ok (.ldc 126, 2) := by decide +kernel
theorem dX6_tupleError_10 : decode cX6_tupleError 10 = .ok (.ireturn, 1) := by decide +kernel
theorem dX6_tupleError_11 : decode cX6_tupleError 11 = .ok (.iload_n 2, 1) := by decide +kernel
theorem dX6_tupleError_12 : decode cX6_tupleError 12 = .ok (.iconst 0, 1) := by decide +kernel
theorem dX6_tupleError_13 : decode cX6_tupleError 13 = .ok (.aload_n 0, 1) := by decide +kernel
theorem dX6_tupleError_14 : decode cX6_tupleError 14 = .ok (.getfield 29, 3) := by decide +kernel
theorem dX6_tupleError_17 : decode cX6_tupleError 17 = .ok (.iload_n 1, 1) := by decide +kernel
theorem dX6_tupleError_18 : decode cX6_tupleError 18 = .ok (.aaload, 1) := by decide +kernel
theorem dX6_tupleError_19 : decode cX6_tupleError 19 = .ok (.getfield 157, 3) := by decide +kernel
theorem dX6_tupleError_22 : decode cX6_tupleError 22 = .ok (.iconst 1, 1) := by decide +kernel
theorem dX6_tupleError_23 : decode cX6_tupleError 23 = .ok (.isub, 1) := by decide +kernel
theorem dX6_tupleError_24 : decode cX6_tupleError 24 = .ok (.invokestatic 66, 3) := by decide +kernel
theorem dX6_tupleError_27 : decode cX6_tupleError 27 = .ok (.ifCond .eq 7, 3) := by decide +kernel
theorem dX6_tupleError_30 : decode cX6_tupleError 30 = .ok (.iconst 0, 1) := by decide +kernel
theorem dX6_tupleError_31 : decode cX6_tupleError 31 = .ok (.goto 6, 3) := by decide +kernel
theorem dX6_tupleError_34 : decode cX6_tupleError 34 = .ok (.ldc_w 328, 3) := by decide +kernel
theorem dX6_tupleError_37 : decode cX6_tupleError 37 = .ok (.ireturn, 1) := by decide +kernel
theorem dX6_pointError_0 : decode cX6_pointError 0 = .ok (.aload_n 0, 1) := by decide +kernel
theorem dX6_pointError_1 : decode cX6_pointError 1 = .ok (.iload_n 1, 1) := by decide +kernel
theorem dX6_pointError_2 : decode cX6_pointError 2 = .ok (.iload_n 2, 1) := by decide +kernel
theorem dX6_pointError_3 : decode cX6_pointError 3 = .ok (.invokevirtual 171, 3) := by decide +kernel
theorem dX6_pointError_6 : decode cX6_pointError 6 = .ok (.istore 4, 2) := by decide +kernel
theorem dX6_pointError_8 : decode cX6_pointError 8 = .ok (.iload 4, 2) := by decide +kernel
theorem dX6_pointError_10 : decode cX6_pointError 10 = .ok (.ifCond .eq 6, 3) := by decide +kernel
theorem dX6_pointError_13 : decode cX6_pointError 13 = .ok (.iload 4, 2) := by decide +kernel
theorem dX6_pointError_15 : decode cX6_pointError 15 = .ok (.ireturn, 1) := by decide +kernel
theorem dX6_pointError_16 : decode cX6_pointError 16 = .ok (.aload_n 0, 1) := by decide +kernel
theorem dX6_pointError_17 : decode cX6_pointError 17 = .ok (.iload_n 1, 1) := by decide +kernel
theorem dX6_pointError_18 : decode cX6_pointError 18 = .ok (.iload_n 3, 1) := by decide +kernel
theorem dX6_pointError_19 : decode cX6_pointError 19 = .ok (.invokevirtual 212, 3) := by decide +kernel
theorem dX6_pointError_22 : decode cX6_pointError 22 = .ok (.ifCond .eq 7, 3) := by decide +kernel
theorem dX6_pointError_25 : decode cX6_pointError 25 = .ok (.iconst 0, 1) := by decide +kernel
theorem dX6_pointError_26 : decode cX6_pointError 26 = .ok (.goto 6, 3) := by decide +kernel
theorem dX6_pointError_29 : decode cX6_pointError 29 = .ok (.ldc_w 329, 3) := by decide +kernel
theorem dX6_pointError_32 : decode cX6_pointError 32 = .ok (.ireturn, 1) := by decide +kernel
theorem dX6_isComponent_0 : decode cX6_isComponent 0 = .ok (.iload_n 1, 1) := by decide +kernel
theorem dX6_isComponent_1 : decode cX6_isComponent 1 = .ok (.iconst 1, 1) := by decide +kernel
theorem dX6_isComponent_2 : decode cX6_isComponent 2 = .ok (.iadd, 1) := by decide +kernel
theorem dX6_isComponent_3 : decode cX6_isComponent 3 = .ok (.istore_n 2, 1) := by decide +kernel
theorem dX6_isComponent_4 : decode cX6_isComponent 4 = .ok (.iload_n 2, 1) := by decide +kernel
theorem dX6_isComponent_5 : decode cX6_isComponent 5 = .ok (.aload_n 0, 1) := by decide +kernel
theorem dX6_isComponent_6 : decode cX6_isComponent 6 = .ok (.getfield 117, 3) := by decide +kernel
theorem dX6_isComponent_9 : decode cX6_isComponent 9 = .ok (.if_icmp .ge 24, 3) := by decide +kernel
theorem dX6_isComponent_12 : decode cX6_isComponent 12 = .ok (.aload_n 0, 1) := by decide +kernel
theorem dX6_isComponent_13 : decode cX6_isComponent 13 = .ok (.getfield 29, 3) := by decide +kernel
theorem dX6_isComponent_16 : decode cX6_isComponent 16 = .ok (.iload_n 2, 1) := by decide +kernel
theorem dX6_isComponent_17 : decode cX6_isComponent 17 = .ok (.aaload, 1) := by decide +kernel
theorem dX6_isComponent_18 : decode cX6_isComponent 18 = .ok (.iload_n 1, 1) := by decide +kernel
theorem dX6_isComponent_19 : decode cX6_isComponent 19 = .ok (.invokevirtual 330, 3) := by decide +kernel
theorem dX6_isComponent_22 : decode cX6_isComponent 22 = .ok (.ifCond .eq 5, 3) := by decide +kernel
theorem dX6_isComponent_25 : decode cX6_isComponent 25 = .ok (.iconst 1, 1) := by decide +kernel
theorem dX6_isComponent_26 : decode cX6_isComponent 26 = .ok (.ireturn, 1) := by decide +kernel
theorem dX6_isComponent_27 : decode cX6_isComponent 27 = .ok (.iinc 2 1, 3) := by decide +kernel
theorem dX6_isComponent_30 : decode cX6_isComponent 30 = .ok (.goto (-26), 3) := by decide +kernel
theorem dX6_isComponent_33 : decode cX6_isComponent 33 = .ok (.iconst 0, 1) := by decide +kernel
theorem dX6_isComponent_34 : decode cX6_isComponent 34 = .ok (.ireturn, 1) := by decide +kernel
theorem dX6_roundedQuotient_0 : decode cX6_roundedQuotient 0 = .ok (.lload_n 2, 1) := by decide +kernel
theorem dX6_roundedQuotient_1 : decode cX6_roundedQuotient 1 = .ok (.lconst 0, 1) := by decide +kernel
theorem dX6_roundedQuotient_2 : decode cX6_roundedQuotient 2 = .ok (.lcmp, 1) := by decide +kernel
theorem dX6_roundedQuotient_3 : decode cX6_roundedQuotient 3 = .ok (.ifCond .gt 5, 3) := by decide +kernel
theorem dX6_roundedQuotient_6 : decode cX6_roundedQuotient 6 = .ok (.lconst 0, 1) := by decide +kernel
theorem dX6_roundedQuotient_7 : decode cX6_roundedQuotient 7 = .ok (.lreturn, 1) := by decide +kernel
theorem dX6_roundedQuotient_8 : decode cX6_roundedQuotient 8 = .ok (.ldc2_w 333, 3) := by decide +kernel
theorem dX6_roundedQuotient_11 : decode cX6_roundedQuotient 11 = .ok (.lload_n 0, 1) := by decide +kernel
theorem dX6_roundedQuotient_12 : decode cX6_roundedQuotient 12 = .ok (.lmul, 1) := by decide +kernel
theorem dX6_roundedQuotient_13 : decode cX6_roundedQuotient 13 = .ok (.lload_n 2, 1) := by decide +kernel
theorem dX6_roundedQuotient_14 : decode cX6_roundedQuotient 14 = .ok (.ladd, 1) := by decide +kernel
theorem dX6_roundedQuotient_15 : decode cX6_roundedQuotient 15 = .ok (.ldc2_w 333, 3) := by decide +kernel
theorem dX6_roundedQuotient_18 : decode cX6_roundedQuotient 18 = .ok (.lload_n 2, 1) := by decide +kernel
theorem dX6_roundedQuotient_19 : decode cX6_roundedQuotient 19 = .ok (.lmul, 1) := by decide +kernel
theorem dX6_roundedQuotient_20 : decode cX6_roundedQuotient 20 = .ok (.invokestatic 335, 3) := by decide +kernel
theorem dX6_roundedQuotient_23 : decode cX6_roundedQuotient 23 = .ok (.lreturn, 1) := by decide +kernel
theorem dX6_pinnedAxes_0 : decode cX6_pinnedAxes 0 = .ok (.iconst 0, 1) := by decide +kernel
theorem dX6_pinnedAxes_1 : decode cX6_pinnedAxes 1 = .ok (.istore_n 1, 1) := by decide +kernel
theorem dX6_pinnedAxes_2 : decode cX6_pinnedAxes 2 = .ok (.iconst 0, 1) := by decide +kernel
theorem dX6_pinnedAxes_3 : decode cX6_pinnedAxes 3 = .ok (.istore_n 2, 1) := by decide +kernel
theorem dX6_pinnedAxes_4 : decode cX6_pinnedAxes 4 = .ok (.iload_n 2, 1) := by decide +kernel
theorem dX6_pinnedAxes_5 : decode cX6_pinnedAxes 5 = .ok (.aload_n 0, 1) := by decide +kernel
theorem dX6_pinnedAxes_6 : decode cX6_pinnedAxes 6 = .ok (.getfield 71, 3) := by decide +kernel
theorem dX6_pinnedAxes_9 : decode cX6_pinnedAxes 9 = .ok (.if_icmp .ge 27, 3) := by decide +kernel
theorem dX6_pinnedAxes_12 : decode cX6_pinnedAxes 12 = .ok (.aload_n 0, 1) := by decide +kernel
theorem dX6_pinnedAxes_13 : decode cX6_pinnedAxes 13 = .ok (.getfield 13, 3) := by decide +kernel
theorem dX6_pinnedAxes_16 : decode cX6_pinnedAxes 16 = .ok (.iload_n 2, 1) := by decide +kernel
theorem dX6_pinnedAxes_17 : decode cX6_pinnedAxes 17 = .ok (.aaload, 1) := by decide +kernel
theorem dX6_pinnedAxes_18 : decode cX6_pinnedAxes 18 = .ok (.getfield 103, 3) := by decide +kernel
theorem dX6_pinnedAxes_21 : decode cX6_pinnedAxes 21 = .ok (.ifCond .eq 9, 3) := by decide +kernel
theorem dX6_pinnedAxes_24 : decode cX6_pinnedAxes 24 = .ok (.iload_n 1, 1) := by decide +kernel
theorem dX6_pinnedAxes_25 : decode cX6_pinnedAxes 25 = .ok (.iconst 1, 1) := by decide +kernel
theorem dX6_pinnedAxes_26 : decode cX6_pinnedAxes 26 = .ok (.iload_n 2, 1) := by decide +kernel
theorem dX6_pinnedAxes_27 : decode cX6_pinnedAxes 27 = .ok (.ishl, 1) := by decide +kernel
theorem dX6_pinnedAxes_28 : decode cX6_pinnedAxes 28 = .ok (.ior, 1) := by decide +kernel
theorem dX6_pinnedAxes_29 : decode cX6_pinnedAxes 29 = .ok (.istore_n 1, 1) := by decide +kernel
theorem dX6_pinnedAxes_30 : decode cX6_pinnedAxes 30 = .ok (.iinc 2 1, 3) := by decide +kernel
theorem dX6_pinnedAxes_33 : decode cX6_pinnedAxes 33 = .ok (.goto (-29), 3) := by decide +kernel
theorem dX6_pinnedAxes_36 : decode cX6_pinnedAxes 36 = .ok (.iload_n 1, 1) := by decide +kernel
theorem dX6_pinnedAxes_37 : decode cX6_pinnedAxes 37 = .ok (.ireturn, 1) := by decide +kernel
theorem dX6_drawnPresent_0 : decode cX6_drawnPresent 0 = .ok (.aload_n 0, 1) := by decide +kernel
theorem dX6_drawnPresent_1 : decode cX6_drawnPresent 1 = .ok (.getfield 36, 3) := by decide +kernel
theorem dX6_drawnPresent_4 : decode cX6_drawnPresent 4 = .ok (.invokevirtual 249, 3) := by decide +kernel
theorem dX6_drawnPresent_7 : decode cX6_drawnPresent 7 = .ok (.aload_n 0, 1) := by decide +kernel
theorem dX6_drawnPresent_8 : decode cX6_drawnPresent 8 = .ok (.getfield 29, 3) := by decide +kernel
theorem dX6_drawnPresent_11 : decode cX6_drawnPresent 11 = .ok (.iload_n 1, 1) := by decide +kernel
theorem dX6_drawnPresent_12 : decode cX6_drawnPresent 12 = .ok (.aload_n 0, 1) := by decide +kernel
theorem dX6_drawnPresent_13 : decode cX6_drawnPresent 13 = .ok (.getfield 17, 3) := by decide +kernel
theorem dX6_drawnPresent_16 : decode cX6_drawnPresent 16 = .ok (.aload_n 0, 1) := by decide +kernel
theorem dX6_drawnPresent_17 : decode cX6_drawnPresent 17 = .ok (.getfield 36, 3) := by decide +kernel
theorem dX6_drawnPresent_20 : decode cX6_drawnPresent 20 = .ok (.lconst 0, 1) := by decide +kernel
theorem dX6_drawnPresent_21 : decode cX6_drawnPresent 21 = .ok (.lconst 0, 1) := by decide +kernel
theorem dX6_drawnPresent_22 : decode cX6_drawnPresent 22 = .ok (.iconst 0, 1) := by decide +kernel
theorem dX6_drawnPresent_23 : decode cX6_drawnPresent 23 = .ok (.invokestatic 252, 3) := by decide +kernel
theorem dX6_drawnPresent_26 : decode cX6_drawnPresent 26 = .ok (.aload_n 0, 1) := by decide +kernel
theorem dX6_drawnPresent_27 : decode cX6_drawnPresent 27 = .ok (.getfield 36, 3) := by decide +kernel
theorem dX6_drawnPresent_30 : decode cX6_drawnPresent 30 = .ok (.areturn, 1) := by decide +kernel
theorem dX6_draw_0 : decode cX6_draw 0 = .ok (.iload_n 1, 1) := by decide +kernel
theorem dX6_draw_1 : decode cX6_draw 1 = .ok (.ifCond .lt 16, 3) := by decide +kernel
theorem dX6_draw_4 : decode cX6_draw 4 = .ok (.iload_n 1, 1) := by decide +kernel
theorem dX6_draw_5 : decode cX6_draw 5 = .ok (.bipush 6, 2) := by decide +kernel
theorem dX6_draw_7 : decode cX6_draw 7 = .ok (.if_icmp .ge 10, 3) := by decide +kernel
theorem dX6_draw_10 : decode cX6_draw 10 = .ok (.iload 8, 2) := by decide +kernel
theorem dX6_draw_12 : decode cX6_draw 12 = .ok (.bipush 6, 2) := by decide +kernel
theorem dX6_draw_14 : decode cX6_draw 14 = .ok (.if_icmp .lt 4, 3) := by decide +kernel
theorem dX6_draw_17 : decode cX6_draw 17 = .ok (.return_, 1) := by decide +kernel
theorem dX6_draw_18 : decode cX6_draw 18 = .ok (.aload_n 0, 1) := by decide +kernel
theorem dX6_draw_19 : decode cX6_draw 19 = .ok (.iload_n 1, 1) := by decide +kernel
theorem dX6_draw_20 : decode cX6_draw 20 = .ok (.aaload, 1) := by decide +kernel
theorem dX6_draw_21 : decode cX6_draw 21 = .ok (.astore 9, 2) := by decide +kernel
theorem dX6_draw_23 : decode cX6_draw 23 = .ok (.aload_n 3, 1) := by decide +kernel
theorem dX6_draw_24 : decode cX6_draw 24 = .ok (.getfield 154, 3) := by decide +kernel
theorem dX6_draw_27 : decode cX6_draw 27 = .ok (.istore 10, 2) := by decide +kernel
theorem dX6_draw_29 : decode cX6_draw 29 = .ok (.iconst 1, 1) := by decide +kernel
theorem dX6_draw_30 : decode cX6_draw 30 = .ok (.istore 11, 2) := by decide +kernel
theorem dX6_draw_32 : decode cX6_draw 32 = .ok (.iload 11, 2) := by decide +kernel
theorem dX6_draw_34 : decode cX6_draw 34 = .ok (.aload 9, 2) := by decide +kernel
theorem dX6_draw_36 : decode cX6_draw 36 = .ok (.getfield 136, 3) := by decide +kernel
theorem dX6_draw_39 : decode cX6_draw 39 = .ok (.if_icmp .gt 93, 3) := by decide +kernel
theorem dX6_draw_42 : decode cX6_draw 42 = .ok (.lload 4, 2) := by decide +kernel
theorem dX6_draw_44 : decode cX6_draw 44 = .ok (.aload 9, 2) := by decide +kernel
theorem dX6_draw_46 : decode cX6_draw 46 = .ok (.iload 11, 2) := by decide +kernel
theorem dX6_draw_48 : decode cX6_draw 48 = .ok (.iconst 0, 1) := by decide +kernel
theorem dX6_draw_49 : decode cX6_draw 49 = .ok (.aload_n 2, 1) := by decide +kernel
theorem dX6_draw_50 : decode cX6_draw 50 = .ok (.bipush 15, 2) := by decide +kernel
theorem dX6_draw_52 : decode cX6_draw 52 = .ok (.invokevirtual 220, 3) := by decide +kernel
theorem dX6_draw_55 : decode cX6_draw 55 = .ok (.ladd, 1) := by decide +kernel
theorem dX6_draw_56 : decode cX6_draw 56 = .ok (.lstore 12, 2) := by decide +kernel
theorem dX6_draw_58 : decode cX6_draw 58 = .ok (.lload 6, 2) := by decide +kernel
theorem dX6_draw_60 : decode cX6_draw 60 = .ok (.aload 9, 2) := by decide +kernel
theorem dX6_draw_62 : decode cX6_draw 62 = .ok (.iload 11, 2) := by decide +kernel
theorem dX6_draw_64 : decode cX6_draw 64 = .ok (.iconst 1, 1) := by decide +kernel
theorem dX6_draw_65 : decode cX6_draw 65 = .ok (.aload_n 2, 1) := by decide +kernel
theorem dX6_draw_66 : decode cX6_draw 66 = .ok (.bipush 15, 2) := by decide +kernel
theorem dX6_draw_68 : decode cX6_draw 68 = .ok (.invokevirtual 220, 3) := by decide +kernel
theorem dX6_draw_71 : decode cX6_draw 71 = .ok (.ladd, 1) := by decide +kernel
theorem dX6_draw_72 : decode cX6_draw 72 = .ok (.lstore 14, 2) := by decide +kernel
theorem dX6_draw_74 : decode cX6_draw 74 = .ok (.aload 9, 2) := by decide +kernel
theorem dX6_draw_76 : decode cX6_draw 76 = .ok (.getfield 130, 3) := by decide +kernel
theorem dX6_draw_79 : decode cX6_draw 79 = .ok (.ifCond .eq 28, 3) := by decide +kernel
theorem dX6_draw_82 : decode cX6_draw 82 = .ok (.aload_n 0, 1) := by decide +kernel
theorem dX6_draw_83 : decode cX6_draw 83 = .ok (.aload 9, 2) := by decide +kernel
theorem dX6_draw_85 : decode cX6_draw 85 = .ok (.getfield 339, 3) := by decide +kernel
theorem dX6_draw_88 : decode cX6_draw 88 = .ok (.iload 11, 2) := by decide +kernel
theorem dX6_draw_90 : decode cX6_draw 90 = .ok (.iaload, 1) := by decide +kernel
theorem dX6_draw_91 : decode cX6_draw 91 = .ok (.aload_n 2, 1) := by decide +kernel
theorem dX6_draw_92 : decode cX6_draw 92 = .ok (.aload_n 3, 1) := by decide +kernel
theorem dX6_draw_93 : decode cX6_draw 93 = .ok (.lload 12, 2) := by decide +kernel
theorem dX6_draw_95 : decode cX6_draw 95 = .ok (.lload 14, 2) := by decide +kernel
theorem dX6_draw_97 : decode cX6_draw 97 = .ok (.iload 8, 2) := by decide +kernel
theorem dX6_draw_99 : decode cX6_draw 99 = .ok (.iconst 1, 1) := by decide +kernel
theorem dX6_draw_100 : decode cX6_draw 100 = .ok (.iadd, 1) := by decide +kernel
theorem dX6_draw_101 : decode cX6_draw 101 = .ok (.invokestatic 252, 3) := by decide +kernel
theorem dX6_draw_104 : decode cX6_draw 104 = .ok (.goto 22, 3) := by decide +kernel
theorem dX6_draw_107 : decode cX6_draw 107 = .ok (.aload_n 3, 1) := by decide +kernel
theorem dX6_draw_108 : decode cX6_draw 108 = .ok (.lload 12, 2) := by decide +kernel
theorem dX6_draw_110 : decode cX6_draw 110 = .ok (.lload 14, 2) := by decide +kernel
theorem dX6_draw_112 : decode cX6_draw 112 = .ok (.iload 10, 2) := by decide +kernel
theorem dX6_draw_114 : decode cX6_draw 114 = .ok (.aload 9, 2) := by decide +kernel
theorem dX6_draw_116 : decode cX6_draw 116 = .ok (.getfield 342, 3) := by decide +kernel
theorem dX6_draw_119 : decode cX6_draw 119 = .ok (.iload 11, 2) := by decide +kernel
theorem dX6_draw_121 : decode cX6_draw 121 = .ok (.iaload, 1) := by decide +kernel
theorem dX6_draw_122 : decode cX6_draw 122 = .ok (.iadd, 1) := by decide +kernel
theorem dX6_draw_123 : decode cX6_draw 123 = .ok (.invokevirtual 343, 3) := by decide +kernel
theorem dX6_draw_126 : decode cX6_draw 126 = .ok (.iinc 11 1, 3) := by decide +kernel
theorem dX6_draw_129 : decode cX6_draw 129 = .ok (.goto (-97), 3) := by decide +kernel
theorem dX6_draw_132 : decode cX6_draw 132 = .ok (.return_, 1) := by decide +kernel

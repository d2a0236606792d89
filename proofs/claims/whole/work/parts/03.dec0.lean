theorem dX0_init_0 : decode cX0_init 0 = .ok (.aload_n 0, 1) := by decide +kernel
theorem dX0_init_1 : decode cX0_init 1 = .ok (.invokespecial 3, 3) := by decide +kernel
theorem dX0_init_4 : decode cX0_init 4 = .ok (.aload_n 0, 1) := by decide +kernel
theorem dX0_init_5 : decode cX0_init 5 = .ok (.bipush 8, 2) := by decide +kernel
theorem dX0_init_7 : decode cX0_init 7 = .ok (.newarray .int, 2) := by decide +kernel
theorem dX0_init_9 : decode cX0_init 9 = .ok (.putfield 9, 3) := by decide +kernel
theorem dX0_init_12 : decode cX0_init 12 = .ok (.aload_n 0, 1) := by decide +kernel
theorem dX0_init_13 : decode cX0_init 13 = .ok (.bipush 8, 2) := by decide +kernel
theorem dX0_init_15 : decode cX0_init 15 = .ok (.newarray .int, 2) := by decide +kernel
theorem dX0_init_17 : decode cX0_init 17 = .ok (.putfield 15, 3) := by decide +kernel
theorem dX0_init_20 : decode cX0_init 20 = .ok (.return_, 1) := by decide +kernel
theorem dX0_begin_0 : decode cX0_begin 0 = .ok (.aload_n 0, 1) := by decide +kernel
theorem dX0_begin_1 : decode cX0_begin 1 = .ok (.iload_n 1, 1) := by decide +kernel
theorem dX0_begin_2 : decode cX0_begin 2 = .ok (.putfield 18, 3) := by decide +kernel
theorem dX0_begin_5 : decode cX0_begin 5 = .ok (.aload_n 0, 1) := by decide +kernel
theorem dX0_begin_6 : decode cX0_begin 6 = .ok (.iload_n 2, 1) := by decide +kernel
theorem dX0_begin_7 : decode cX0_begin 7 = .ok (.putfield 22, 3) := by decide +kernel
theorem dX0_begin_10 : decode cX0_begin 10 = .ok (.aload_n 0, 1) := by decide +kernel
theorem dX0_begin_11 : decode cX0_begin 11 = .ok (.iload_n 3, 1) := by decide +kernel
theorem dX0_begin_12 : decode cX0_begin 12 = .ok (.putfield 25, 3) := by decide +kernel
theorem dX0_begin_15 : decode cX0_begin 15 = .ok (.iconst 0, 1) := by decide +kernel
theorem dX0_begin_16 : decode cX0_begin 16 = .ok (.istore 4, 2) := by decide +kernel
theorem dX0_begin_18 : decode cX0_begin 18 = .ok (.iload 4, 2) := by decide +kernel
theorem dX0_begin_20 : decode cX0_begin 20 = .ok (.iconst 3, 1) := by decide +kernel
theorem dX0_begin_21 : decode cX0_begin 21 = .ok (.if_icmp .ge 38, 3) := by decide +kernel
theorem dX0_begin_24 : decode cX0_begin 24 = .ok (.aload_n 0, 1) := by decide +kernel
theorem dX0_begin_25 : decode cX0_begin 25 = .ok (.getfield 9, 3) := by decide +kernel
theorem dX0_begin_28 : decode cX0_begin 28 = .ok (.iload 4, 2) := by decide +kernel
theorem dX0_begin_30 : decode cX0_begin 30 = .ok (.iload 4, 2) := by decide +kernel
theorem dX0_begin_32 : decode cX0_begin 32 = .ok (.iconst 1, 1) := by decide +kernel
theorem dX0_begin_33 : decode cX0_begin 33 = .ok (.isub, 1) := by decide +kernel
theorem dX0_begin_34 : decode cX0_begin 34 = .ok (.sipush 16384, 3) := by decide +kernel
theorem dX0_begin_37 : decode cX0_begin 37 = .ok (.imul, 1) := by decide +kernel
theorem dX0_begin_38 : decode cX0_begin 38 = .ok (.iastore, 1) := by decide +kernel
theorem dX0_begin_39 : decode cX0_begin 39 = .ok (.aload_n 0, 1) := by decide +kernel
theorem dX0_begin_40 : decode cX0_begin 40 = .ok (.getfield 15, 3) := by decide +kernel
theorem dX0_begin_43 : decode cX0_begin 43 = .ok (.iload 4, 2) := by decide +kernel
theorem dX0_begin_45 : decode cX0_begin 45 = .ok (.aload_n 0, 1) := by decide +kernel
theorem dX0_begin_46 : decode cX0_begin 46 = .ok (.getfield 9, 3) := by decide +kernel
theorem dX0_begin_49 : decode cX0_begin 49 = .ok (.iload 4, 2) := by decide +kernel
theorem dX0_begin_51 : decode cX0_begin 51 = .ok (.iaload, 1) := by decide +kernel
theorem dX0_begin_52 : decode cX0_begin 52 = .ok (.iastore, 1) := by decide +kernel
theorem dX0_begin_53 : decode cX0_begin 53 = .ok (.iinc 4 1, 3) := by decide +kernel
theorem dX0_begin_56 : decode cX0_begin 56 = .ok (.goto (-38), 3) := by decide +kernel
theorem dX0_begin_59 : decode cX0_begin 59 = .ok (.aload_n 0, 1) := by decide +kernel
theorem dX0_begin_60 : decode cX0_begin 60 = .ok (.iconst 3, 1) := by decide +kernel
theorem dX0_begin_61 : decode cX0_begin 61 = .ok (.putfield 28, 3) := by decide +kernel
theorem dX0_begin_64 : decode cX0_begin 64 = .ok (.return_, 1) := by decide +kernel
theorem dX0_coordinateFor_0 : decode cX0_coordinateFor 0 = .ok (.aload_n 0, 1) := by decide +kernel
theorem dX0_coordinateFor_1 : decode cX0_coordinateFor 1 = .ok (.aload_n 0, 1) := by decide +kernel
theorem dX0_coordinateFor_2 : decode cX0_coordinateFor 2 = .ok (.aload_n 0, 1) := by decide +kernel
theorem dX0_coordinateFor_3 : decode cX0_coordinateFor 3 = .ok (.getfield 18, 3) := by decide +kernel
theorem dX0_coordinateFor_6 : decode cX0_coordinateFor 6 = .ok (.iload_n 1, 1) := by decide +kernel
theorem dX0_coordinateFor_7 : decode cX0_coordinateFor 7 = .ok (.aload_n 0, 1) := by decide +kernel
theorem dX0_coordinateFor_8 : decode cX0_coordinateFor 8 = .ok (.getfield 25, 3) := by decide +kernel
theorem dX0_coordinateFor_11 : decode cX0_coordinateFor 11 = .ok (.invokestatic 31, 3) := by decide +kernel
theorem dX0_coordinateFor_14 : decode cX0_coordinateFor 14 = .ok (.invokestatic 37, 3) := by decide +kernel
theorem dX0_coordinateFor_17 : decode cX0_coordinateFor 17 = .ok (.invokevirtual 40, 3) := by decide +kernel
theorem dX0_coordinateFor_20 : decode cX0_coordinateFor 20 = .ok (.invokevirtual 44, 3) := by decide +kernel
theorem dX0_coordinateFor_23 : decode cX0_coordinateFor 23 = .ok (.ireturn, 1) := by decide +kernel
theorem dX0_unmapped_0 : decode cX0_unmapped 0 = .ok (.iload_n 1, 1) := by decide +kernel
theorem dX0_unmapped_1 : decode cX0_unmapped 1 = .ok (.aload_n 0, 1) := by decide +kernel
theorem dX0_unmapped_2 : decode cX0_unmapped 2 = .ok (.getfield 22, 3) := by decide +kernel
theorem dX0_unmapped_5 : decode cX0_unmapped 5 = .ok (.if_icmp .ge 30, 3) := by decide +kernel
theorem dX0_unmapped_8 : decode cX0_unmapped 8 = .ok (.aload_n 0, 1) := by decide +kernel
theorem dX0_unmapped_9 : decode cX0_unmapped 9 = .ok (.getfield 22, 3) := by decide +kernel
theorem dX0_unmapped_12 : decode cX0_unmapped 12 = .ok (.iload_n 1, 1) := by decide +kernel
theorem dX0_unmapped_13 : decode cX0_unmapped 13 = .ok (.isub, 1) := by decide +kernel
theorem dX0_unmapped_14 : decode cX0_unmapped 14 = .ok (.i2l, 1) := by decide +kernel
theorem dX0_unmapped_15 : decode cX0_unmapped 15 = .ok (.ldc2_w 47, 3) := by decide +kernel
theorem dX0_unmapped_18 : decode cX0_unmapped 18 = .ok (.lmul, 1) := by decide +kernel
theorem dX0_unmapped_19 : decode cX0_unmapped 19 = .ok (.aload_n 0, 1) := by decide +kernel
theorem dX0_unmapped_20 : decode cX0_unmapped 20 = .ok (.getfield 22, 3) := by decide +kernel
theorem dX0_unmapped_23 : decode cX0_unmapped 23 = .ok (.aload_n 0, 1) := by decide +kernel
theorem dX0_unmapped_24 : decode cX0_unmapped 24 = .ok (.getfield 18, 3) := by decide +kernel
theorem dX0_unmapped_27 : decode cX0_unmapped 27 = .ok (.isub, 1) := by decide +kernel
theorem dX0_unmapped_28 : decode cX0_unmapped 28 = .ok (.i2l, 1) := by decide +kernel
theorem dX0_unmapped_29 : decode cX0_unmapped 29 = .ok (.invokestatic 49, 3) := by decide +kernel
theorem dX0_unmapped_32 : decode cX0_unmapped 32 = .ok (.l2i, 1) := by decide +kernel
theorem dX0_unmapped_33 : decode cX0_unmapped 33 = .ok (.ineg, 1) := by decide +kernel
theorem dX0_unmapped_34 : decode cX0_unmapped 34 = .ok (.ireturn, 1) := by decide +kernel
theorem dX0_unmapped_35 : decode cX0_unmapped 35 = .ok (.iload_n 1, 1) := by decide +kernel
theorem dX0_unmapped_36 : decode cX0_unmapped 36 = .ok (.aload_n 0, 1) := by decide +kernel
theorem dX0_unmapped_37 : decode cX0_unmapped 37 = .ok (.getfield 22, 3) := by decide +kernel
theorem dX0_unmapped_40 : decode cX0_unmapped 40 = .ok (.if_icmp .le 29, 3) := by decide +kernel
theorem dX0_unmapped_43 : decode cX0_unmapped 43 = .ok (.iload_n 1, 1) := by decide +kernel
theorem dX0_unmapped_44 : decode cX0_unmapped 44 = .ok (.aload_n 0, 1) := by decide +kernel
theorem dX0_unmapped_45 : decode cX0_unmapped 45 = .ok (.getfield 22, 3) := by decide +kernel
theorem dX0_unmapped_48 : decode cX0_unmapped 48 = .ok (.isub, 1) := by decide +kernel
theorem dX0_unmapped_49 : decode cX0_unmapped 49 = .ok (.i2l, 1) := by decide +kernel
theorem dX0_unmapped_50 : decode cX0_unmapped 50 = .ok (.ldc2_w 47, 3) := by decide +kernel
theorem dX0_unmapped_53 : decode cX0_unmapped 53 = .ok (.lmul, 1) := by decide +kernel
theorem dX0_unmapped_54 : decode cX0_unmapped 54 = .ok (.aload_n 0, 1) := by decide +kernel
theorem dX0_unmapped_55 : decode cX0_unmapped 55 = .ok (.getfield 25, 3) := by decide +kernel
theorem dX0_unmapped_58 : decode cX0_unmapped 58 = .ok (.aload_n 0, 1) := by decide +kernel
theorem dX0_unmapped_59 : decode cX0_unmapped 59 = .ok (.getfield 22, 3) := by decide +kernel
theorem dX0_unmapped_62 : decode cX0_unmapped 62 = .ok (.isub, 1) := by decide +kernel
theorem dX0_unmapped_63 : decode cX0_unmapped 63 = .ok (.i2l, 1) := by decide +kernel
theorem dX0_unmapped_64 : decode cX0_unmapped 64 = .ok (.invokestatic 49, 3) := by decide +kernel
theorem dX0_unmapped_67 : decode cX0_unmapped 67 = .ok (.l2i, 1) := by decide +kernel
theorem dX0_unmapped_68 : decode cX0_unmapped 68 = .ok (.ireturn, 1) := by decide +kernel
theorem dX0_unmapped_69 : decode cX0_unmapped 69 = .ok (.iconst 0, 1) := by decide +kernel
theorem dX0_unmapped_70 : decode cX0_unmapped 70 = .ok (.ireturn, 1) := by decide +kernel
theorem dX0_mapped_0 : decode cX0_mapped 0 = .ok (.iconst 0, 1) := by decide +kernel
theorem dX0_mapped_1 : decode cX0_mapped 1 = .ok (.istore_n 2, 1) := by decide +kernel
theorem dX0_mapped_2 : decode cX0_mapped 2 = .ok (.iload_n 2, 1) := by decide +kernel
theorem dX0_mapped_3 : decode cX0_mapped 3 = .ok (.iconst 1, 1) := by decide +kernel
theorem dX0_mapped_4 : decode cX0_mapped 4 = .ok (.iadd, 1) := by decide +kernel
theorem dX0_mapped_5 : decode cX0_mapped 5 = .ok (.aload_n 0, 1) := by decide +kernel
theorem dX0_mapped_6 : decode cX0_mapped 6 = .ok (.getfield 28, 3) := by decide +kernel
theorem dX0_mapped_9 : decode cX0_mapped 9 = .ok (.if_icmp .ge 87, 3) := by decide +kernel
theorem dX0_mapped_12 : decode cX0_mapped 12 = .ok (.aload_n 0, 1) := by decide +kernel
theorem dX0_mapped_13 : decode cX0_mapped 13 = .ok (.getfield 9, 3) := by decide +kernel
theorem dX0_mapped_16 : decode cX0_mapped 16 = .ok (.iload_n 2, 1) := by decide +kernel
theorem dX0_mapped_17 : decode cX0_mapped 17 = .ok (.iaload, 1) := by decide +kernel
theorem dX0_mapped_18 : decode cX0_mapped 18 = .ok (.iload_n 1, 1) := by decide +kernel
theorem dX0_mapped_19 : decode cX0_mapped 19 = .ok (.if_icmp .gt 71, 3) := by decide +kernel
theorem dX0_mapped_22 : decode cX0_mapped 22 = .ok (.iload_n 1, 1) := by decide +kernel
theorem dX0_mapped_23 : decode cX0_mapped 23 = .ok (.aload_n 0, 1) := by decide +kernel
theorem dX0_mapped_24 : decode cX0_mapped 24 = .ok (.getfield 9, 3) := by decide +kernel
theorem dX0_mapped_27 : decode cX0_mapped 27 = .ok (.iload_n 2, 1) := by decide +kernel
theorem dX0_mapped_28 : decode cX0_mapped 28 = .ok (.iconst 1, 1) := by decide +kernel
theorem dX0_mapped_29 : decode cX0_mapped 29 = .ok (.iadd, 1) := by decide +kernel
theorem dX0_mapped_30 : decode cX0_mapped 30 = .ok (.iaload, 1) := by decide +kernel
theorem dX0_mapped_31 : decode cX0_mapped 31 = .ok (.if_icmp .ge 59, 3) := by decide +kernel
theorem dX0_mapped_34 : decode cX0_mapped 34 = .ok (.iload_n 1, 1) := by decide +kernel
theorem dX0_mapped_35 : decode cX0_mapped 35 = .ok (.aload_n 0, 1) := by decide +kernel
theorem dX0_mapped_36 : decode cX0_mapped 36 = .ok (.getfield 9, 3) := by decide +kernel
theorem dX0_mapped_39 : decode cX0_mapped 39 = .ok (.iload_n 2, 1) := by decide +kernel
theorem dX0_mapped_40 : decode cX0_mapped 40 = .ok (.iaload, 1) := by decide +kernel
theorem dX0_mapped_41 : decode cX0_mapped 41 = .ok (.isub, 1) := by decide +kernel
theorem dX0_mapped_42 : decode cX0_mapped 42 = .ok (.i2l, 1) := by decide +kernel
theorem dX0_mapped_43 : decode cX0_mapped 43 = .ok (.aload_n 0, 1) := by decide +kernel
theorem dX0_mapped_44 : decode cX0_mapped 44 = .ok (.getfield 15, 3) := by decide +kernel
theorem dX0_mapped_47 : decode cX0_mapped 47 = .ok (.iload_n 2, 1) := by decide +kernel
theorem dX0_mapped_48 : decode cX0_mapped 48 = .ok (.iconst 1, 1) := by decide +kernel
theorem dX0_mapped_49 : decode cX0_mapped 49 = .ok (.iadd, 1) := by decide +kernel
theorem dX0_mapped_50 : decode cX0_mapped 50 = .ok (.iaload, 1) := by decide +kernel
theorem dX0_mapped_51 : decode cX0_mapped 51 = .ok (.aload_n 0, 1) := by decide +kernel
theorem dX0_mapped_52 : decode cX0_mapped 52 = .ok (.getfield 15, 3) := by decide +kernel
theorem dX0_mapped_55 : decode cX0_mapped 55 = .ok (.iload_n 2, 1) := by decide +kernel
theorem dX0_mapped_56 : decode cX0_mapped 56 = .ok (.iaload, 1) := by decide +kernel
theorem dX0_mapped_57 : decode cX0_mapped 57 = .ok (.isub, 1) := by decide +kernel
theorem dX0_mapped_58 : decode cX0_mapped 58 = .ok (.i2l, 1) := by decide +kernel
theorem dX0_mapped_59 : decode cX0_mapped 59 = .ok (.lmul, 1) := by decide +kernel
theorem dX0_mapped_60 : decode cX0_mapped 60 = .ok (.lstore_n 3, 1) := by decide +kernel
theorem dX0_mapped_61 : decode cX0_mapped 61 = .ok (.aload_n 0, 1) := by decide +kernel
theorem dX0_mapped_62 : decode cX0_mapped 62 = .ok (.getfield 15, 3) := by decide +kernel
theorem dX0_mapped_65 : decode cX0_mapped 65 = .ok (.iload_n 2, 1) := by decide +kernel
theorem dX0_mapped_66 : decode cX0_mapped 66 = .ok (.iaload, 1) := by decide +kernel
theorem dX0_mapped_67 : decode cX0_mapped 67 = .ok (.lload_n 3, 1) := by decide +kernel
theorem dX0_mapped_68 : decode cX0_mapped 68 = .ok (.aload_n 0, 1) := by decide +kernel
theorem dX0_mapped_69 : decode cX0_mapped 69 = .ok (.getfield 9, 3) := by decide +kernel
theorem dX0_mapped_72 : decode cX0_mapped 72 = .ok (.iload_n 2, 1) := by decide +kernel
theorem dX0_mapped_73 : decode cX0_mapped 73 = .ok (.iconst 1, 1) := by decide +kernel
theorem dX0_mapped_74 : decode cX0_mapped 74 = .ok (.iadd, 1) := by decide +kernel
theorem dX0_mapped_75 : decode cX0_mapped 75 = .ok (.iaload, 1) := by decide +kernel
theorem dX0_mapped_76 : decode cX0_mapped 76 = .ok (.aload_n 0, 1) := by decide +kernel
theorem dX0_mapped_77 : decode cX0_mapped 77 = .ok (.getfield 9, 3) := by decide +kernel
theorem dX0_mapped_80 : decode cX0_mapped 80 = .ok (.iload_n 2, 1) := by decide +kernel
theorem dX0_mapped_81 : decode cX0_mapped 81 = .ok (.iaload, 1) := by decide +kernel
theorem dX0_mapped_82 : decode cX0_mapped 82 = .ok (.isub, 1) := by decide +kernel
theorem dX0_mapped_83 : decode cX0_mapped 83 = .ok (.i2l, 1) := by decide +kernel
theorem dX0_mapped_84 : decode cX0_mapped 84 = .ok (.invokestatic 49, 3) := by decide +kernel
theorem dX0_mapped_87 : decode cX0_mapped 87 = .ok (.l2i, 1) := by decide +kernel
theorem dX0_mapped_88 : decode cX0_mapped 88 = .ok (.iadd, 1) := by decide +kernel
theorem dX0_mapped_89 : decode cX0_mapped 89 = .ok (.ireturn, 1) := by decide +kernel
theorem dX0_mapped_90 : decode cX0_mapped 90 = .ok (.iinc 2 1, 3) := by decide +kernel
theorem dX0_mapped_93 : decode cX0_mapped 93 = .ok (.goto (-91), 3) := by decide +kernel
theorem dX0_mapped_96 : decode cX0_mapped 96 = .ok (.sipush 16384, 3) := by decide +kernel
theorem dX0_mapped_99 : decode cX0_mapped 99 = .ok (.ireturn, 1) := by decide +kernel
theorem dX0_hasPair_0 : decode cX0_hasPair 0 = .ok (.aload_n 0, 1) := by decide +kernel
theorem dX0_hasPair_1 : decode cX0_hasPair 1 = .ok (.getfield 9, 3) := by decide +kernel
theorem dX0_hasPair_4 : decode cX0_hasPair 4 = .ok (.aload_n 0, 1) := by decide +kernel
theorem dX0_hasPair_5 : decode cX0_hasPair 5 = .ok (.iload_n 1, 1) := by decide +kernel
theorem dX0_hasPair_6 : decode cX0_hasPair 6 = .ok (.invokevirtual 53, 3) := by decide +kernel
theorem dX0_hasPair_9 : decode cX0_hasPair 9 = .ok (.iaload, 1) := by decide +kernel
theorem dX0_hasPair_10 : decode cX0_hasPair 10 = .ok (.iload_n 1, 1) := by decide +kernel
theorem dX0_hasPair_11 : decode cX0_hasPair 11 = .ok (.if_icmp .ne 7, 3) := by decide +kernel
theorem dX0_hasPair_14 : decode cX0_hasPair 14 = .ok (.iconst 1, 1) := by decide +kernel
theorem dX0_hasPair_15 : decode cX0_hasPair 15 = .ok (.goto 4, 3) := by decide +kernel
theorem dX0_hasPair_18 : decode cX0_hasPair 18 = .ok (.iconst 0, 1) := by decide +kernel
theorem dX0_hasPair_19 : decode cX0_hasPair 19 = .ok (.ireturn, 1) := by decide +kernel
theorem dX0_keepsOrder_0 : decode cX0_keepsOrder 0 = .ok (.iconst 0, 1) := by decide +kernel
theorem dX0_keepsOrder_1 : decode cX0_keepsOrder 1 = .ok (.istore_n 3, 1) := by decide +kernel
theorem dX0_keepsOrder_2 : decode cX0_keepsOrder 2 = .ok (.iload_n 3, 1) := by decide +kernel
theorem dX0_keepsOrder_3 : decode cX0_keepsOrder 3 = .ok (.aload_n 0, 1) := by decide +kernel
theorem dX0_keepsOrder_4 : decode cX0_keepsOrder 4 = .ok (.getfield 28, 3) := by decide +kernel
theorem dX0_keepsOrder_7 : decode cX0_keepsOrder 7 = .ok (.if_icmp .ge 51, 3) := by decide +kernel
theorem dX0_keepsOrder_10 : decode cX0_keepsOrder 10 = .ok (.aload_n 0, 1) := by decide +kernel
theorem dX0_keepsOrder_11 : decode cX0_keepsOrder 11 = .ok (.getfield 9, 3) := by decide +kernel
theorem dX0_keepsOrder_14 : decode cX0_keepsOrder 14 = .ok (.iload_n 3, 1) := by decide +kernel
theorem dX0_keepsOrder_15 : decode cX0_keepsOrder 15 = .ok (.iaload, 1) := by decide +kernel
theorem dX0_keepsOrder_16 : decode cX0_keepsOrder 16 = .ok (.iload_n 1, 1) := by decide +kernel
theorem dX0_keepsOrder_17 : decode cX0_keepsOrder 17 = .ok (.if_icmp .ge 13, 3) := by decide +kernel
theorem dX0_keepsOrder_20 : decode cX0_keepsOrder 20 = .ok (.aload_n 0, 1) := by decide +kernel
theorem dX0_keepsOrder_21 : decode cX0_keepsOrder 21 = .ok (.getfield 15, 3) := by decide +kernel
theorem dX0_keepsOrder_24 : decode cX0_keepsOrder 24 = .ok (.iload_n 3, 1) := by decide +kernel
theorem dX0_keepsOrder_25 : decode cX0_keepsOrder 25 = .ok (.iaload, 1) := by decide +kernel
theorem dX0_keepsOrder_26 : decode cX0_keepsOrder 26 = .ok (.iload_n 2, 1) := by decide +kernel
theorem dX0_keepsOrder_27 : decode cX0_keepsOrder 27 = .ok (.if_icmp .gt 23, 3) := by decide +kernel
theorem dX0_keepsOrder_30 : decode cX0_keepsOrder 30 = .ok (.aload_n 0, 1) := by decide +kernel
theorem dX0_keepsOrder_31 : decode cX0_keepsOrder 31 = .ok (.getfield 9, 3) := by decide +kernel
theorem dX0_keepsOrder_34 : decode cX0_keepsOrder 34 = .ok (.iload_n 3, 1) := by decide +kernel
theorem dX0_keepsOrder_35 : decode cX0_keepsOrder 35 = .ok (.iaload, 1) := by decide +kernel
theorem dX0_keepsOrder_36 : decode cX0_keepsOrder 36 = .ok (.iload_n 1, 1) := by decide +kernel
theorem dX0_keepsOrder_37 : decode cX0_keepsOrder 37 = .ok (.if_icmp .le 15, 3) := by decide +kernel
theorem dX0_keepsOrder_40 : decode cX0_keepsOrder 40 = .ok (.aload_n 0, 1) := by decide +kernel
theorem dX0_keepsOrder_41 : decode cX0_keepsOrder 41 = .ok (.getfield 15, 3) := by decide +kernel
theorem dX0_keepsOrder_44 : decode cX0_keepsOrder 44 = .ok (.iload_n 3, 1) := by decide +kernel
theorem dX0_keepsOrder_45 : decode cX0_keepsOrder 45 = .ok (.iaload, 1) := by decide +kernel
theorem dX0_keepsOrder_46 : decode cX0_keepsOrder 46 = .ok (.iload_n 2, 1) := by decide +kernel
theorem dX0_keepsOrder_47 : decode cX0_keepsOrder 47 = .ok (.if_icmp .ge 5, 3) := by decide +kernel
theorem dX0_keepsOrder_50 : decode cX0_keepsOrder 50 = .ok (.iconst 0, 1) := by decide +kernel
theorem dX0_keepsOrder_51 : decode cX0_keepsOrder 51 = .ok (.ireturn, 1) := by decide +kernel
theorem dX0_keepsOrder_52 : decode cX0_keepsOrder 52 = .ok (.iinc 3 1, 3) := by decide +kernel
theorem dX0_keepsOrder_55 : decode cX0_keepsOrder 55 = .ok (.goto (-53), 3) := by decide +kernel
theorem dX0_keepsOrder_58 : decode cX0_keepsOrder 58 = .ok (.iconst 1, 1) := by decide +kernel
theorem dX0_keepsOrder_59 : decode cX0_keepsOrder 59 = .ok (.ireturn, 1) := by decide +kernel
theorem dX0_putPair_0 : decode cX0_putPair 0 = .ok (.aload_n 0, 1) := by decide +kernel
theorem dX0_putPair_1 : decode cX0_putPair 1 = .ok (.iload_n 1, 1) := by decide +kernel
theorem dX0_putPair_2 : decode cX0_putPair 2 = .ok (.invokevirtual 53, 3) := by decide +kernel
theorem dX0_putPair_5 : decode cX0_putPair 5 = .ok (.istore_n 3, 1) := by decide +kernel
theorem dX0_putPair_6 : decode cX0_putPair 6 = .ok (.aload_n 0, 1) := by decide +kernel
theorem dX0_putPair_7 : decode cX0_putPair 7 = .ok (.getfield 9, 3) := by decide +kernel
theorem dX0_putPair_10 : decode cX0_putPair 10 = .ok (.iload_n 3, 1) := by decide +kernel
theorem dX0_putPair_11 : decode cX0_putPair 11 = .ok (.iaload, 1) := by decide +kernel
theorem dX0_putPair_12 : decode cX0_putPair 12 = .ok (.iload_n 1, 1) := by decide +kernel
theorem dX0_putPair_13 : decode cX0_putPair 13 = .ok (.if_icmp .eq 79, 3) := by decide +kernel
theorem dX0_putPair_16 : decode cX0_putPair 16 = .ok (.aload_n 0, 1) := by decide +kernel
theorem dX0_putPair_17 : decode cX0_putPair 17 = .ok (.getfield 28, 3) := by decide +kernel
theorem dX0_putPair_20 : decode cX0_putPair 20 = .ok (.bipush 8, 2) := by decide +kernel
theorem dX0_putPair_22 : decode cX0_putPair 22 = .ok (.if_icmp .ge 70, 3) := by decide +kernel
theorem dX0_putPair_25 : decode cX0_putPair 25 = .ok (.aload_n 0, 1) := by decide +kernel
theorem dX0_putPair_26 : decode cX0_putPair 26 = .ok (.getfield 28, 3) := by decide +kernel
theorem dX0_putPair_29 : decode cX0_putPair 29 = .ok (.istore 4, 2) := by decide +kernel
theorem dX0_putPair_31 : decode cX0_putPair 31 = .ok (.iload 4, 2) := by decide +kernel
theorem dX0_putPair_33 : decode cX0_putPair 33 = .ok (.iload_n 3, 1) := by decide +kernel
theorem dX0_putPair_34 : decode cX0_putPair 34 = .ok (.if_icmp .le 41, 3) := by decide +kernel
theorem dX0_putPair_37 : decode cX0_putPair 37 = .ok (.aload_n 0, 1) := by decide +kernel
theorem dX0_putPair_38 : decode cX0_putPair 38 = .ok (.getfield 9, 3) := by decide +kernel
theorem dX0_putPair_41 : decode cX0_putPair 41 = .ok (.iload 4, 2) := by decide +kernel
theorem dX0_putPair_43 : decode cX0_putPair 43 = .ok (.aload_n 0, 1) := by decide +kernel
theorem dX0_putPair_44 : decode cX0_putPair 44 = .ok (.getfield 9, 3) := by decide +kernel
theorem dX0_putPair_47 : decode cX0_putPair 47 = .ok (.iload 4, 2) := by decide +kernel
theorem dX0_putPair_49 : decode cX0_putPair 49 = .ok (.iconst 1, 1) := by decide +kernel
theorem dX0_putPair_50 : decode cX0_putPair 50 = .ok (.isub, 1) := by decide +kernel
theorem dX0_putPair_51 : decode cX0_putPair 51 = .ok (.iaload, 1) := by decide +kernel
theorem dX0_putPair_52 : decode cX0_putPair 52 = .ok (.iastore, 1) := by decide +kernel
theorem dX0_putPair_53 : decode cX0_putPair 53 = .ok (.aload_n 0, 1) := by decide +kernel
theorem dX0_putPair_54 : decode cX0_putPair 54 = .ok (.getfield 15, 3) := by decide +kernel
theorem dX0_putPair_57 : decode cX0_putPair 57 = .ok (.iload 4, 2) := by decide +kernel
theorem dX0_putPair_59 : decode cX0_putPair 59 = .ok (.aload_n 0, 1) := by decide +kernel
theorem dX0_putPair_60 : decode cX0_putPair 60 = .ok (.getfield 15, 3) := by decide +kernel
theorem dX0_putPair_63 : decode cX0_putPair 63 = .ok (.iload 4, 2) := by decide +kernel
theorem dX0_putPair_65 : decode cX0_putPair 65 = .ok (.iconst 1, 1) := by decide +kernel
theorem dX0_putPair_66 : decode cX0_putPair 66 = .ok (.isub, 1) := by decide +kernel
theorem dX0_putPair_67 : decode cX0_putPair 67 = .ok (.iaload, 1) := by decide +kernel
theorem dX0_putPair_68 : decode cX0_putPair 68 = .ok (.iastore, 1) := by decide +kernel
theorem dX0_putPair_69 : decode cX0_putPair 69 = .ok (.iinc 4 (-1), 3) := by decide +kernel
theorem dX0_putPair_72 : decode cX0_putPair 72 = .ok (.goto (-41), 3) := by decide +kernel
theorem dX0_putPair_75 : decode cX0_putPair 75 = .ok (.aload_n 0, 1) := by decide +kernel
theorem dX0_putPair_76 : decode cX0_putPair 76 = .ok (.getfield 9, 3) := by decide +kernel
theorem dX0_putPair_79 : decode cX0_putPair 79 = .ok (.iload_n 3, 1) := by decide +kernel
theorem dX0_putPair_80 : decode cX0_putPair 80 = .ok (.iload_n 1, 1) := by decide +kernel
theorem dX0_putPair_81 : decode cX0_putPair 81 = .ok (.iastore, 1) := by decide +kernel
theorem dX0_putPair_82 : decode cX0_putPair 82 = .ok (.aload_n 0, 1) := by decide +kernel
theorem dX0_putPair_83 : decode cX0_putPair 83 = .ok (.dup, 1) := by decide +kernel
theorem dX0_putPair_84 : decode cX0_putPair 84 = .ok (.getfield 28, 3) := by decide +kernel
theorem dX0_putPair_87 : decode cX0_putPair 87 = .ok (.iconst 1, 1) := by decide +kernel
theorem dX0_putPair_88 : decode cX0_putPair 88 = .ok (.iadd, 1) := by decide +kernel
theorem dX0_putPair_89 : decode cX0_putPair 89 = .ok (.putfield 28, 3) := by decide +kernel
theorem dX0_putPair_92 : decode cX0_putPair 92 = .ok (.aload_n 0, 1) := by decide +kernel
theorem dX0_putPair_93 : decode cX0_putPair 93 = .ok (.getfield 15, 3) := by decide +kernel
theorem dX0_putPair_96 : decode cX0_putPair 96 = .ok (.iload_n 3, 1) := by decide +kernel
theorem dX0_putPair_97 : decode cX0_putPair 97 = .ok (.iload_n 2, 1) := by decide +kernel
theorem dX0_putPair_98 : decode cX0_putPair 98 = .ok (.iastore, 1) := by decide +kernel
theorem dX0_putPair_99 : decode cX0_putPair 99 = .ok (.return_, 1) := by decide +kernel
theorem dX0_firstPairNotBefore_0 : decode cX0_firstPairNotBefore 0 = .ok (.iconst 0, 1) := by decide +kernel
theorem dX0_firstPairNotBefore_1 : decode cX0_firstPairNotBefore 1 = .ok (.istore_n 2, 1) := by decide +kernel
theorem dX0_firstPairNotBefore_2 : decode cX0_firstPairNotBefore 2 = .ok (.iload_n 2, 1) := by decide +kernel
theorem dX0_firstPairNotBefore_3 : decode cX0_firstPairNotBefore 3 = .ok (.iconst 1, 1) := by decide +kernel
theorem dX0_firstPairNotBefore_4 : decode cX0_firstPairNotBefore 4 = .ok (.iadd, 1) := by decide +kernel
theorem dX0_firstPairNotBefore_5 : decode cX0_firstPairNotBefore 5 = .ok (.aload_n 0, 1) := by decide +kernel
theorem dX0_firstPairNotBefore_6 : decode cX0_firstPairNotBefore 6 = .ok (.getfield 28, 3) := by decide +kernel
theorem dX0_firstPairNotBefore_9 : decode cX0_firstPairNotBefore 9 = .ok (.if_icmp .ge 19, 3) := by decide +kernel
theorem dX0_firstPairNotBefore_12 : decode cX0_firstPairNotBefore 12 = .ok (.aload_n 0, 1) := by decide +kernel
theorem dX0_firstPairNotBefore_13 : decode cX0_firstPairNotBefore 13 = .ok (.getfield 9, 3) := by decide +kernel
theorem dX0_firstPairNotBefore_16 : decode cX0_firstPairNotBefore 16 = .ok (.iload_n 2, 1) := by decide +kernel
theorem dX0_firstPairNotBefore_17 : decode cX0_firstPairNotBefore 17 = .ok (.iaload, 1) := by decide +kernel
theorem dX0_firstPairNotBefore_18 : decode cX0_firstPairNotBefore 18 = .ok (.iload_n 1, 1) := by decide +kernel
theorem dX0_firstPairNotBefore_19 : decode cX0_firstPairNotBefore 19 = .ok (.if_icmp .ge 9, 3) := by decide +kernel
theorem dX0_firstPairNotBefore_22 : decode cX0_firstPairNotBefore 22 = .ok (.iinc 2 1, 3) := by decide +kernel
theorem dX0_firstPairNotBefore_25 : decode cX0_firstPairNotBefore 25 = .ok (.goto (-23), 3) := by decide +kernel
theorem dX0_firstPairNotBefore_28 : decode cX0_firstPairNotBefore 28 = .ok (.iload_n 2, 1) := by decide +kernel
theorem dX0_firstPairNotBefore_29 : decode cX0_firstPairNotBefore 29 = .ok (.ireturn, 1) := by decide +kernel
theorem dX1_init_0 : decode cX1_init 0 = .ok (.aload_n 0, 1) := by decide +kernel
theorem dX1_init_1 : decode cX1_init 1 = .ok (.invokespecial 3, 3) := by decide +kernel
theorem dX1_init_4 : decode cX1_init 4 = .ok (.aload_n 0, 1) := by decide +kernel
theorem dX1_init_5 : decode cX1_init 5 = .ok (.bipush 25, 2) := by decide +kernel
theorem dX1_init_7 : decode cX1_init 7 = .ok (.newarray .int, 2) := by decide +kernel
theorem dX1_init_9 : decode cX1_init 9 = .ok (.putfield 9, 3) := by decide +kernel
theorem dX1_init_12 : decode cX1_init 12 = .ok (.aload_n 0, 1) := by decide +kernel
theorem dX1_init_13 : decode cX1_init 13 = .ok (.bipush 25, 2) := by decide +kernel
theorem dX1_init_15 : decode cX1_init 15 = .ok (.newarray .int, 2) := by decide +kernel
theorem dX1_init_17 : decode cX1_init 17 = .ok (.putfield 15, 3) := by decide +kernel
theorem dX1_init_20 : decode cX1_init 20 = .ok (.aload_n 0, 1) := by decide +kernel
theorem dX1_init_21 : decode cX1_init 21 = .ok (.bipush 25, 2) := by decide +kernel
theorem dX1_init_23 : decode cX1_init 23 = .ok (.newarray .int, 2) := by decide +kernel
theorem dX1_init_25 : decode cX1_init 25 = .ok (.putfield 18, 3) := by decide +kernel
theorem dX1_init_28 : decode cX1_init 28 = .ok (.aload_n 0, 1) := by decide +kernel
theorem dX1_init_29 : decode cX1_init 29 = .ok (.iconst 5, 1) := by decide +kernel
theorem dX1_init_30 : decode cX1_init 30 = .ok (.newarray .int, 2) := by decide +kernel
theorem dX1_init_32 : decode cX1_init 32 = .ok (.putfield 21, 3) := by decide +kernel
theorem dX1_init_35 : decode cX1_init 35 = .ok (.aload_n 0, 1) := by decide +kernel
theorem dX1_init_36 : decode cX1_init 36 = .ok (.iconst 5, 1) := by decide +kernel
theorem dX1_init_37 : decode cX1_init 37 = .ok (.anewarray 24, 3) := by decide +kernel
theorem dX1_init_40 : decode cX1_init 40 = .ok (.putfield 26, 3) := by decide +kernel
theorem dX1_init_43 : decode cX1_init 43 = .ok (.iconst 0, 1) := by decide +kernel
theorem dX1_init_44 : decode cX1_init 44 = .ok (.istore_n 1, 1) := by decide +kernel
theorem dX1_init_45 : decode cX1_init 45 = .ok (.iload_n 1, 1) := by decide +kernel
theorem dX1_init_46 : decode cX1_init 46 = .ok (.iconst 5, 1) := by decide +kernel
theorem dX1_init_47 : decode cX1_init 47 = .ok (.if_icmp .ge 22, 3) := by decide +kernel
theorem dX1_init_50 : decode cX1_init 50 = .ok (.aload_n 0, 1) := by decide +kernel
theorem dX1_init_51 : decode cX1_init 51 = .ok (.getfield 26, 3) := by decide +kernel
theorem dX1_init_54 : decode cX1_init 54 = .ok (.iload_n 1, 1) := by decide +kernel
theorem dX1_init_55 : decode cX1_init 55 = .ok (.new 24, 3) := by decide +kernel
theorem dX1_init_58 : decode cX1_init 58 = .ok (.dup, 1) := by decide +kernel
theorem dX1_init_59 : decode cX1_init 59 = .ok (.invokespecial 30, 3) := by decide +kernel
theorem dX1_init_62 : decode cX1_init 62 = .ok (.aastore, 1) := by decide +kernel
theorem dX1_init_63 : decode cX1_init 63 = .ok (.iinc 1 1, 3) := by decide +kernel
theorem dX1_init_66 : decode cX1_init 66 = .ok (.goto (-21), 3) := by decide +kernel
theorem dX1_init_69 : decode cX1_init 69 = .ok (.return_, 1) := by decide +kernel
theorem dX1_begin_0 : decode cX1_begin 0 = .ok (.aload_n 0, 1) := by decide +kernel
theorem dX1_begin_1 : decode cX1_begin 1 = .ok (.iload_n 1, 1) := by decide +kernel
theorem dX1_begin_2 : decode cX1_begin 2 = .ok (.putfield 31, 3) := by decide +kernel
theorem dX1_begin_5 : decode cX1_begin 5 = .ok (.aload_n 0, 1) := by decide +kernel
theorem dX1_begin_6 : decode cX1_begin 6 = .ok (.getfield 9, 3) := by decide +kernel
theorem dX1_begin_9 : decode cX1_begin 9 = .ok (.iconst 0, 1) := by decide +kernel
theorem dX1_begin_10 : decode cX1_begin 10 = .ok (.iload_n 2, 1) := by decide +kernel
theorem dX1_begin_11 : decode cX1_begin 11 = .ok (.iastore, 1) := by decide +kernel
theorem dX1_begin_12 : decode cX1_begin 12 = .ok (.return_, 1) := by decide +kernel
theorem dX1_copyFrom_0 : decode cX1_copyFrom 0 = .ok (.aload_n 0, 1) := by decide +kernel
theorem dX1_copyFrom_1 : decode cX1_copyFrom 1 = .ok (.aload_n 1, 1) := by decide +kernel
theorem dX1_copyFrom_2 : decode cX1_copyFrom 2 = .ok (.getfield 31, 3) := by decide +kernel
theorem dX1_copyFrom_5 : decode cX1_copyFrom 5 = .ok (.putfield 31, 3) := by decide +kernel
theorem dX1_copyFrom_8 : decode cX1_copyFrom 8 = .ok (.aload_n 0, 1) := by decide +kernel
theorem dX1_copyFrom_9 : decode cX1_copyFrom 9 = .ok (.aload_n 1, 1) := by decide +kernel
theorem dX1_copyFrom_10 : decode cX1_copyFrom 10 = .ok (.getfield 35, 3) := by decide +kernel
theorem dX1_copyFrom_13 : decode cX1_copyFrom 13 = .ok (.putfield 35, 3) := by decide +kernel
theorem dX1_copyFrom_16 : decode cX1_copyFrom 16 = .ok (.aload_n 1, 1) := by decide +kernel
theorem dX1_copyFrom_17 : decode cX1_copyFrom 17 = .ok (.getfield 9, 3) := by decide +kernel
theorem dX1_copyFrom_20 : decode cX1_copyFrom 20 = .ok (.iconst 0, 1) := by decide +kernel
theorem dX1_copyFrom_21 : decode cX1_copyFrom 21 = .ok (.aload_n 0, 1) := by decide +kernel
theorem dX1_copyFrom_22 : decode cX1_copyFrom 22 = .ok (.getfield 9, 3) := by decide +kernel
theorem dX1_copyFrom_25 : decode cX1_copyFrom 25 = .ok (.iconst 0, 1) := by decide +kernel
theorem dX1_copyFrom_26 : decode cX1_copyFrom 26 = .ok (.bipush 25, 2) := by decide +kernel
theorem dX1_copyFrom_28 : decode cX1_copyFrom 28 = .ok (.invokestatic 39, 3) := by decide +kernel
theorem dX1_copyFrom_31 : decode cX1_copyFrom 31 = .ok (.aload_n 1, 1) := by decide +kernel
theorem dX1_copyFrom_32 : decode cX1_copyFrom 32 = .ok (.getfield 15, 3) := by decide +kernel
theorem dX1_copyFrom_35 : decode cX1_copyFrom 35 = .ok (.iconst 0, 1) := by decide +kernel
theorem dX1_copyFrom_36 : decode cX1_copyFrom 36 = .ok (.aload_n 0, 1) := by decide +kernel
theorem dX1_copyFrom_37 : decode cX1_copyFrom 37 = .ok (.getfield 15, 3) := by decide +kernel
theorem dX1_copyFrom_40 : decode cX1_copyFrom 40 = .ok (.iconst 0, 1) := by decide +kernel
theorem dX1_copyFrom_41 : decode cX1_copyFrom 41 = .ok (.bipush 25, 2) := by decide +kernel
theorem dX1_copyFrom_43 : decode cX1_copyFrom 43 = .ok (.invokestatic 39, 3) := by decide +kernel
theorem dX1_copyFrom_46 : decode cX1_copyFrom 46 = .ok (.aload_n 1, 1) := by decide +kernel
theorem dX1_copyFrom_47 : decode cX1_copyFrom 47 = .ok (.getfield 18, 3) := by decide +kernel
theorem dX1_copyFrom_50 : decode cX1_copyFrom 50 = .ok (.iconst 0, 1) := by decide +kernel
theorem dX1_copyFrom_51 : decode cX1_copyFrom 51 = .ok (.aload_n 0, 1) := by decide +kernel
theorem dX1_copyFrom_52 : decode cX1_copyFrom 52 = .ok (.getfield 18, 3) := by decide +kernel
theorem dX1_copyFrom_55 : decode cX1_copyFrom 55 = .ok (.iconst 0, 1) := by decide +kernel
theorem dX1_copyFrom_56 : decode cX1_copyFrom 56 = .ok (.bipush 25, 2) := by decide +kernel
theorem dX1_copyFrom_58 : decode cX1_copyFrom 58 = .ok (.invokestatic 39, 3) := by decide +kernel
theorem dX1_copyFrom_61 : decode cX1_copyFrom 61 = .ok (.aload_n 1, 1) := by decide +kernel
theorem dX1_copyFrom_62 : decode cX1_copyFrom 62 = .ok (.getfield 21, 3) := by decide +kernel
theorem dX1_copyFrom_65 : decode cX1_copyFrom 65 = .ok (.iconst 0, 1) := by decide +kernel
theorem dX1_copyFrom_66 : decode cX1_copyFrom 66 = .ok (.aload_n 0, 1) := by decide +kernel
theorem dX1_copyFrom_67 : decode cX1_copyFrom 67 = .ok (.getfield 21, 3) := by decide +kernel
theorem dX1_copyFrom_70 : decode cX1_copyFrom 70 = .ok (.iconst 0, 1) := by decide +kernel
theorem dX1_copyFrom_71 : decode cX1_copyFrom 71 = .ok (.iconst 5, 1) := by decide +kernel
theorem dX1_copyFrom_72 : decode cX1_copyFrom 72 = .ok (.invokestatic 39, 3) := by decide +kernel
theorem dX1_copyFrom_75 : decode cX1_copyFrom 75 = .ok (.aload_n 0, 1) := by decide +kernel
theorem dX1_copyFrom_76 : decode cX1_copyFrom 76 = .ok (.aload_n 1, 1) := by decide +kernel
theorem dX1_copyFrom_77 : decode cX1_copyFrom 77 = .ok (.getfield 45, 3) := by decide +kernel
theorem dX1_copyFrom_80 : decode cX1_copyFrom 80 = .ok (.putfield 45, 3) := by decide +kernel
theorem dX1_copyFrom_83 : decode cX1_copyFrom 83 = .ok (.iconst 0, 1) := by decide +kernel
theorem dX1_copyFrom_84 : decode cX1_copyFrom 84 = .ok (.istore_n 2, 1) := by decide +kernel
theorem dX1_copyFrom_85 : decode cX1_copyFrom 85 = .ok (.iload_n 2, 1) := by decide +kernel
theorem dX1_copyFrom_86 : decode cX1_copyFrom 86 = .ok (.aload_n 0, 1) := by decide +kernel
theorem dX1_copyFrom_87 : decode cX1_copyFrom 87 = .ok (.getfield 45, 3) := by decide +kernel
theorem dX1_copyFrom_90 : decode cX1_copyFrom 90 = .ok (.if_icmp .ge 24, 3) := by decide +kernel
theorem dX1_copyFrom_93 : decode cX1_copyFrom 93 = .ok (.aload_n 0, 1) := by decide +kernel
theorem dX1_copyFrom_94 : decode cX1_copyFrom 94 = .ok (.getfield 26, 3) := by decide +kernel
theorem dX1_copyFrom_97 : decode cX1_copyFrom 97 = .ok (.iload_n 2, 1) := by decide +kernel
theorem dX1_copyFrom_98 : decode cX1_copyFrom 98 = .ok (.aaload, 1) := by decide +kernel
theorem dX1_copyFrom_99 : decode cX1_copyFrom 99 = .ok (.aload_n 1, 1) := by decide +kernel
theorem dX1_copyFrom_100 : decode cX1_copyFrom 100 = .ok (.getfield 26, 3) := by decide +kernel
theorem dX1_copyFrom_103 : decode cX1_copyFrom 103 = .ok (.iload_n 2, 1) := by decide +kernel
theorem dX1_copyFrom_104 : decode cX1_copyFrom 104 = .ok (.aaload, 1) := by decide +kernel
theorem dX1_copyFrom_105 : decode cX1_copyFrom 105 = .ok (.invokevirtual 48, 3) := by decide +kernel
theorem dX1_copyFrom_108 : decode cX1_copyFrom 108 = .ok (.iinc 2 1, 3) := by decide +kernel
theorem dX1_copyFrom_111 : decode cX1_copyFrom 111 = .ok (.goto (-26), 3) := by decide +kernel
theorem dX1_copyFrom_114 : decode cX1_copyFrom 114 = .ok (.return_, 1) := by decide +kernel
theorem dX1_appendPoint_0 : decode cX1_appendPoint 0 = .ok (.aload_n 0, 1) := by decide +kernel
theorem dX1_appendPoint_1 : decode cX1_appendPoint 1 = .ok (.iload_n 1, 1) := by decide +kernel
theorem dX1_appendPoint_2 : decode cX1_appendPoint 2 = .ok (.iload_n 2, 1) := by decide +kernel
theorem dX1_appendPoint_3 : decode cX1_appendPoint 3 = .ok (.invokevirtual 52, 3) := by decide +kernel
theorem dX1_appendPoint_6 : decode cX1_appendPoint 6 = .ok (.aload_n 0, 1) := by decide +kernel
theorem dX1_appendPoint_7 : decode cX1_appendPoint 7 = .ok (.getfield 18, 3) := by decide +kernel
theorem dX1_appendPoint_10 : decode cX1_appendPoint 10 = .ok (.aload_n 0, 1) := by decide +kernel
theorem dX1_appendPoint_11 : decode cX1_appendPoint 11 = .ok (.getfield 35, 3) := by decide +kernel
theorem dX1_appendPoint_14 : decode cX1_appendPoint 14 = .ok (.aload_n 0, 1) := by decide +kernel
theorem dX1_appendPoint_15 : decode cX1_appendPoint 15 = .ok (.getfield 35, 3) := by decide +kernel
theorem dX1_appendPoint_18 : decode cX1_appendPoint 18 = .ok (.iconst 1, 1) := by decide +kernel
theorem dX1_appendPoint_19 : decode cX1_appendPoint 19 = .ok (.if_icmp .ne 7, 3) := by decide +kernel
theorem dX1_appendPoint_22 : decode cX1_appendPoint 22 = .ok (.iconst 0, 1) := by decide +kernel
theorem dX1_appendPoint_23 : decode cX1_appendPoint 23 = .ok (.goto 24, 3) := by decide +kernel
theorem dX1_appendPoint_26 : decode cX1_appendPoint 26 = .ok (.aload_n 0, 1) := by decide +kernel
theorem dX1_appendPoint_27 : decode cX1_appendPoint 27 = .ok (.getfield 18, 3) := by decide +kernel
theorem dX1_appendPoint_30 : decode cX1_appendPoint 30 = .ok (.aload_n 0, 1) := by decide +kernel
theorem dX1_appendPoint_31 : decode cX1_appendPoint 31 = .ok (.getfield 35, 3) := by decide +kernel
theorem dX1_appendPoint_34 : decode cX1_appendPoint 34 = .ok (.iconst 1, 1) := by decide +kernel
theorem dX1_appendPoint_35 : decode cX1_appendPoint 35 = .ok (.isub, 1) := by decide +kernel
theorem dX1_appendPoint_36 : decode cX1_appendPoint 36 = .ok (.iaload, 1) := by decide +kernel
theorem dX1_appendPoint_37 : decode cX1_appendPoint 37 = .ok (.iload_n 3, 1) := by decide +kernel
theorem dX1_appendPoint_38 : decode cX1_appendPoint 38 = .ok (.ifCond .eq 7, 3) := by decide +kernel
theorem dX1_appendPoint_41 : decode cX1_appendPoint 41 = .ok (.iconst 1, 1) := by decide +kernel
theorem dX1_appendPoint_42 : decode cX1_appendPoint 42 = .ok (.goto 4, 3) := by decide +kernel
theorem dX1_appendPoint_45 : decode cX1_appendPoint 45 = .ok (.iconst 0, 1) := by decide +kernel
theorem dX1_appendPoint_46 : decode cX1_appendPoint 46 = .ok (.iadd, 1) := by decide +kernel
theorem dX1_appendPoint_47 : decode cX1_appendPoint 47 = .ok (.iastore, 1) := by decide +kernel
theorem dX1_appendPoint_48 : decode cX1_appendPoint 48 = .ok (.aload_n 0, 1) := by decide +kernel
theorem dX1_appendPoint_49 : decode cX1_appendPoint 49 = .ok (.getfield 35, 3) := by decide +kernel
theorem dX1_appendPoint_52 : decode cX1_appendPoint 52 = .ok (.iconst 1, 1) := by decide +kernel
theorem dX1_appendPoint_53 : decode cX1_appendPoint 53 = .ok (.isub, 1) := by decide +kernel
theorem dX1_appendPoint_54 : decode cX1_appendPoint 54 = .ok (.ireturn, 1) := by decide +kernel
theorem dX1_appendComponent_0 : decode cX1_appendComponent 0 = .ok (.aload_n 0, 1) := by decide +kernel
theorem dX1_appendComponent_1 : decode cX1_appendComponent 1 = .ok (.iload_n 2, 1) := by decide +kernel
theorem dX1_appendComponent_2 : decode cX1_appendComponent 2 = .ok (.iload_n 3, 1) := by decide +kernel
theorem dX1_appendComponent_3 : decode cX1_appendComponent 3 = .ok (.invokevirtual 52, 3) := by decide +kernel
theorem dX1_appendComponent_6 : decode cX1_appendComponent 6 = .ok (.aload_n 0, 1) := by decide +kernel
theorem dX1_appendComponent_7 : decode cX1_appendComponent 7 = .ok (.getfield 21, 3) := by decide +kernel
theorem dX1_appendComponent_10 : decode cX1_appendComponent 10 = .ok (.aload_n 0, 1) := by decide +kernel
theorem dX1_appendComponent_11 : decode cX1_appendComponent 11 = .ok (.getfield 35, 3) := by decide +kernel
theorem dX1_appendComponent_14 : decode cX1_appendComponent 14 = .ok (.iload_n 1, 1) := by decide +kernel
theorem dX1_appendComponent_15 : decode cX1_appendComponent 15 = .ok (.iastore, 1) := by decide +kernel
theorem dX1_appendComponent_16 : decode cX1_appendComponent 16 = .ok (.aload_n 0, 1) := by decide +kernel
theorem dX1_appendComponent_17 : decode cX1_appendComponent 17 = .ok (.getfield 35, 3) := by decide +kernel
theorem dX1_appendComponent_20 : decode cX1_appendComponent 20 = .ok (.iconst 1, 1) := by decide +kernel
theorem dX1_appendComponent_21 : decode cX1_appendComponent 21 = .ok (.isub, 1) := by decide +kernel
theorem dX1_appendComponent_22 : decode cX1_appendComponent 22 = .ok (.ireturn, 1) := by decide +kernel
theorem dX1_appendPlace_0 : decode cX1_appendPlace 0 = .ok (.aload_n 0, 1) := by decide +kernel
theorem dX1_appendPlace_1 : decode cX1_appendPlace 1 = .ok (.dup, 1) := by decide +kernel
theorem dX1_appendPlace_2 : decode cX1_appendPlace 2 = .ok (.getfield 35, 3) := by decide +kernel
theorem dX1_appendPlace_5 : decode cX1_appendPlace 5 = .ok (.iconst 1, 1) := by decide +kernel
theorem dX1_appendPlace_6 : decode cX1_appendPlace 6 = .ok (.iadd, 1) := by decide +kernel
theorem dX1_appendPlace_7 : decode cX1_appendPlace 7 = .ok (.putfield 35, 3) := by decide +kernel
theorem dX1_appendPlace_10 : decode cX1_appendPlace 10 = .ok (.aload_n 0, 1) := by decide +kernel
theorem dX1_appendPlace_11 : decode cX1_appendPlace 11 = .ok (.getfield 9, 3) := by decide +kernel
theorem dX1_appendPlace_14 : decode cX1_appendPlace 14 = .ok (.aload_n 0, 1) := by decide +kernel
theorem dX1_appendPlace_15 : decode cX1_appendPlace 15 = .ok (.getfield 35, 3) := by decide +kernel
theorem dX1_appendPlace_18 : decode cX1_appendPlace 18 = .ok (.iload_n 1, 1) := by decide +kernel
theorem dX1_appendPlace_19 : decode cX1_appendPlace 19 = .ok (.iastore, 1) := by decide +kernel
theorem dX1_appendPlace_20 : decode cX1_appendPlace 20 = .ok (.aload_n 0, 1) := by decide +kernel
theorem dX1_appendPlace_21 : decode cX1_appendPlace 21 = .ok (.getfield 15, 3) := by decide +kernel
theorem dX1_appendPlace_24 : decode cX1_appendPlace 24 = .ok (.aload_n 0, 1) := by decide +kernel
theorem dX1_appendPlace_25 : decode cX1_appendPlace 25 = .ok (.getfield 35, 3) := by decide +kernel
theorem dX1_appendPlace_28 : decode cX1_appendPlace 28 = .ok (.iload_n 2, 1) := by decide +kernel
theorem dX1_appendPlace_29 : decode cX1_appendPlace 29 = .ok (.iastore, 1) := by decide +kernel
theorem dX1_appendPlace_30 : decode cX1_appendPlace 30 = .ok (.return_, 1) := by decide +kernel
theorem dX1_hasChild_0 : decode cX1_hasChild 0 = .ok (.iconst 1, 1) := by decide +kernel
theorem dX1_hasChild_1 : decode cX1_hasChild 1 = .ok (.istore_n 2, 1) := by decide +kernel
theorem dX1_hasChild_2 : decode cX1_hasChild 2 = .ok (.aload_n 0, 1) := by decide +kernel
theorem dX1_hasChild_3 : decode cX1_hasChild 3 = .ok (.getfield 31, 3) := by decide +kernel
theorem dX1_hasChild_6 : decode cX1_hasChild 6 = .ok (.ifCond .eq 29, 3) := by decide +kernel
theorem dX1_hasChild_9 : decode cX1_hasChild 9 = .ok (.iload_n 2, 1) := by decide +kernel
theorem dX1_hasChild_10 : decode cX1_hasChild 10 = .ok (.aload_n 0, 1) := by decide +kernel
theorem dX1_hasChild_11 : decode cX1_hasChild 11 = .ok (.getfield 35, 3) := by decide +kernel
theorem dX1_hasChild_14 : decode cX1_hasChild 14 = .ok (.if_icmp .gt 21, 3) := by decide +kernel
theorem dX1_hasChild_17 : decode cX1_hasChild 17 = .ok (.aload_n 0, 1) := by decide +kernel
theorem dX1_hasChild_18 : decode cX1_hasChild 18 = .ok (.getfield 21, 3) := by decide +kernel
theorem dX1_hasChild_21 : decode cX1_hasChild 21 = .ok (.iload_n 2, 1) := by decide +kernel
theorem dX1_hasChild_22 : decode cX1_hasChild 22 = .ok (.iaload, 1) := by decide +kernel
theorem dX1_hasChild_23 : decode cX1_hasChild 23 = .ok (.iload_n 1, 1) := by decide +kernel
theorem dX1_hasChild_24 : decode cX1_hasChild 24 = .ok (.if_icmp .ne 5, 3) := by decide +kernel
theorem dX1_hasChild_27 : decode cX1_hasChild 27 = .ok (.iconst 1, 1) := by decide +kernel
theorem dX1_hasChild_28 : decode cX1_hasChild 28 = .ok (.ireturn, 1) := by decide +kernel
theorem dX1_hasChild_29 : decode cX1_hasChild 29 = .ok (.iinc 2 1, 3) := by decide +kernel
theorem dX1_hasChild_32 : decode cX1_hasChild 32 = .ok (.goto (-30), 3) := by decide +kernel
theorem dX1_hasChild_35 : decode cX1_hasChild 35 = .ok (.iconst 0, 1) := by decide +kernel
theorem dX1_hasChild_36 : decode cX1_hasChild 36 = .ok (.ireturn, 1) := by decide +kernel
theorem dX1_placeAt_0 : decode cX1_placeAt 0 = .ok (.lconst 0, 1) := by decide +kernel
theorem dX1_placeAt_1 : decode cX1_placeAt 1 = .ok (.lstore 5, 2) := by decide +kernel
theorem dX1_placeAt_3 : decode cX1_placeAt 3 = .ok (.iconst 0, 1) := by decide +kernel
theorem dX1_placeAt_4 : decode cX1_placeAt 4 = .ok (.istore 7, 2) := by decide +kernel
theorem dX1_placeAt_6 : decode cX1_placeAt 6 = .ok (.iload 7, 2) := by decide +kernel
theorem dX1_placeAt_8 : decode cX1_placeAt 8 = .ok (.aload_n 0, 1) := by decide +kernel
theorem dX1_placeAt_9 : decode cX1_placeAt 9 = .ok (.getfield 45, 3) := by decide +kernel
theorem dX1_placeAt_12 : decode cX1_placeAt 12 = .ok (.if_icmp .ge 71, 3) := by decide +kernel
theorem dX1_placeAt_15 : decode cX1_placeAt 15 = .ok (.aload_n 0, 1) := by decide +kernel
theorem dX1_placeAt_16 : decode cX1_placeAt 16 = .ok (.getfield 26, 3) := by decide +kernel
theorem dX1_placeAt_19 : decode cX1_placeAt 19 = .ok (.iload 7, 2) := by decide +kernel
theorem dX1_placeAt_21 : decode cX1_placeAt 21 = .ok (.aaload, 1) := by decide +kernel
theorem dX1_placeAt_22 : decode cX1_placeAt 22 = .ok (.iload 4, 2) := by decide +kernel
theorem dX1_placeAt_24 : decode cX1_placeAt 24 = .ok (.invokevirtual 56, 3) := by decide +kernel
theorem dX1_placeAt_27 : decode cX1_placeAt 27 = .ok (.ifCond .eq 18, 3) := by decide +kernel
theorem dX1_placeAt_30 : decode cX1_placeAt 30 = .ok (.aload_n 0, 1) := by decide +kernel
theorem dX1_placeAt_31 : decode cX1_placeAt 31 = .ok (.getfield 26, 3) := by decide +kernel
theorem dX1_placeAt_34 : decode cX1_placeAt 34 = .ok (.iload 7, 2) := by decide +kernel
theorem dX1_placeAt_36 : decode cX1_placeAt 36 = .ok (.aaload, 1) := by decide +kernel
theorem dX1_placeAt_37 : decode cX1_placeAt 37 = .ok (.aload_n 3, 1) := by decide +kernel
theorem dX1_placeAt_38 : decode cX1_placeAt 38 = .ok (.invokevirtual 60, 3) := by decide +kernel
theorem dX1_placeAt_41 : decode cX1_placeAt 41 = .ok (.i2l, 1) := by decide +kernel
theorem dX1_placeAt_42 : decode cX1_placeAt 42 = .ok (.goto 4, 3) := by decide +kernel
theorem dX1_placeAt_45 : decode cX1_placeAt 45 = .ok (.lconst 0, 1) := by decide +kernel
theorem dX1_placeAt_46 : decode cX1_placeAt 46 = .ok (.lstore 8, 2) := by decide +kernel
theorem dX1_placeAt_48 : decode cX1_placeAt 48 = .ok (.lload 8, 2) := by decide +kernel
theorem dX1_placeAt_50 : decode cX1_placeAt 50 = .ok (.lconst 0, 1) := by decide +kernel
theorem dX1_placeAt_51 : decode cX1_placeAt 51 = .ok (.lcmp, 1) := by decide +kernel
theorem dX1_placeAt_52 : decode cX1_placeAt 52 = .ok (.ifCond .eq 25, 3) := by decide +kernel
theorem dX1_placeAt_55 : decode cX1_placeAt 55 = .ok (.lload 5, 2) := by decide +kernel
theorem dX1_placeAt_57 : decode cX1_placeAt 57 = .ok (.lload 8, 2) := by decide +kernel
theorem dX1_placeAt_59 : decode cX1_placeAt 59 = .ok (.aload_n 0, 1) := by decide +kernel
theorem dX1_placeAt_60 : decode cX1_placeAt 60 = .ok (.aload_n 0, 1) := by decide +kernel
theorem dX1_placeAt_61 : decode cX1_placeAt 61 = .ok (.getfield 26, 3) := by decide +kernel
theorem dX1_placeAt_64 : decode cX1_placeAt 64 = .ok (.iload 7, 2) := by decide +kernel
theorem dX1_placeAt_66 : decode cX1_placeAt 66 = .ok (.aaload, 1) := by decide +kernel
theorem dX1_placeAt_67 : decode cX1_placeAt 67 = .ok (.iload_n 1, 1) := by decide +kernel
theorem dX1_placeAt_68 : decode cX1_placeAt 68 = .ok (.iload_n 2, 1) := by decide +kernel
theorem dX1_placeAt_69 : decode cX1_placeAt 69 = .ok (.invokevirtual 64, 3) := by decide +kernel
theorem dX1_placeAt_72 : decode cX1_placeAt 72 = .ok (.i2l, 1) := by decide +kernel
theorem dX1_placeAt_73 : decode cX1_placeAt 73 = .ok (.lmul, 1) := by decide +kernel
theorem dX1_placeAt_74 : decode cX1_placeAt 74 = .ok (.ladd, 1) := by decide +kernel
theorem dX1_placeAt_75 : decode cX1_placeAt 75 = .ok (.lstore 5, 2) := by decide +kernel
theorem dX1_placeAt_77 : decode cX1_placeAt 77 = .ok (.iinc 7 1, 3) := by decide +kernel
theorem dX1_placeAt_80 : decode cX1_placeAt 80 = .ok (.goto (-74), 3) := by decide +kernel
theorem dX1_placeAt_83 : decode cX1_placeAt 83 = .ok (.iload_n 2, 1) := by decide +kernel
theorem dX1_placeAt_84 : decode cX1_placeAt 84 = .ok (.ifCond .eq 12, 3) := by decide +kernel
theorem dX1_placeAt_87 : decode cX1_placeAt 87 = .ok (.aload_n 0, 1) := by decide +kernel
theorem dX1_placeAt_88 : decode cX1_placeAt 88 = .ok (.getfield 15, 3) := by decide +kernel
theorem dX1_placeAt_91 : decode cX1_placeAt 91 = .ok (.iload_n 1, 1) := by decide +kernel
theorem dX1_placeAt_92 : decode cX1_placeAt 92 = .ok (.iaload, 1) := by decide +kernel
theorem dX1_placeAt_93 : decode cX1_placeAt 93 = .ok (.goto 9, 3) := by decide +kernel
theorem dX1_placeAt_96 : decode cX1_placeAt 96 = .ok (.aload_n 0, 1) := by decide +kernel
theorem dX1_placeAt_97 : decode cX1_placeAt 97 = .ok (.getfield 9, 3) := by decide +kernel
theorem dX1_placeAt_100 : decode cX1_placeAt 100 = .ok (.iload_n 1, 1) := by decide +kernel
theorem dX1_placeAt_101 : decode cX1_placeAt 101 = .ok (.iaload, 1) := by decide +kernel
theorem dX1_placeAt_102 : decode cX1_placeAt 102 = .ok (.i2l, 1) := by decide +kernel
theorem dX1_placeAt_103 : decode cX1_placeAt 103 = .ok (.lload 5, 2) := by decide +kernel
theorem dX1_placeAt_105 : decode cX1_placeAt 105 = .ok (.ldc2_w 68, 3) := by decide +kernel
theorem dX1_placeAt_108 : decode cX1_placeAt 108 = .ok (.invokestatic 70, 3) := by decide +kernel
theorem dX1_placeAt_111 : decode cX1_placeAt 111 = .ok (.ladd, 1) := by decide +kernel
theorem dX1_placeAt_112 : decode cX1_placeAt 112 = .ok (.lreturn, 1) := by decide +kernel
theorem dX1_deltaAt_0 : decode cX1_deltaAt 0 = .ok (.aload_n 1, 1) := by decide +kernel
theorem dX1_deltaAt_1 : decode cX1_deltaAt 1 = .ok (.iload_n 2, 1) := by decide +kernel
theorem dX1_deltaAt_2 : decode cX1_deltaAt 2 = .ok (.invokevirtual 74, 3) := by decide +kernel
theorem dX1_deltaAt_5 : decode cX1_deltaAt 5 = .ok (.ifCond .eq 23, 3) := by decide +kernel
theorem dX1_deltaAt_8 : decode cX1_deltaAt 8 = .ok (.iload_n 3, 1) := by decide +kernel
theorem dX1_deltaAt_9 : decode cX1_deltaAt 9 = .ok (.ifCond .eq 12, 3) := by decide +kernel
theorem dX1_deltaAt_12 : decode cX1_deltaAt 12 = .ok (.aload_n 1, 1) := by decide +kernel
theorem dX1_deltaAt_13 : decode cX1_deltaAt 13 = .ok (.getfield 77, 3) := by decide +kernel
theorem dX1_deltaAt_16 : decode cX1_deltaAt 16 = .ok (.iload_n 2, 1) := by decide +kernel
theorem dX1_deltaAt_17 : decode cX1_deltaAt 17 = .ok (.iaload, 1) := by decide +kernel
theorem dX1_deltaAt_18 : decode cX1_deltaAt 18 = .ok (.goto 9, 3) := by decide +kernel
theorem dX1_deltaAt_21 : decode cX1_deltaAt 21 = .ok (.aload_n 1, 1) := by decide +kernel
theorem dX1_deltaAt_22 : decode cX1_deltaAt 22 = .ok (.getfield 78, 3) := by decide +kernel
theorem dX1_deltaAt_25 : decode cX1_deltaAt 25 = .ok (.iload_n 2, 1) := by decide +kernel
theorem dX1_deltaAt_26 : decode cX1_deltaAt 26 = .ok (.iaload, 1) := by decide +kernel
theorem dX1_deltaAt_27 : decode cX1_deltaAt 27 = .ok (.ireturn, 1) := by decide +kernel
theorem dX1_deltaAt_28 : decode cX1_deltaAt 28 = .ok (.aload_n 0, 1) := by decide +kernel
theorem dX1_deltaAt_29 : decode cX1_deltaAt 29 = .ok (.getfield 31, 3) := by decide +kernel
theorem dX1_deltaAt_32 : decode cX1_deltaAt 32 = .ok (.ifCond .ne 7, 3) := by decide +kernel
theorem dX1_deltaAt_35 : decode cX1_deltaAt 35 = .ok (.iload_n 2, 1) := by decide +kernel
theorem dX1_deltaAt_36 : decode cX1_deltaAt 36 = .ok (.ifCond .ne 5, 3) := by decide +kernel
theorem dX1_deltaAt_39 : decode cX1_deltaAt 39 = .ok (.iconst 0, 1) := by decide +kernel
theorem dX1_deltaAt_40 : decode cX1_deltaAt 40 = .ok (.ireturn, 1) := by decide +kernel
theorem dX1_deltaAt_41 : decode cX1_deltaAt 41 = .ok (.aload_n 0, 1) := by decide +kernel
theorem dX1_deltaAt_42 : decode cX1_deltaAt 42 = .ok (.aload_n 1, 1) := by decide +kernel
theorem dX1_deltaAt_43 : decode cX1_deltaAt 43 = .ok (.iload_n 2, 1) := by decide +kernel
theorem dX1_deltaAt_44 : decode cX1_deltaAt 44 = .ok (.iconst 0, 1) := by decide +kernel
theorem dX1_deltaAt_45 : decode cX1_deltaAt 45 = .ok (.invokevirtual 79, 3) := by decide +kernel
theorem dX1_deltaAt_48 : decode cX1_deltaAt 48 = .ok (.istore 4, 2) := by decide +kernel
theorem dX1_deltaAt_50 : decode cX1_deltaAt 50 = .ok (.aload_n 0, 1) := by decide +kernel
theorem dX1_deltaAt_51 : decode cX1_deltaAt 51 = .ok (.aload_n 1, 1) := by decide +kernel
theorem dX1_deltaAt_52 : decode cX1_deltaAt 52 = .ok (.iload_n 2, 1) := by decide +kernel
theorem dX1_deltaAt_53 : decode cX1_deltaAt 53 = .ok (.iconst 1, 1) := by decide +kernel
theorem dX1_deltaAt_54 : decode cX1_deltaAt 54 = .ok (.invokevirtual 79, 3) := by decide +kernel
theorem dX1_deltaAt_57 : decode cX1_deltaAt 57 = .ok (.istore 5, 2) := by decide +kernel
theorem dX1_deltaAt_59 : decode cX1_deltaAt 59 = .ok (.iload 4, 2) := by decide +kernel
theorem dX1_deltaAt_61 : decode cX1_deltaAt 61 = .ok (.ifCond .eq 8, 3) := by decide +kernel
theorem dX1_deltaAt_64 : decode cX1_deltaAt 64 = .ok (.iload 5, 2) := by decide +kernel
theorem dX1_deltaAt_66 : decode cX1_deltaAt 66 = .ok (.ifCond .ne 5, 3) := by decide +kernel
theorem dX1_deltaAt_69 : decode cX1_deltaAt 69 = .ok (.iconst 0, 1) := by decide +kernel
theorem dX1_deltaAt_70 : decode cX1_deltaAt 70 = .ok (.ireturn, 1) := by decide +kernel
theorem dX1_deltaAt_71 : decode cX1_deltaAt 71 = .ok (.iload_n 3, 1) := by decide +kernel
theorem dX1_deltaAt_72 : decode cX1_deltaAt 72 = .ok (.ifCond .eq 43, 3) := by decide +kernel
theorem dX1_deltaAt_75 : decode cX1_deltaAt 75 = .ok (.aload_n 0, 1) := by decide +kernel
theorem dX1_deltaAt_76 : decode cX1_deltaAt 76 = .ok (.getfield 15, 3) := by decide +kernel
theorem dX1_deltaAt_79 : decode cX1_deltaAt 79 = .ok (.iload_n 2, 1) := by decide +kernel
theorem dX1_deltaAt_80 : decode cX1_deltaAt 80 = .ok (.iaload, 1) := by decide +kernel
theorem dX1_deltaAt_81 : decode cX1_deltaAt 81 = .ok (.aload_n 0, 1) := by decide +kernel
theorem dX1_deltaAt_82 : decode cX1_deltaAt 82 = .ok (.getfield 15, 3) := by decide +kernel
theorem dX1_deltaAt_85 : decode cX1_deltaAt 85 = .ok (.iload 4, 2) := by decide +kernel
theorem dX1_deltaAt_87 : decode cX1_deltaAt 87 = .ok (.iaload, 1) := by decide +kernel
theorem dX1_deltaAt_88 : decode cX1_deltaAt 88 = .ok (.aload_n 0, 1) := by decide +kernel
theorem dX1_deltaAt_89 : decode cX1_deltaAt 89 = .ok (.getfield 15, 3) := by decide +kernel
theorem dX1_deltaAt_92 : decode cX1_deltaAt 92 = .ok (.iload 5, 2) := by decide +kernel
theorem dX1_deltaAt_94 : decode cX1_deltaAt 94 = .ok (.iaload, 1) := by decide +kernel
theorem dX1_deltaAt_95 : decode cX1_deltaAt 95 = .ok (.aload_n 1, 1) := by decide +kernel
theorem dX1_deltaAt_96 : decode cX1_deltaAt 96 = .ok (.getfield 77, 3) := by decide +kernel
theorem dX1_deltaAt_99 : decode cX1_deltaAt 99 = .ok (.iload 4, 2) := by decide +kernel
theorem dX1_deltaAt_101 : decode cX1_deltaAt 101 = .ok (.iaload, 1) := by decide +kernel
theorem dX1_deltaAt_102 : decode cX1_deltaAt 102 = .ok (.aload_n 1, 1) := by decide +kernel
theorem dX1_deltaAt_103 : decode cX1_deltaAt 103 = .ok (.getfield 77, 3) := by decide +kernel
theorem dX1_deltaAt_106 : decode cX1_deltaAt 106 = .ok (.iload 5, 2) := by decide +kernel
theorem dX1_deltaAt_108 : decode cX1_deltaAt 108 = .ok (.iaload, 1) := by decide +kernel
theorem dX1_deltaAt_109 : decode cX1_deltaAt 109 = .ok (.invokestatic 82, 3) := by decide +kernel
theorem dX1_deltaAt_112 : decode cX1_deltaAt 112 = .ok (.goto 40, 3) := by decide +kernel
theorem dX1_deltaAt_115 : decode cX1_deltaAt 115 = .ok (.aload_n 0, 1) := by decide +kernel
theorem dX1_deltaAt_116 : decode cX1_deltaAt 116 = .ok (.getfield 9, 3) := by decide +kernel
theorem dX1_deltaAt_119 : decode cX1_deltaAt 119 = .ok (.iload_n 2, 1) := by decide +kernel
theorem dX1_deltaAt_120 : decode cX1_deltaAt 120 = .ok (.iaload, 1) := by decide +kernel
theorem dX1_deltaAt_121 : decode cX1_deltaAt 121 = .ok (.aload_n 0, 1) := by decide +kernel
theorem dX1_deltaAt_122 : decode cX1_deltaAt 122 = .ok (.getfield 9, 3) := by decide +kernel
theorem dX1_deltaAt_125 : decode cX1_deltaAt 125 = .ok (.iload 4, 2) := by decide +kernel
theorem dX1_deltaAt_127 : decode cX1_deltaAt 127 = .ok (.iaload, 1) := by decide +kernel
theorem dX1_deltaAt_128 : decode cX1_deltaAt 128 = .ok (.aload_n 0, 1) := by decide +kernel
theorem dX1_deltaAt_129 : decode cX1_deltaAt 129 = .ok (.getfield 9, 3) := by decide +kernel
theorem dX1_deltaAt_132 : decode cX1_deltaAt 132 = .ok (.iload 5, 2) := by decide +kernel
theorem dX1_deltaAt_134 : decode cX1_deltaAt 134 = .ok (.iaload, 1) := by decide +kernel
theorem dX1_deltaAt_135 : decode cX1_deltaAt 135 = .ok (.aload_n 1, 1) := by decide +kernel
theorem dX1_deltaAt_136 : decode cX1_deltaAt 136 = .ok (.getfield 78, 3) := by decide +kernel
theorem dX1_deltaAt_139 : decode cX1_deltaAt 139 = .ok (.iload 4, 2) := by decide +kernel
theorem dX1_deltaAt_141 : decode cX1_deltaAt 141 = .ok (.iaload, 1) := by decide +kernel
theorem dX1_deltaAt_142 : decode cX1_deltaAt 142 = .ok (.aload_n 1, 1) := by decide +kernel
theorem dX1_deltaAt_143 : decode cX1_deltaAt 143 = .ok (.getfield 78, 3) := by decide +kernel
theorem dX1_deltaAt_146 : decode cX1_deltaAt 146 = .ok (.iload 5, 2) := by decide +kernel
theorem dX1_deltaAt_148 : decode cX1_deltaAt 148 = .ok (.iaload, 1) := by decide +kernel
theorem dX1_deltaAt_149 : decode cX1_deltaAt 149 = .ok (.invokestatic 82, 3) := by decide +kernel
theorem dX1_deltaAt_152 : decode cX1_deltaAt 152 = .ok (.ireturn, 1) := by decide +kernel
theorem dX1_touchedNear_0 : decode cX1_touchedNear 0 = .ok (.iload_n 2, 1) := by decide +kernel
theorem dX1_touchedNear_1 : decode cX1_touchedNear 1 = .ok (.istore 4, 2) := by decide +kernel
theorem dX1_touchedNear_3 : decode cX1_touchedNear 3 = .ok (.iconst 1, 1) := by decide +kernel
theorem dX1_touchedNear_4 : decode cX1_touchedNear 4 = .ok (.istore 5, 2) := by decide +kernel
theorem dX1_touchedNear_6 : decode cX1_touchedNear 6 = .ok (.iload 5, 2) := by decide +kernel
theorem dX1_touchedNear_8 : decode cX1_touchedNear 8 = .ok (.aload_n 0, 1) := by decide +kernel
theorem dX1_touchedNear_9 : decode cX1_touchedNear 9 = .ok (.getfield 35, 3) := by decide +kernel
theorem dX1_touchedNear_12 : decode cX1_touchedNear 12 = .ok (.if_icmp .ge 82, 3) := by decide +kernel
theorem dX1_touchedNear_15 : decode cX1_touchedNear 15 = .ok (.iload_n 3, 1) := by decide +kernel
theorem dX1_touchedNear_16 : decode cX1_touchedNear 16 = .ok (.ifCond .eq 25, 3) := by decide +kernel
theorem dX1_touchedNear_19 : decode cX1_touchedNear 19 = .ok (.iload 4, 2) := by decide +kernel
theorem dX1_touchedNear_21 : decode cX1_touchedNear 21 = .ok (.aload_n 0, 1) := by decide +kernel
theorem dX1_touchedNear_22 : decode cX1_touchedNear 22 = .ok (.getfield 35, 3) := by decide +kernel
theorem dX1_touchedNear_25 : decode cX1_touchedNear 25 = .ok (.if_icmp .ge 10, 3) := by decide +kernel
theorem dX1_touchedNear_28 : decode cX1_touchedNear 28 = .ok (.iload 4, 2) := by decide +kernel
theorem dX1_touchedNear_30 : decode cX1_touchedNear 30 = .ok (.iconst 1, 1) := by decide +kernel
theorem dX1_touchedNear_31 : decode cX1_touchedNear 31 = .ok (.iadd, 1) := by decide +kernel
theorem dX1_touchedNear_32 : decode cX1_touchedNear 32 = .ok (.goto 4, 3) := by decide +kernel
theorem dX1_touchedNear_35 : decode cX1_touchedNear 35 = .ok (.iconst 1, 1) := by decide +kernel
theorem dX1_touchedNear_36 : decode cX1_touchedNear 36 = .ok (.istore 4, 2) := by decide +kernel
theorem dX1_touchedNear_38 : decode cX1_touchedNear 38 = .ok (.goto 22, 3) := by decide +kernel
theorem dX1_touchedNear_41 : decode cX1_touchedNear 41 = .ok (.iload 4, 2) := by decide +kernel
theorem dX1_touchedNear_43 : decode cX1_touchedNear 43 = .ok (.iconst 1, 1) := by decide +kernel
theorem dX1_touchedNear_44 : decode cX1_touchedNear 44 = .ok (.if_icmp .le 10, 3) := by decide +kernel
theorem dX1_touchedNear_47 : decode cX1_touchedNear 47 = .ok (.iload 4, 2) := by decide +kernel
theorem dX1_touchedNear_49 : decode cX1_touchedNear 49 = .ok (.iconst 1, 1) := by decide +kernel
theorem dX1_touchedNear_50 : decode cX1_touchedNear 50 = .ok (.isub, 1) := by decide +kernel
theorem dX1_touchedNear_51 : decode cX1_touchedNear 51 = .ok (.goto 7, 3) := by decide +kernel
theorem dX1_touchedNear_54 : decode cX1_touchedNear 54 = .ok (.aload_n 0, 1) := by decide +kernel
theorem dX1_touchedNear_55 : decode cX1_touchedNear 55 = .ok (.getfield 35, 3) := by decide +kernel
theorem dX1_touchedNear_58 : decode cX1_touchedNear 58 = .ok (.istore 4, 2) := by decide +kernel
theorem dX1_touchedNear_60 : decode cX1_touchedNear 60 = .ok (.aload_n 0, 1) := by decide +kernel
theorem dX1_touchedNear_61 : decode cX1_touchedNear 61 = .ok (.getfield 18, 3) := by decide +kernel
theorem dX1_touchedNear_64 : decode cX1_touchedNear 64 = .ok (.iload 4, 2) := by decide +kernel
theorem dX1_touchedNear_66 : decode cX1_touchedNear 66 = .ok (.iaload, 1) := by decide +kernel
theorem dX1_touchedNear_67 : decode cX1_touchedNear 67 = .ok (.aload_n 0, 1) := by decide +kernel
theorem dX1_touchedNear_68 : decode cX1_touchedNear 68 = .ok (.getfield 18, 3) := by decide +kernel
theorem dX1_touchedNear_71 : decode cX1_touchedNear 71 = .ok (.iload_n 2, 1) := by decide +kernel
theorem dX1_touchedNear_72 : decode cX1_touchedNear 72 = .ok (.iaload, 1) := by decide +kernel
theorem dX1_touchedNear_73 : decode cX1_touchedNear 73 = .ok (.if_icmp .ne 15, 3) := by decide +kernel
theorem dX1_touchedNear_76 : decode cX1_touchedNear 76 = .ok (.aload_n 1, 1) := by decide +kernel
theorem dX1_touchedNear_77 : decode cX1_touchedNear 77 = .ok (.iload 4, 2) := by decide +kernel
theorem dX1_touchedNear_79 : decode cX1_touchedNear 79 = .ok (.invokevirtual 74, 3) := by decide +kernel
theorem dX1_touchedNear_82 : decode cX1_touchedNear 82 = .ok (.ifCond .eq 6, 3) := by decide +kernel
theorem dX1_touchedNear_85 : decode cX1_touchedNear 85 = .ok (.iload 4, 2) := by decide +kernel
theorem dX1_touchedNear_87 : decode cX1_touchedNear 87 = .ok (.ireturn, 1) := by decide +kernel
theorem dX1_touchedNear_88 : decode cX1_touchedNear 88 = .ok (.iinc 5 1, 3) := by decide +kernel
theorem dX1_touchedNear_91 : decode cX1_touchedNear 91 = .ok (.goto (-85), 3) := by decide +kernel
theorem dX1_touchedNear_94 : decode cX1_touchedNear 94 = .ok (.iconst 0, 1) := by decide +kernel
theorem dX1_touchedNear_95 : decode cX1_touchedNear 95 = .ok (.ireturn, 1) := by decide +kernel
theorem dX1_inferredDelta_0 : decode cX1_inferredDelta 0 = .ok (.iload_n 1, 1) := by decide +kernel
theorem dX1_inferredDelta_1 : decode cX1_inferredDelta 1 = .ok (.iload_n 2, 1) := by decide +kernel
theorem dX1_inferredDelta_2 : decode cX1_inferredDelta 2 = .ok (.if_icmp .ne 15, 3) := by decide +kernel
theorem dX1_inferredDelta_5 : decode cX1_inferredDelta 5 = .ok (.iload_n 3, 1) := by decide +kernel
theorem dX1_inferredDelta_6 : decode cX1_inferredDelta 6 = .ok (.iload 4, 2) := by decide +kernel
theorem dX1_inferredDelta_8 : decode cX1_inferredDelta 8 = .ok (.if_icmp .ne 7, 3) := by decide +kernel
theorem dX1_inferredDelta_11 : decode cX1_inferredDelta 11 = .ok (.iload_n 3, 1) := by decide +kernel
theorem dX1_inferredDelta_12 : decode cX1_inferredDelta 12 = .ok (.goto 4, 3) := by decide +kernel
theorem dX1_inferredDelta_15 : decode cX1_inferredDelta 15 = .ok (.iconst 0, 1) := by decide +kernel
theorem dX1_inferredDelta_16 : decode cX1_inferredDelta 16 = .ok (.ireturn, 1) := by decide +kernel
theorem dX1_inferredDelta_17 : decode cX1_inferredDelta 17 = .ok (.iload_n 1, 1) := by decide +kernel
theorem dX1_inferredDelta_18 : decode cX1_inferredDelta 18 = .ok (.iload_n 2, 1) := by decide +kernel
theorem dX1_inferredDelta_19 : decode cX1_inferredDelta 19 = .ok (.invokestatic 86, 3) := by decide +kernel
theorem dX1_inferredDelta_22 : decode cX1_inferredDelta 22 = .ok (.istore 5, 2) := by decide +kernel
theorem dX1_inferredDelta_24 : decode cX1_inferredDelta 24 = .ok (.iload_n 1, 1) := by decide +kernel
theorem dX1_inferredDelta_25 : decode cX1_inferredDelta 25 = .ok (.iload_n 2, 1) := by decide +kernel
theorem dX1_inferredDelta_26 : decode cX1_inferredDelta 26 = .ok (.invokestatic 92, 3) := by decide +kernel
theorem dX1_inferredDelta_29 : decode cX1_inferredDelta 29 = .ok (.istore 6, 2) := by decide +kernel
theorem dX1_inferredDelta_31 : decode cX1_inferredDelta 31 = .ok (.iload_n 1, 1) := by decide +kernel
theorem dX1_inferredDelta_32 : decode cX1_inferredDelta 32 = .ok (.iload_n 2, 1) := by decide +kernel
theorem dX1_inferredDelta_33 : decode cX1_inferredDelta 33 = .ok (.if_icmp .ge 7, 3) := by decide +kernel
theorem dX1_inferredDelta_36 : decode cX1_inferredDelta 36 = .ok (.iload_n 3, 1) := by decide +kernel
theorem dX1_inferredDelta_37 : decode cX1_inferredDelta 37 = .ok (.goto 5, 3) := by decide +kernel
theorem dX1_inferredDelta_40 : decode cX1_inferredDelta 40 = .ok (.iload 4, 2) := by decide +kernel
theorem dX1_inferredDelta_42 : decode cX1_inferredDelta 42 = .ok (.istore 7, 2) := by decide +kernel
theorem dX1_inferredDelta_44 : decode cX1_inferredDelta 44 = .ok (.iload_n 1, 1) := by decide +kernel
theorem dX1_inferredDelta_45 : decode cX1_inferredDelta 45 = .ok (.iload_n 2, 1) := by decide +kernel
theorem dX1_inferredDelta_46 : decode cX1_inferredDelta 46 = .ok (.if_icmp .ge 8, 3) := by decide +kernel
theorem dX1_inferredDelta_49 : decode cX1_inferredDelta 49 = .ok (.iload 4, 2) := by decide +kernel
theorem dX1_inferredDelta_51 : decode cX1_inferredDelta 51 = .ok (.goto 4, 3) := by decide +kernel
theorem dX1_inferredDelta_54 : decode cX1_inferredDelta 54 = .ok (.iload_n 3, 1) := by decide +kernel
theorem dX1_inferredDelta_55 : decode cX1_inferredDelta 55 = .ok (.istore 8, 2) := by decide +kernel
theorem dX1_inferredDelta_57 : decode cX1_inferredDelta 57 = .ok (.iload_n 0, 1) := by decide +kernel
theorem dX1_inferredDelta_58 : decode cX1_inferredDelta 58 = .ok (.iload 5, 2) := by decide +kernel
theorem dX1_inferredDelta_60 : decode cX1_inferredDelta 60 = .ok (.if_icmp .gt 6, 3) := by decide +kernel
theorem dX1_inferredDelta_63 : decode cX1_inferredDelta 63 = .ok (.iload 7, 2) := by decide +kernel
theorem dX1_inferredDelta_65 : decode cX1_inferredDelta 65 = .ok (.ireturn, 1) := by decide +kernel
theorem dX1_inferredDelta_66 : decode cX1_inferredDelta 66 = .ok (.iload_n 0, 1) := by decide +kernel
theorem dX1_inferredDelta_67 : decode cX1_inferredDelta 67 = .ok (.iload 6, 2) := by decide +kernel
theorem dX1_inferredDelta_69 : decode cX1_inferredDelta 69 = .ok (.if_icmp .lt 6, 3) := by decide +kernel
theorem dX1_inferredDelta_72 : decode cX1_inferredDelta 72 = .ok (.iload 8, 2) := by decide +kernel
theorem dX1_inferredDelta_74 : decode cX1_inferredDelta 74 = .ok (.ireturn, 1) := by decide +kernel
theorem dX1_inferredDelta_75 : decode cX1_inferredDelta 75 = .ok (.iload_n 0, 1) := by decide +kernel
theorem dX1_inferredDelta_76 : decode cX1_inferredDelta 76 = .ok (.i2l, 1) := by decide +kernel
theorem dX1_inferredDelta_77 : decode cX1_inferredDelta 77 = .ok (.iload 5, 2) := by decide +kernel
theorem dX1_inferredDelta_79 : decode cX1_inferredDelta 79 = .ok (.i2l, 1) := by decide +kernel
theorem dX1_inferredDelta_80 : decode cX1_inferredDelta 80 = .ok (.lsub, 1) := by decide +kernel
theorem dX1_inferredDelta_81 : decode cX1_inferredDelta 81 = .ok (.iload 8, 2) := by decide +kernel
theorem dX1_inferredDelta_83 : decode cX1_inferredDelta 83 = .ok (.i2l, 1) := by decide +kernel
theorem dX1_inferredDelta_84 : decode cX1_inferredDelta 84 = .ok (.iload 7, 2) := by decide +kernel
theorem dX1_inferredDelta_86 : decode cX1_inferredDelta 86 = .ok (.i2l, 1) := by decide +kernel
theorem dX1_inferredDelta_87 : decode cX1_inferredDelta 87 = .ok (.lsub, 1) := by decide +kernel
theorem dX1_inferredDelta_88 : decode cX1_inferredDelta 88 = .ok (.lmul, 1) := by decide +kernel
theorem dX1_inferredDelta_89 : decode cX1_inferredDelta 89 = .ok (.lstore 9, 2) := by decide +kernel
theorem dX1_inferredDelta_91 : decode cX1_inferredDelta 91 = .ok (.iload 7, 2) := by decide +kernel
theorem dX1_inferredDelta_93 : decode cX1_inferredDelta 93 = .ok (.lload 9, 2) := by decide +kernel
theorem dX1_inferredDelta_95 : decode cX1_inferredDelta 95 = .ok (.iload 6, 2) := by decide +kernel
theorem dX1_inferredDelta_97 : decode cX1_inferredDelta 97 = .ok (.i2l, 1) := by decide +kernel
theorem dX1_inferredDelta_98 : decode cX1_inferredDelta 98 = .ok (.iload 5, 2) := by decide +kernel
theorem dX1_inferredDelta_100 : decode cX1_inferredDelta 100 = .ok (.i2l, 1) := by decide +kernel
theorem dX1_inferredDelta_101 : decode cX1_inferredDelta 101 = .ok (.lsub, 1) := by decide +kernel
theorem dX1_inferredDelta_102 : decode cX1_inferredDelta 102 = .ok (.invokestatic 70, 3) := by decide +kernel
theorem dX1_inferredDelta_105 : decode cX1_inferredDelta 105 = .ok (.l2i, 1) := by decide +kernel
theorem dX1_inferredDelta_106 : decode cX1_inferredDelta 106 = .ok (.iadd, 1) := by decide +kernel
theorem dX1_inferredDelta_107 : decode cX1_inferredDelta 107 = .ok (.ireturn, 1) := by decide +kernel
theorem dX1_writeInferred_0 : decode cX1_writeInferred 0 = .ok (.iconst 0, 1) := by decide +kernel
theorem dX1_writeInferred_1 : decode cX1_writeInferred 1 = .ok (.istore_n 2, 1) := by decide +kernel
theorem dX1_writeInferred_2 : decode cX1_writeInferred 2 = .ok (.iload_n 2, 1) := by decide +kernel
theorem dX1_writeInferred_3 : decode cX1_writeInferred 3 = .ok (.aload_n 0, 1) := by decide +kernel
theorem dX1_writeInferred_4 : decode cX1_writeInferred 4 = .ok (.getfield 35, 3) := by decide +kernel
theorem dX1_writeInferred_7 : decode cX1_writeInferred 7 = .ok (.if_icmp .gt 43, 3) := by decide +kernel
theorem dX1_writeInferred_10 : decode cX1_writeInferred 10 = .ok (.aload_n 1, 1) := by decide +kernel
theorem dX1_writeInferred_11 : decode cX1_writeInferred 11 = .ok (.iload_n 2, 1) := by decide +kernel
theorem dX1_writeInferred_12 : decode cX1_writeInferred 12 = .ok (.invokevirtual 74, 3) := by decide +kernel
theorem dX1_writeInferred_15 : decode cX1_writeInferred 15 = .ok (.ifCond .ne 29, 3) := by decide +kernel
theorem dX1_writeInferred_18 : decode cX1_writeInferred 18 = .ok (.aload_n 1, 1) := by decide +kernel
theorem dX1_writeInferred_19 : decode cX1_writeInferred 19 = .ok (.getfield 78, 3) := by decide +kernel
theorem dX1_writeInferred_22 : decode cX1_writeInferred 22 = .ok (.iload_n 2, 1) := by decide +kernel
theorem dX1_writeInferred_23 : decode cX1_writeInferred 23 = .ok (.aload_n 0, 1) := by decide +kernel
theorem dX1_writeInferred_24 : decode cX1_writeInferred 24 = .ok (.aload_n 1, 1) := by decide +kernel
theorem dX1_writeInferred_25 : decode cX1_writeInferred 25 = .ok (.iload_n 2, 1) := by decide +kernel
theorem dX1_writeInferred_26 : decode cX1_writeInferred 26 = .ok (.iconst 0, 1) := by decide +kernel
theorem dX1_writeInferred_27 : decode cX1_writeInferred 27 = .ok (.invokevirtual 64, 3) := by decide +kernel
theorem dX1_writeInferred_30 : decode cX1_writeInferred 30 = .ok (.iastore, 1) := by decide +kernel
theorem dX1_writeInferred_31 : decode cX1_writeInferred 31 = .ok (.aload_n 1, 1) := by decide +kernel
theorem dX1_writeInferred_32 : decode cX1_writeInferred 32 = .ok (.getfield 77, 3) := by decide +kernel
theorem dX1_writeInferred_35 : decode cX1_writeInferred 35 = .ok (.iload_n 2, 1) := by decide +kernel
theorem dX1_writeInferred_36 : decode cX1_writeInferred 36 = .ok (.aload_n 0, 1) := by decide +kernel
theorem dX1_writeInferred_37 : decode cX1_writeInferred 37 = .ok (.aload_n 1, 1) := by decide +kernel
theorem dX1_writeInferred_38 : decode cX1_writeInferred 38 = .ok (.iload_n 2, 1) := by decide +kernel
theorem dX1_writeInferred_39 : decode cX1_writeInferred 39 = .ok (.iconst 1, 1) := by decide +kernel
theorem dX1_writeInferred_40 : decode cX1_writeInferred 40 = .ok (.invokevirtual 64, 3) := by decide +kernel
theorem dX1_writeInferred_43 : decode cX1_writeInferred 43 = .ok (.iastore, 1) := by decide +kernel
theorem dX1_writeInferred_44 : decode cX1_writeInferred 44 = .ok (.iinc 2 1, 3) := by decide +kernel
theorem dX1_writeInferred_47 : decode cX1_writeInferred 47 = .ok (.goto (-45), 3) := by decide +kernel
theorem dX1_writeInferred_50 : decode cX1_writeInferred 50 = .ok (.return_, 1) := by decide +kernel
theorem dX1_touchAll_0 : decode cX1_touchAll 0 = .ok (.aload_n 0, 1) := by decide +kernel
theorem dX1_touchAll_1 : decode cX1_touchAll 1 = .ok (.aload_n 1, 1) := by decide +kernel
theorem dX1_touchAll_2 : decode cX1_touchAll 2 = .ok (.invokevirtual 95, 3) := by decide +kernel
theorem dX1_touchAll_5 : decode cX1_touchAll 5 = .ok (.aload_n 1, 1) := by decide +kernel
theorem dX1_touchAll_6 : decode cX1_touchAll 6 = .ok (.iconst 1, 1) := by decide +kernel
theorem dX1_touchAll_7 : decode cX1_touchAll 7 = .ok (.aload_n 0, 1) := by decide +kernel
theorem dX1_touchAll_8 : decode cX1_touchAll 8 = .ok (.getfield 35, 3) := by decide +kernel
theorem dX1_touchAll_11 : decode cX1_touchAll 11 = .ok (.iconst 1, 1) := by decide +kernel
theorem dX1_touchAll_12 : decode cX1_touchAll 12 = .ok (.iadd, 1) := by decide +kernel
theorem dX1_touchAll_13 : decode cX1_touchAll 13 = .ok (.ishl, 1) := by decide +kernel
theorem dX1_touchAll_14 : decode cX1_touchAll 14 = .ok (.iconst 1, 1) := by decide +kernel
theorem dX1_touchAll_15 : decode cX1_touchAll 15 = .ok (.isub, 1) := by decide +kernel
theorem dX1_touchAll_16 : decode cX1_touchAll 16 = .ok (.putfield 98, 3) := by decide +kernel
theorem dX1_touchAll_19 : decode cX1_touchAll 19 = .ok (.return_, 1) := by decide +kernel
theorem dX1_removeTuple_0 : decode cX1_removeTuple 0 = .ok (.aload_n 0, 1) := by decide +kernel
theorem dX1_removeTuple_1 : decode cX1_removeTuple 1 = .ok (.getfield 26, 3) := by decide +kernel
theorem dX1_removeTuple_4 : decode cX1_removeTuple 4 = .ok (.iload_n 1, 1) := by decide +kernel
theorem dX1_removeTuple_5 : decode cX1_removeTuple 5 = .ok (.aaload, 1) := by decide +kernel
theorem dX1_removeTuple_6 : decode cX1_removeTuple 6 = .ok (.astore_n 2, 1) := by decide +kernel
theorem dX1_removeTuple_7 : decode cX1_removeTuple 7 = .ok (.iload_n 1, 1) := by decide +kernel
theorem dX1_removeTuple_8 : decode cX1_removeTuple 8 = .ok (.istore_n 3, 1) := by decide +kernel
theorem dX1_removeTuple_9 : decode cX1_removeTuple 9 = .ok (.iload_n 3, 1) := by decide +kernel
theorem dX1_removeTuple_10 : decode cX1_removeTuple 10 = .ok (.iconst 1, 1) := by decide +kernel
theorem dX1_removeTuple_11 : decode cX1_removeTuple 11 = .ok (.iadd, 1) := by decide +kernel
theorem dX1_removeTuple_12 : decode cX1_removeTuple 12 = .ok (.aload_n 0, 1) := by decide +kernel
theorem dX1_removeTuple_13 : decode cX1_removeTuple 13 = .ok (.getfield 45, 3) := by decide +kernel
theorem dX1_removeTuple_16 : decode cX1_removeTuple 16 = .ok (.if_icmp .ge 23, 3) := by decide +kernel
theorem dX1_removeTuple_19 : decode cX1_removeTuple 19 = .ok (.aload_n 0, 1) := by decide +kernel
theorem dX1_removeTuple_20 : decode cX1_removeTuple 20 = .ok (.getfield 26, 3) := by decide +kernel
theorem dX1_removeTuple_23 : decode cX1_removeTuple 23 = .ok (.iload_n 3, 1) := by decide +kernel
theorem dX1_removeTuple_24 : decode cX1_removeTuple 24 = .ok (.aload_n 0, 1) := by decide +kernel
theorem dX1_removeTuple_25 : decode cX1_removeTuple 25 = .ok (.getfield 26, 3) := by decide +kernel
theorem dX1_removeTuple_28 : decode cX1_removeTuple 28 = .ok (.iload_n 3, 1) := by decide +kernel
theorem dX1_removeTuple_29 : decode cX1_removeTuple 29 = .ok (.iconst 1, 1) := by decide +kernel
theorem dX1_removeTuple_30 : decode cX1_removeTuple 30 = .ok (.iadd, 1) := by decide +kernel
theorem dX1_removeTuple_31 : decode cX1_removeTuple 31 = .ok (.aaload, 1) := by decide +kernel
theorem dX1_removeTuple_32 : decode cX1_removeTuple 32 = .ok (.aastore, 1) := by decide +kernel
theorem dX1_removeTuple_33 : decode cX1_removeTuple 33 = .ok (.iinc 3 1, 3) := by decide +kernel
theorem dX1_removeTuple_36 : decode cX1_removeTuple 36 = .ok (.goto (-27), 3) := by decide +kernel
theorem dX1_removeTuple_39 : decode cX1_removeTuple 39 = .ok (.aload_n 0, 1) := by decide +kernel
theorem dX1_removeTuple_40 : decode cX1_removeTuple 40 = .ok (.dup, 1) := by decide +kernel
theorem dX1_removeTuple_41 : decode cX1_removeTuple 41 = .ok (.getfield 45, 3) := by decide +kernel
theorem dX1_removeTuple_44 : decode cX1_removeTuple 44 = .ok (.iconst 1, 1) := by decide +kernel
theorem dX1_removeTuple_45 : decode cX1_removeTuple 45 = .ok (.isub, 1) := by decide +kernel
theorem dX1_removeTuple_46 : decode cX1_removeTuple 46 = .ok (.putfield 45, 3) := by decide +kernel
theorem dX1_removeTuple_49 : decode cX1_removeTuple 49 = .ok (.aload_n 0, 1) := by decide +kernel
theorem dX1_removeTuple_50 : decode cX1_removeTuple 50 = .ok (.getfield 26, 3) := by decide +kernel
theorem dX1_removeTuple_53 : decode cX1_removeTuple 53 = .ok (.aload_n 0, 1) := by decide +kernel
theorem dX1_removeTuple_54 : decode cX1_removeTuple 54 = .ok (.getfield 45, 3) := by decide +kernel
theorem dX1_removeTuple_57 : decode cX1_removeTuple 57 = .ok (.aload_n 2, 1) := by decide +kernel
theorem dX1_removeTuple_58 : decode cX1_removeTuple 58 = .ok (.aastore, 1) := by decide +kernel
theorem dX1_removeTuple_59 : decode cX1_removeTuple 59 = .ok (.return_, 1) := by decide +kernel
theorem dX1_mergeTuples_0 : decode cX1_mergeTuples 0 = .ok (.aload_n 0, 1) := by decide +kernel
theorem dX1_mergeTuples_1 : decode cX1_mergeTuples 1 = .ok (.getfield 45, 3) := by decide +kernel
theorem dX1_mergeTuples_4 : decode cX1_mergeTuples 4 = .ok (.istore_n 1, 1) := by decide +kernel
theorem dX1_mergeTuples_5 : decode cX1_mergeTuples 5 = .ok (.aload_n 0, 1) := by decide +kernel
theorem dX1_mergeTuples_6 : decode cX1_mergeTuples 6 = .ok (.getfield 45, 3) := by decide +kernel
theorem dX1_mergeTuples_9 : decode cX1_mergeTuples 9 = .ok (.iconst 1, 1) := by decide +kernel
theorem dX1_mergeTuples_10 : decode cX1_mergeTuples 10 = .ok (.isub, 1) := by decide +kernel
theorem dX1_mergeTuples_11 : decode cX1_mergeTuples 11 = .ok (.istore_n 2, 1) := by decide +kernel
theorem dX1_mergeTuples_12 : decode cX1_mergeTuples 12 = .ok (.iload_n 2, 1) := by decide +kernel
theorem dX1_mergeTuples_13 : decode cX1_mergeTuples 13 = .ok (.ifCond .le 60, 3) := by decide +kernel
theorem dX1_mergeTuples_16 : decode cX1_mergeTuples 16 = .ok (.aload_n 0, 1) := by decide +kernel
theorem dX1_mergeTuples_17 : decode cX1_mergeTuples 17 = .ok (.iload_n 2, 1) := by decide +kernel
theorem dX1_mergeTuples_18 : decode cX1_mergeTuples 18 = .ok (.invokevirtual 101, 3) := by decide +kernel
theorem dX1_mergeTuples_21 : decode cX1_mergeTuples 21 = .ok (.istore_n 3, 1) := by decide +kernel
theorem dX1_mergeTuples_22 : decode cX1_mergeTuples 22 = .ok (.iload_n 3, 1) := by decide +kernel
theorem dX1_mergeTuples_23 : decode cX1_mergeTuples 23 = .ok (.iload_n 2, 1) := by decide +kernel
theorem dX1_mergeTuples_24 : decode cX1_mergeTuples 24 = .ok (.if_icmp .ge 43, 3) := by decide +kernel
theorem dX1_mergeTuples_27 : decode cX1_mergeTuples 27 = .ok (.aload_n 0, 1) := by decide +kernel
theorem dX1_mergeTuples_28 : decode cX1_mergeTuples 28 = .ok (.aload_n 0, 1) := by decide +kernel
theorem dX1_mergeTuples_29 : decode cX1_mergeTuples 29 = .ok (.getfield 26, 3) := by decide +kernel
theorem dX1_mergeTuples_32 : decode cX1_mergeTuples 32 = .ok (.iload_n 3, 1) := by decide +kernel
theorem dX1_mergeTuples_33 : decode cX1_mergeTuples 33 = .ok (.aaload, 1) := by decide +kernel
theorem dX1_mergeTuples_34 : decode cX1_mergeTuples 34 = .ok (.invokevirtual 105, 3) := by decide +kernel
theorem dX1_mergeTuples_37 : decode cX1_mergeTuples 37 = .ok (.aload_n 0, 1) := by decide +kernel
theorem dX1_mergeTuples_38 : decode cX1_mergeTuples 38 = .ok (.aload_n 0, 1) := by decide +kernel
theorem dX1_mergeTuples_39 : decode cX1_mergeTuples 39 = .ok (.getfield 26, 3) := by decide +kernel
theorem dX1_mergeTuples_42 : decode cX1_mergeTuples 42 = .ok (.iload_n 2, 1) := by decide +kernel
theorem dX1_mergeTuples_43 : decode cX1_mergeTuples 43 = .ok (.aaload, 1) := by decide +kernel
theorem dX1_mergeTuples_44 : decode cX1_mergeTuples 44 = .ok (.invokevirtual 105, 3) := by decide +kernel
theorem dX1_mergeTuples_47 : decode cX1_mergeTuples 47 = .ok (.aload_n 0, 1) := by decide +kernel
theorem dX1_mergeTuples_48 : decode cX1_mergeTuples 48 = .ok (.getfield 26, 3) := by decide +kernel
theorem dX1_mergeTuples_51 : decode cX1_mergeTuples 51 = .ok (.iload_n 3, 1) := by decide +kernel
theorem dX1_mergeTuples_52 : decode cX1_mergeTuples 52 = .ok (.aaload, 1) := by decide +kernel
theorem dX1_mergeTuples_53 : decode cX1_mergeTuples 53 = .ok (.aload_n 0, 1) := by decide +kernel
theorem dX1_mergeTuples_54 : decode cX1_mergeTuples 54 = .ok (.getfield 26, 3) := by decide +kernel
theorem dX1_mergeTuples_57 : decode cX1_mergeTuples 57 = .ok (.iload_n 2, 1) := by decide +kernel
theorem dX1_mergeTuples_58 : decode cX1_mergeTuples 58 = .ok (.aaload, 1) := by decide +kernel
theorem dX1_mergeTuples_59 : decode cX1_mergeTuples 59 = .ok (.invokevirtual 108, 3) := by decide +kernel
theorem dX1_mergeTuples_62 : decode cX1_mergeTuples 62 = .ok (.aload_n 0, 1) := by decide +kernel
theorem dX1_mergeTuples_63 : decode cX1_mergeTuples 63 = .ok (.iload_n 2, 1) := by decide +kernel
theorem dX1_mergeTuples_64 : decode cX1_mergeTuples 64 = .ok (.invokevirtual 111, 3) := by decide +kernel
theorem dX1_mergeTuples_67 : decode cX1_mergeTuples 67 = .ok (.iinc 2 (-1), 3) := by decide +kernel
theorem dX1_mergeTuples_70 : decode cX1_mergeTuples 70 = .ok (.goto (-58), 3) := by decide +kernel
theorem dX1_mergeTuples_73 : decode cX1_mergeTuples 73 = .ok (.iload_n 1, 1) := by decide +kernel
theorem dX1_mergeTuples_74 : decode cX1_mergeTuples 74 = .ok (.aload_n 0, 1) := by decide +kernel
theorem dX1_mergeTuples_75 : decode cX1_mergeTuples 75 = .ok (.getfield 45, 3) := by decide +kernel
theorem dX1_mergeTuples_78 : decode cX1_mergeTuples 78 = .ok (.isub, 1) := by decide +kernel
theorem dX1_mergeTuples_79 : decode cX1_mergeTuples 79 = .ok (.ireturn, 1) := by decide +kernel
theorem dX1_earliestWithRegionOf_0 : decode cX1_earliestWithRegionOf 0 = .ok (.iconst 0, 1) := by decide +kernel
theorem dX1_earliestWithRegionOf_1 : decode cX1_earliestWithRegionOf 1 = .ok (.istore_n 2, 1) := by decide +kernel
theorem dX1_earliestWithRegionOf_2 : decode cX1_earliestWithRegionOf 2 = .ok (.iload_n 2, 1) := by decide +kernel
theorem dX1_earliestWithRegionOf_3 : decode cX1_earliestWithRegionOf 3 = .ok (.iload_n 1, 1) := by decide +kernel
theorem dX1_earliestWithRegionOf_4 : decode cX1_earliestWithRegionOf 4 = .ok (.if_icmp .ge 29, 3) := by decide +kernel
theorem dX1_earliestWithRegionOf_7 : decode cX1_earliestWithRegionOf 7 = .ok (.aload_n 0, 1) := by decide +kernel
theorem dX1_earliestWithRegionOf_8 : decode cX1_earliestWithRegionOf 8 = .ok (.getfield 26, 3) := by decide +kernel
theorem dX1_earliestWithRegionOf_11 : decode cX1_earliestWithRegionOf 11 = .ok (.iload_n 2, 1) := by decide +kernel
theorem dX1_earliestWithRegionOf_12 : decode cX1_earliestWithRegionOf 12 = .ok (.aaload, 1) := by decide +kernel
theorem dX1_earliestWithRegionOf_13 : decode cX1_earliestWithRegionOf 13 = .ok (.aload_n 0, 1) := by decide +kernel
theorem dX1_earliestWithRegionOf_14 : decode cX1_earliestWithRegionOf 14 = .ok (.getfield 26, 3) := by decide +kernel
theorem dX1_earliestWithRegionOf_17 : decode cX1_earliestWithRegionOf 17 = .ok (.iload_n 1, 1) := by decide +kernel
theorem dX1_earliestWithRegionOf_18 : decode cX1_earliestWithRegionOf 18 = .ok (.aaload, 1) := by decide +kernel
theorem dX1_earliestWithRegionOf_19 : decode cX1_earliestWithRegionOf 19 = .ok (.invokevirtual 115, 3) := by decide +kernel
theorem dX1_earliestWithRegionOf_22 : decode cX1_earliestWithRegionOf 22 = .ok (.ifCond .eq 5, 3) := by decide +kernel
theorem dX1_earliestWithRegionOf_25 : decode cX1_earliestWithRegionOf 25 = .ok (.iload_n 2, 1) := by decide +kernel
theorem dX1_earliestWithRegionOf_26 : decode cX1_earliestWithRegionOf 26 = .ok (.ireturn, 1) := by decide +kernel
theorem dX1_earliestWithRegionOf_27 : decode cX1_earliestWithRegionOf 27 = .ok (.iinc 2 1, 3) := by decide +kernel
theorem dX1_earliestWithRegionOf_30 : decode cX1_earliestWithRegionOf 30 = .ok (.goto (-28), 3) := by decide +kernel
theorem dX1_earliestWithRegionOf_33 : decode cX1_earliestWithRegionOf 33 = .ok (.iload_n 1, 1) := by decide +kernel
theorem dX1_earliestWithRegionOf_34 : decode cX1_earliestWithRegionOf 34 = .ok (.ireturn, 1) := by decide +kernel
theorem dX1_compactTuple_0 : decode cX1_compactTuple 0 = .ok (.aload_n 1, 1) := by decide +kernel
theorem dX1_compactTuple_1 : decode cX1_compactTuple 1 = .ok (.getfield 98, 3) := by decide +kernel
theorem dX1_compactTuple_4 : decode cX1_compactTuple 4 = .ok (.invokestatic 119, 3) := by decide +kernel
theorem dX1_compactTuple_7 : decode cX1_compactTuple 7 = .ok (.istore_n 2, 1) := by decide +kernel
theorem dX1_compactTuple_8 : decode cX1_compactTuple 8 = .ok (.aload_n 0, 1) := by decide +kernel
theorem dX1_compactTuple_9 : decode cX1_compactTuple 9 = .ok (.aload_n 1, 1) := by decide +kernel
theorem dX1_compactTuple_10 : decode cX1_compactTuple 10 = .ok (.invokevirtual 95, 3) := by decide +kernel
theorem dX1_compactTuple_13 : decode cX1_compactTuple 13 = .ok (.iconst 0, 1) := by decide +kernel
theorem dX1_compactTuple_14 : decode cX1_compactTuple 14 = .ok (.istore_n 3, 1) := by decide +kernel
theorem dX1_compactTuple_15 : decode cX1_compactTuple 15 = .ok (.iload_n 3, 1) := by decide +kernel
theorem dX1_compactTuple_16 : decode cX1_compactTuple 16 = .ok (.aload_n 0, 1) := by decide +kernel
theorem dX1_compactTuple_17 : decode cX1_compactTuple 17 = .ok (.getfield 35, 3) := by decide +kernel
theorem dX1_compactTuple_20 : decode cX1_compactTuple 20 = .ok (.if_icmp .gt 23, 3) := by decide +kernel
theorem dX1_compactTuple_23 : decode cX1_compactTuple 23 = .ok (.aload_n 1, 1) := by decide +kernel
theorem dX1_compactTuple_24 : decode cX1_compactTuple 24 = .ok (.iload_n 3, 1) := by decide +kernel
theorem dX1_compactTuple_25 : decode cX1_compactTuple 25 = .ok (.invokevirtual 74, 3) := by decide +kernel
theorem dX1_compactTuple_28 : decode cX1_compactTuple 28 = .ok (.ifCond .eq 9, 3) := by decide +kernel
theorem dX1_compactTuple_31 : decode cX1_compactTuple 31 = .ok (.aload_n 0, 1) := by decide +kernel
theorem dX1_compactTuple_32 : decode cX1_compactTuple 32 = .ok (.aload_n 1, 1) := by decide +kernel
theorem dX1_compactTuple_33 : decode cX1_compactTuple 33 = .ok (.iload_n 3, 1) := by decide +kernel
theorem dX1_compactTuple_34 : decode cX1_compactTuple 34 = .ok (.invokevirtual 124, 3) := by decide +kernel
theorem dX1_compactTuple_37 : decode cX1_compactTuple 37 = .ok (.iinc 3 1, 3) := by decide +kernel
theorem dX1_compactTuple_40 : decode cX1_compactTuple 40 = .ok (.goto (-25), 3) := by decide +kernel
theorem dX1_compactTuple_43 : decode cX1_compactTuple 43 = .ok (.iload_n 2, 1) := by decide +kernel
theorem dX1_compactTuple_44 : decode cX1_compactTuple 44 = .ok (.aload_n 1, 1) := by decide +kernel
theorem dX1_compactTuple_45 : decode cX1_compactTuple 45 = .ok (.getfield 98, 3) := by decide +kernel
theorem dX1_compactTuple_48 : decode cX1_compactTuple 48 = .ok (.invokestatic 119, 3) := by decide +kernel
theorem dX1_compactTuple_51 : decode cX1_compactTuple 51 = .ok (.isub, 1) := by decide +kernel
theorem dX1_compactTuple_52 : decode cX1_compactTuple 52 = .ok (.ireturn, 1) := by decide +kernel
theorem dX1_releaseIfNeedless_0 : decode cX1_releaseIfNeedless 0 = .ok (.aload_n 1, 1) := by decide +kernel
theorem dX1_releaseIfNeedless_1 : decode cX1_releaseIfNeedless 1 = .ok (.iload_n 2, 1) := by decide +kernel
theorem dX1_releaseIfNeedless_2 : decode cX1_releaseIfNeedless 2 = .ok (.invokevirtual 128, 3) := by decide +kernel
theorem dX1_releaseIfNeedless_5 : decode cX1_releaseIfNeedless 5 = .ok (.aload_n 0, 1) := by decide +kernel
theorem dX1_releaseIfNeedless_6 : decode cX1_releaseIfNeedless 6 = .ok (.aload_n 1, 1) := by decide +kernel
theorem dX1_releaseIfNeedless_7 : decode cX1_releaseIfNeedless 7 = .ok (.invokevirtual 131, 3) := by decide +kernel
theorem dX1_releaseIfNeedless_10 : decode cX1_releaseIfNeedless 10 = .ok (.ifCond .ne 20, 3) := by decide +kernel
theorem dX1_releaseIfNeedless_13 : decode cX1_releaseIfNeedless 13 = .ok (.aload_n 1, 1) := by decide +kernel
theorem dX1_releaseIfNeedless_14 : decode cX1_releaseIfNeedless 14 = .ok (.iload_n 2, 1) := by decide +kernel
theorem dX1_releaseIfNeedless_15 : decode cX1_releaseIfNeedless 15 = .ok (.aload_n 1, 1) := by decide +kernel
theorem dX1_releaseIfNeedless_16 : decode cX1_releaseIfNeedless 16 = .ok (.getfield 78, 3) := by decide +kernel
theorem dX1_releaseIfNeedless_19 : decode cX1_releaseIfNeedless 19 = .ok (.iload_n 2, 1) := by decide +kernel
theorem dX1_releaseIfNeedless_20 : decode cX1_releaseIfNeedless 20 = .ok (.iaload, 1) := by decide +kernel
theorem dX1_releaseIfNeedless_21 : decode cX1_releaseIfNeedless 21 = .ok (.aload_n 1, 1) := by decide +kernel
theorem dX1_releaseIfNeedless_22 : decode cX1_releaseIfNeedless 22 = .ok (.getfield 77, 3) := by decide +kernel
theorem dX1_releaseIfNeedless_25 : decode cX1_releaseIfNeedless 25 = .ok (.iload_n 2, 1) := by decide +kernel
theorem dX1_releaseIfNeedless_26 : decode cX1_releaseIfNeedless 26 = .ok (.iaload, 1) := by decide +kernel
theorem dX1_releaseIfNeedless_27 : decode cX1_releaseIfNeedless 27 = .ok (.invokevirtual 134, 3) := by decide +kernel
theorem dX1_releaseIfNeedless_30 : decode cX1_releaseIfNeedless 30 = .ok (.return_, 1) := by decide +kernel
theorem dX1_keepsWrittenDeltas_0 : decode cX1_keepsWrittenDeltas 0 = .ok (.iconst 0, 1) := by decide +kernel
theorem dX1_keepsWrittenDeltas_1 : decode cX1_keepsWrittenDeltas 1 = .ok (.istore_n 2, 1) := by decide +kernel
theorem dX1_keepsWrittenDeltas_2 : decode cX1_keepsWrittenDeltas 2 = .ok (.iload_n 2, 1) := by decide +kernel
theorem dX1_keepsWrittenDeltas_3 : decode cX1_keepsWrittenDeltas 3 = .ok (.aload_n 0, 1) := by decide +kernel
theorem dX1_keepsWrittenDeltas_4 : decode cX1_keepsWrittenDeltas 4 = .ok (.getfield 35, 3) := by decide +kernel
theorem dX1_keepsWrittenDeltas_7 : decode cX1_keepsWrittenDeltas 7 = .ok (.if_icmp .gt 43, 3) := by decide +kernel
theorem dX1_keepsWrittenDeltas_10 : decode cX1_keepsWrittenDeltas 10 = .ok (.aload_n 0, 1) := by decide +kernel
theorem dX1_keepsWrittenDeltas_11 : decode cX1_keepsWrittenDeltas 11 = .ok (.aload_n 1, 1) := by decide +kernel
theorem dX1_keepsWrittenDeltas_12 : decode cX1_keepsWrittenDeltas 12 = .ok (.iload_n 2, 1) := by decide +kernel
theorem dX1_keepsWrittenDeltas_13 : decode cX1_keepsWrittenDeltas 13 = .ok (.iconst 0, 1) := by decide +kernel
theorem dX1_keepsWrittenDeltas_14 : decode cX1_keepsWrittenDeltas 14 = .ok (.invokevirtual 64, 3) := by decide +kernel
theorem dX1_keepsWrittenDeltas_17 : decode cX1_keepsWrittenDeltas 17 = .ok (.aload_n 1, 1) := by decide +kernel
theorem dX1_keepsWrittenDeltas_18 : decode cX1_keepsWrittenDeltas 18 = .ok (.getfield 78, 3) := by decide +kernel
theorem dX1_keepsWrittenDeltas_21 : decode cX1_keepsWrittenDeltas 21 = .ok (.iload_n 2, 1) := by decide +kernel
theorem dX1_keepsWrittenDeltas_22 : decode cX1_keepsWrittenDeltas 22 = .ok (.iaload, 1) := by decide +kernel
theorem dX1_keepsWrittenDeltas_23 : decode cX1_keepsWrittenDeltas 23 = .ok (.if_icmp .ne 19, 3) := by decide +kernel
theorem dX1_keepsWrittenDeltas_26 : decode cX1_keepsWrittenDeltas 26 = .ok (.aload_n 0, 1) := by decide +kernel
theorem dX1_keepsWrittenDeltas_27 : decode cX1_keepsWrittenDeltas 27 = .ok (.aload_n 1, 1) := by decide +kernel
theorem dX1_keepsWrittenDeltas_28 : decode cX1_keepsWrittenDeltas 28 = .ok (.iload_n 2, 1) := by decide +kernel
theorem dX1_keepsWrittenDeltas_29 : decode cX1_keepsWrittenDeltas 29 = .ok (.iconst 1, 1) := by decide +kernel
theorem dX1_keepsWrittenDeltas_30 : decode cX1_keepsWrittenDeltas 30 = .ok (.invokevirtual 64, 3) := by decide +kernel
theorem dX1_keepsWrittenDeltas_33 : decode cX1_keepsWrittenDeltas 33 = .ok (.aload_n 1, 1) := by decide +kernel
theorem dX1_keepsWrittenDeltas_34 : decode cX1_keepsWrittenDeltas 34 = .ok (.getfield 77, 3) := by decide +kernel
theorem dX1_keepsWrittenDeltas_37 : decode cX1_keepsWrittenDeltas 37 = .ok (.iload_n 2, 1) := by decide +kernel
theorem dX1_keepsWrittenDeltas_38 : decode cX1_keepsWrittenDeltas 38 = .ok (.iaload, 1) := by decide +kernel
theorem dX1_keepsWrittenDeltas_39 : decode cX1_keepsWrittenDeltas 39 = .ok (.if_icmp .eq 5, 3) := by decide +kernel
theorem dX1_keepsWrittenDeltas_42 : decode cX1_keepsWrittenDeltas 42 = .ok (.iconst 0, 1) := by decide +kernel
theorem dX1_keepsWrittenDeltas_43 : decode cX1_keepsWrittenDeltas 43 = .ok (.ireturn, 1) := by decide +kernel
theorem dX1_keepsWrittenDeltas_44 : decode cX1_keepsWrittenDeltas 44 = .ok (.iinc 2 1, 3) := by decide +kernel
theorem dX1_keepsWrittenDeltas_47 : decode cX1_keepsWrittenDeltas 47 = .ok (.goto (-45), 3) := by decide +kernel
theorem dX1_keepsWrittenDeltas_50 : decode cX1_keepsWrittenDeltas 50 = .ok (.iconst 1, 1) := by decide +kernel
theorem dX1_keepsWrittenDeltas_51 : decode cX1_keepsWrittenDeltas 51 = .ok (.ireturn, 1) := by decide +kernel
theorem dX1_foldTuples_0 : decode cX1_foldTuples 0 = .ok (.aload_n 0, 1) := by decide +kernel
theorem dX1_foldTuples_1 : decode cX1_foldTuples 1 = .ok (.iload_n 1, 1) := by decide +kernel
theorem dX1_foldTuples_2 : decode cX1_foldTuples 2 = .ok (.invokevirtual 138, 3) := by decide +kernel
theorem dX1_foldTuples_5 : decode cX1_foldTuples 5 = .ok (.ifCond .ne 5, 3) := by decide +kernel
theorem dX1_foldTuples_8 : decode cX1_foldTuples 8 = .ok (.iconst 0, 1) := by decide +kernel
theorem dX1_foldTuples_9 : decode cX1_foldTuples 9 = .ok (.ireturn, 1) := by decide +kernel
theorem dX1_foldTuples_10 : decode cX1_foldTuples 10 = .ok (.iconst 0, 1) := by decide +kernel
theorem dX1_foldTuples_11 : decode cX1_foldTuples 11 = .ok (.istore_n 3, 1) := by decide +kernel
theorem dX1_foldTuples_12 : decode cX1_foldTuples 12 = .ok (.aload_n 0, 1) := by decide +kernel
theorem dX1_foldTuples_13 : decode cX1_foldTuples 13 = .ok (.getfield 31, 3) := by decide +kernel
theorem dX1_foldTuples_16 : decode cX1_foldTuples 16 = .ok (.ifCond .ne 27, 3) := by decide +kernel
theorem dX1_foldTuples_19 : decode cX1_foldTuples 19 = .ok (.iload_n 3, 1) := by decide +kernel
theorem dX1_foldTuples_20 : decode cX1_foldTuples 20 = .ok (.aload_n 0, 1) := by decide +kernel
theorem dX1_foldTuples_21 : decode cX1_foldTuples 21 = .ok (.getfield 45, 3) := by decide +kernel
theorem dX1_foldTuples_24 : decode cX1_foldTuples 24 = .ok (.if_icmp .ge 19, 3) := by decide +kernel
theorem dX1_foldTuples_27 : decode cX1_foldTuples 27 = .ok (.aload_n 0, 1) := by decide +kernel
theorem dX1_foldTuples_28 : decode cX1_foldTuples 28 = .ok (.aload_n 0, 1) := by decide +kernel
theorem dX1_foldTuples_29 : decode cX1_foldTuples 29 = .ok (.getfield 26, 3) := by decide +kernel
theorem dX1_foldTuples_32 : decode cX1_foldTuples 32 = .ok (.iload_n 3, 1) := by decide +kernel
theorem dX1_foldTuples_33 : decode cX1_foldTuples 33 = .ok (.aaload, 1) := by decide +kernel
theorem dX1_foldTuples_34 : decode cX1_foldTuples 34 = .ok (.invokevirtual 105, 3) := by decide +kernel
theorem dX1_foldTuples_37 : decode cX1_foldTuples 37 = .ok (.iinc 3 1, 3) := by decide +kernel
theorem dX1_foldTuples_40 : decode cX1_foldTuples 40 = .ok (.goto (-28), 3) := by decide +kernel
theorem dX1_foldTuples_43 : decode cX1_foldTuples 43 = .ok (.iconst 0, 1) := by decide +kernel
theorem dX1_foldTuples_44 : decode cX1_foldTuples 44 = .ok (.istore_n 3, 1) := by decide +kernel
theorem dX1_foldTuples_45 : decode cX1_foldTuples 45 = .ok (.iload_n 3, 1) := by decide +kernel
theorem dX1_foldTuples_46 : decode cX1_foldTuples 46 = .ok (.aload_n 0, 1) := by decide +kernel
theorem dX1_foldTuples_47 : decode cX1_foldTuples 47 = .ok (.getfield 35, 3) := by decide +kernel
theorem dX1_foldTuples_50 : decode cX1_foldTuples 50 = .ok (.if_icmp .gt 39, 3) := by decide +kernel
theorem dX1_foldTuples_53 : decode cX1_foldTuples 53 = .ok (.aload_n 0, 1) := by decide +kernel
theorem dX1_foldTuples_54 : decode cX1_foldTuples 54 = .ok (.getfield 9, 3) := by decide +kernel
theorem dX1_foldTuples_57 : decode cX1_foldTuples 57 = .ok (.iload_n 3, 1) := by decide +kernel
theorem dX1_foldTuples_58 : decode cX1_foldTuples 58 = .ok (.aload_n 0, 1) := by decide +kernel
theorem dX1_foldTuples_59 : decode cX1_foldTuples 59 = .ok (.iload_n 3, 1) := by decide +kernel
theorem dX1_foldTuples_60 : decode cX1_foldTuples 60 = .ok (.iconst 0, 1) := by decide +kernel
theorem dX1_foldTuples_61 : decode cX1_foldTuples 61 = .ok (.aload_n 2, 1) := by decide +kernel
theorem dX1_foldTuples_62 : decode cX1_foldTuples 62 = .ok (.iload_n 1, 1) := by decide +kernel
theorem dX1_foldTuples_63 : decode cX1_foldTuples 63 = .ok (.invokevirtual 141, 3) := by decide +kernel
theorem dX1_foldTuples_66 : decode cX1_foldTuples 66 = .ok (.l2i, 1) := by decide +kernel
theorem dX1_foldTuples_67 : decode cX1_foldTuples 67 = .ok (.iastore, 1) := by decide +kernel
theorem dX1_foldTuples_68 : decode cX1_foldTuples 68 = .ok (.aload_n 0, 1) := by decide +kernel
theorem dX1_foldTuples_69 : decode cX1_foldTuples 69 = .ok (.getfield 15, 3) := by decide +kernel
theorem dX1_foldTuples_72 : decode cX1_foldTuples 72 = .ok (.iload_n 3, 1) := by decide +kernel
theorem dX1_foldTuples_73 : decode cX1_foldTuples 73 = .ok (.aload_n 0, 1) := by decide +kernel
theorem dX1_foldTuples_74 : decode cX1_foldTuples 74 = .ok (.iload_n 3, 1) := by decide +kernel
theorem dX1_foldTuples_75 : decode cX1_foldTuples 75 = .ok (.iconst 1, 1) := by decide +kernel
theorem dX1_foldTuples_76 : decode cX1_foldTuples 76 = .ok (.aload_n 2, 1) := by decide +kernel
theorem dX1_foldTuples_77 : decode cX1_foldTuples 77 = .ok (.iload_n 1, 1) := by decide +kernel
theorem dX1_foldTuples_78 : decode cX1_foldTuples 78 = .ok (.invokevirtual 141, 3) := by decide +kernel
theorem dX1_foldTuples_81 : decode cX1_foldTuples 81 = .ok (.l2i, 1) := by decide +kernel
theorem dX1_foldTuples_82 : decode cX1_foldTuples 82 = .ok (.iastore, 1) := by decide +kernel
theorem dX1_foldTuples_83 : decode cX1_foldTuples 83 = .ok (.iinc 3 1, 3) := by decide +kernel
theorem dX1_foldTuples_86 : decode cX1_foldTuples 86 = .ok (.goto (-41), 3) := by decide +kernel
theorem dX1_foldTuples_89 : decode cX1_foldTuples 89 = .ok (.aload_n 0, 1) := by decide +kernel
theorem dX1_foldTuples_90 : decode cX1_foldTuples 90 = .ok (.getfield 45, 3) := by decide +kernel
theorem dX1_foldTuples_93 : decode cX1_foldTuples 93 = .ok (.istore_n 3, 1) := by decide +kernel
theorem dX1_foldTuples_94 : decode cX1_foldTuples 94 = .ok (.aload_n 0, 1) := by decide +kernel
theorem dX1_foldTuples_95 : decode cX1_foldTuples 95 = .ok (.getfield 45, 3) := by decide +kernel
theorem dX1_foldTuples_98 : decode cX1_foldTuples 98 = .ok (.iconst 1, 1) := by decide +kernel
theorem dX1_foldTuples_99 : decode cX1_foldTuples 99 = .ok (.isub, 1) := by decide +kernel
theorem dX1_foldTuples_100 : decode cX1_foldTuples 100 = .ok (.istore 4, 2) := by decide +kernel
theorem dX1_foldTuples_102 : decode cX1_foldTuples 102 = .ok (.iload 4, 2) := by decide +kernel
theorem dX1_foldTuples_104 : decode cX1_foldTuples 104 = .ok (.ifCond .lt 29, 3) := by decide +kernel
theorem dX1_foldTuples_107 : decode cX1_foldTuples 107 = .ok (.aload_n 0, 1) := by decide +kernel
theorem dX1_foldTuples_108 : decode cX1_foldTuples 108 = .ok (.getfield 26, 3) := by decide +kernel
theorem dX1_foldTuples_111 : decode cX1_foldTuples 111 = .ok (.iload 4, 2) := by decide +kernel
theorem dX1_foldTuples_113 : decode cX1_foldTuples 113 = .ok (.aaload, 1) := by decide +kernel
theorem dX1_foldTuples_114 : decode cX1_foldTuples 114 = .ok (.iload_n 1, 1) := by decide +kernel
theorem dX1_foldTuples_115 : decode cX1_foldTuples 115 = .ok (.invokevirtual 56, 3) := by decide +kernel
theorem dX1_foldTuples_118 : decode cX1_foldTuples 118 = .ok (.ifCond .eq 9, 3) := by decide +kernel
theorem dX1_foldTuples_121 : decode cX1_foldTuples 121 = .ok (.aload_n 0, 1) := by decide +kernel
theorem dX1_foldTuples_122 : decode cX1_foldTuples 122 = .ok (.iload 4, 2) := by decide +kernel
theorem dX1_foldTuples_124 : decode cX1_foldTuples 124 = .ok (.invokevirtual 111, 3) := by decide +kernel
theorem dX1_foldTuples_127 : decode cX1_foldTuples 127 = .ok (.iinc 4 (-1), 3) := by decide +kernel
theorem dX1_foldTuples_130 : decode cX1_foldTuples 130 = .ok (.goto (-28), 3) := by decide +kernel
theorem dX1_foldTuples_133 : decode cX1_foldTuples 133 = .ok (.iload_n 3, 1) := by decide +kernel
theorem dX1_foldTuples_134 : decode cX1_foldTuples 134 = .ok (.aload_n 0, 1) := by decide +kernel
theorem dX1_foldTuples_135 : decode cX1_foldTuples 135 = .ok (.getfield 45, 3) := by decide +kernel
theorem dX1_foldTuples_138 : decode cX1_foldTuples 138 = .ok (.isub, 1) := by decide +kernel
theorem dX1_foldTuples_139 : decode cX1_foldTuples 139 = .ok (.ireturn, 1) := by decide +kernel
theorem dX1_hasTupleToFold_0 : decode cX1_hasTupleToFold 0 = .ok (.iconst 0, 1) := by decide +kernel
theorem dX1_hasTupleToFold_1 : decode cX1_hasTupleToFold 1 = .ok (.istore_n 2, 1) := by decide +kernel
theorem dX1_hasTupleToFold_2 : decode cX1_hasTupleToFold 2 = .ok (.iload_n 2, 1) := by decide +kernel
theorem dX1_hasTupleToFold_3 : decode cX1_hasTupleToFold 3 = .ok (.aload_n 0, 1) := by decide +kernel
theorem dX1_hasTupleToFold_4 : decode cX1_hasTupleToFold 4 = .ok (.getfield 45, 3) := by decide +kernel
theorem dX1_hasTupleToFold_7 : decode cX1_hasTupleToFold 7 = .ok (.if_icmp .ge 24, 3) := by decide +kernel
theorem dX1_hasTupleToFold_10 : decode cX1_hasTupleToFold 10 = .ok (.aload_n 0, 1) := by decide +kernel
theorem dX1_hasTupleToFold_11 : decode cX1_hasTupleToFold 11 = .ok (.getfield 26, 3) := by decide +kernel
theorem dX1_hasTupleToFold_14 : decode cX1_hasTupleToFold 14 = .ok (.iload_n 2, 1) := by decide +kernel
theorem dX1_hasTupleToFold_15 : decode cX1_hasTupleToFold 15 = .ok (.aaload, 1) := by decide +kernel
theorem dX1_hasTupleToFold_16 : decode cX1_hasTupleToFold 16 = .ok (.iload_n 1, 1) := by decide +kernel
theorem dX1_hasTupleToFold_17 : decode cX1_hasTupleToFold 17 = .ok (.invokevirtual 56, 3) := by decide +kernel
theorem dX1_hasTupleToFold_20 : decode cX1_hasTupleToFold 20 = .ok (.ifCond .eq 5, 3) := by decide +kernel
theorem dX1_hasTupleToFold_23 : decode cX1_hasTupleToFold 23 = .ok (.iconst 1, 1) := by decide +kernel
theorem dX1_hasTupleToFold_24 : decode cX1_hasTupleToFold 24 = .ok (.ireturn, 1) := by decide +kernel
theorem dX1_hasTupleToFold_25 : decode cX1_hasTupleToFold 25 = .ok (.iinc 2 1, 3) := by decide +kernel
theorem dX1_hasTupleToFold_28 : decode cX1_hasTupleToFold 28 = .ok (.goto (-26), 3) := by decide +kernel
theorem dX1_hasTupleToFold_31 : decode cX1_hasTupleToFold 31 = .ok (.iconst 0, 1) := by decide +kernel
theorem dX1_hasTupleToFold_32 : decode cX1_hasTupleToFold 32 = .ok (.ireturn, 1) := by decide +kernel
theorem dX1_pruneTuples_0 : decode cX1_pruneTuples 0 = .ok (.aload_n 0, 1) := by decide +kernel
theorem dX1_pruneTuples_1 : decode cX1_pruneTuples 1 = .ok (.getfield 45, 3) := by decide +kernel
theorem dX1_pruneTuples_4 : decode cX1_pruneTuples 4 = .ok (.istore_n 1, 1) := by decide +kernel
theorem dX1_pruneTuples_5 : decode cX1_pruneTuples 5 = .ok (.aload_n 0, 1) := by decide +kernel
theorem dX1_pruneTuples_6 : decode cX1_pruneTuples 6 = .ok (.getfield 45, 3) := by decide +kernel
theorem dX1_pruneTuples_9 : decode cX1_pruneTuples 9 = .ok (.iconst 1, 1) := by decide +kernel
theorem dX1_pruneTuples_10 : decode cX1_pruneTuples 10 = .ok (.isub, 1) := by decide +kernel
theorem dX1_pruneTuples_11 : decode cX1_pruneTuples 11 = .ok (.istore_n 2, 1) := by decide +kernel
theorem dX1_pruneTuples_12 : decode cX1_pruneTuples 12 = .ok (.iload_n 2, 1) := by decide +kernel
theorem dX1_pruneTuples_13 : decode cX1_pruneTuples 13 = .ok (.ifCond .lt 27, 3) := by decide +kernel
theorem dX1_pruneTuples_16 : decode cX1_pruneTuples 16 = .ok (.aload_n 0, 1) := by decide +kernel
theorem dX1_pruneTuples_17 : decode cX1_pruneTuples 17 = .ok (.aload_n 0, 1) := by decide +kernel
theorem dX1_pruneTuples_18 : decode cX1_pruneTuples 18 = .ok (.getfield 26, 3) := by decide +kernel
theorem dX1_pruneTuples_21 : decode cX1_pruneTuples 21 = .ok (.iload_n 2, 1) := by decide +kernel
theorem dX1_pruneTuples_22 : decode cX1_pruneTuples 22 = .ok (.aaload, 1) := by decide +kernel
theorem dX1_pruneTuples_23 : decode cX1_pruneTuples 23 = .ok (.invokevirtual 145, 3) := by decide +kernel
theorem dX1_pruneTuples_26 : decode cX1_pruneTuples 26 = .ok (.ifCond .eq 8, 3) := by decide +kernel
theorem dX1_pruneTuples_29 : decode cX1_pruneTuples 29 = .ok (.aload_n 0, 1) := by decide +kernel
theorem dX1_pruneTuples_30 : decode cX1_pruneTuples 30 = .ok (.iload_n 2, 1) := by decide +kernel
theorem dX1_pruneTuples_31 : decode cX1_pruneTuples 31 = .ok (.invokevirtual 111, 3) := by decide +kernel
theorem dX1_pruneTuples_34 : decode cX1_pruneTuples 34 = .ok (.iinc 2 (-1), 3) := by decide +kernel
theorem dX1_pruneTuples_37 : decode cX1_pruneTuples 37 = .ok (.goto (-25), 3) := by decide +kernel
theorem dX1_pruneTuples_40 : decode cX1_pruneTuples 40 = .ok (.iload_n 1, 1) := by decide +kernel
theorem dX1_pruneTuples_41 : decode cX1_pruneTuples 41 = .ok (.aload_n 0, 1) := by decide +kernel
theorem dX1_pruneTuples_42 : decode cX1_pruneTuples 42 = .ok (.getfield 45, 3) := by decide +kernel
theorem dX1_pruneTuples_45 : decode cX1_pruneTuples 45 = .ok (.isub, 1) := by decide +kernel
theorem dX1_pruneTuples_46 : decode cX1_pruneTuples 46 = .ok (.ireturn, 1) := by decide +kernel
theorem dX1_movesNothing_0 : decode cX1_movesNothing 0 = .ok (.iconst 0, 1) := by decide +kernel
theorem dX1_movesNothing_1 : decode cX1_movesNothing 1 = .ok (.istore_n 2, 1) := by decide +kernel
theorem dX1_movesNothing_2 : decode cX1_movesNothing 2 = .ok (.iload_n 2, 1) := by decide +kernel
theorem dX1_movesNothing_3 : decode cX1_movesNothing 3 = .ok (.aload_n 0, 1) := by decide +kernel
theorem dX1_movesNothing_4 : decode cX1_movesNothing 4 = .ok (.getfield 35, 3) := by decide +kernel
theorem dX1_movesNothing_7 : decode cX1_movesNothing 7 = .ok (.if_icmp .gt 31, 3) := by decide +kernel
theorem dX1_movesNothing_10 : decode cX1_movesNothing 10 = .ok (.aload_n 0, 1) := by decide +kernel
theorem dX1_movesNothing_11 : decode cX1_movesNothing 11 = .ok (.aload_n 1, 1) := by decide +kernel
theorem dX1_movesNothing_12 : decode cX1_movesNothing 12 = .ok (.iload_n 2, 1) := by decide +kernel
theorem dX1_movesNothing_13 : decode cX1_movesNothing 13 = .ok (.iconst 0, 1) := by decide +kernel
theorem dX1_movesNothing_14 : decode cX1_movesNothing 14 = .ok (.invokevirtual 64, 3) := by decide +kernel
theorem dX1_movesNothing_17 : decode cX1_movesNothing 17 = .ok (.ifCond .ne 13, 3) := by decide +kernel
theorem dX1_movesNothing_20 : decode cX1_movesNothing 20 = .ok (.aload_n 0, 1) := by decide +kernel
theorem dX1_movesNothing_21 : decode cX1_movesNothing 21 = .ok (.aload_n 1, 1) := by decide +kernel
theorem dX1_movesNothing_22 : decode cX1_movesNothing 22 = .ok (.iload_n 2, 1) := by decide +kernel
theorem dX1_movesNothing_23 : decode cX1_movesNothing 23 = .ok (.iconst 1, 1) := by decide +kernel
theorem dX1_movesNothing_24 : decode cX1_movesNothing 24 = .ok (.invokevirtual 64, 3) := by decide +kernel
theorem dX1_movesNothing_27 : decode cX1_movesNothing 27 = .ok (.ifCond .eq 5, 3) := by decide +kernel
theorem dX1_movesNothing_30 : decode cX1_movesNothing 30 = .ok (.iconst 0, 1) := by decide +kernel
theorem dX1_movesNothing_31 : decode cX1_movesNothing 31 = .ok (.ireturn, 1) := by decide +kernel
theorem dX1_movesNothing_32 : decode cX1_movesNothing 32 = .ok (.iinc 2 1, 3) := by decide +kernel
theorem dX1_movesNothing_35 : decode cX1_movesNothing 35 = .ok (.goto (-33), 3) := by decide +kernel
theorem dX1_movesNothing_38 : decode cX1_movesNothing 38 = .ok (.iconst 1, 1) := by decide +kernel
theorem dX1_movesNothing_39 : decode cX1_movesNothing 39 = .ok (.ireturn, 1) := by decide +kernel
theorem dX2_init_0 : decode cX2_init 0 = .ok (.aload_n 0, 1) := by decide +kernel
theorem dX2_init_1 : decode cX2_init 1 = .ok (.invokespecial 3, 3) := by decide +kernel
theorem dX2_init_4 : decode cX2_init 4 = .ok (.aload_n 0, 1) := by decide +kernel
theorem dX2_init_5 : decode cX2_init 5 = .ok (.bipush 6, 2) := by decide +kernel
theorem dX2_init_7 : decode cX2_init 7 = .ok (.newarray .int, 2) := by decide +kernel
theorem dX2_init_9 : decode cX2_init 9 = .ok (.putfield 9, 3) := by decide +kernel
theorem dX2_init_12 : decode cX2_init 12 = .ok (.aload_n 0, 1) := by decide +kernel
theorem dX2_init_13 : decode cX2_init 13 = .ok (.bipush 6, 2) := by decide +kernel
theorem dX2_init_15 : decode cX2_init 15 = .ok (.anewarray 15, 3) := by decide +kernel
theorem dX2_init_18 : decode cX2_init 18 = .ok (.putfield 17, 3) := by decide +kernel
theorem dX2_init_21 : decode cX2_init 21 = .ok (.iconst 0, 1) := by decide +kernel
theorem dX2_init_22 : decode cX2_init 22 = .ok (.istore_n 1, 1) := by decide +kernel
theorem dX2_init_23 : decode cX2_init 23 = .ok (.iload_n 1, 1) := by decide +kernel
theorem dX2_init_24 : decode cX2_init 24 = .ok (.bipush 6, 2) := by decide +kernel
theorem dX2_init_26 : decode cX2_init 26 = .ok (.if_icmp .ge 22, 3) := by decide +kernel
theorem dX2_init_29 : decode cX2_init 29 = .ok (.aload_n 0, 1) := by decide +kernel
theorem dX2_init_30 : decode cX2_init 30 = .ok (.getfield 17, 3) := by decide +kernel
theorem dX2_init_33 : decode cX2_init 33 = .ok (.iload_n 1, 1) := by decide +kernel
theorem dX2_init_34 : decode cX2_init 34 = .ok (.new 15, 3) := by decide +kernel
theorem dX2_init_37 : decode cX2_init 37 = .ok (.dup, 1) := by decide +kernel
theorem dX2_init_38 : decode cX2_init 38 = .ok (.invokespecial 21, 3) := by decide +kernel
theorem dX2_init_41 : decode cX2_init 41 = .ok (.aastore, 1) := by decide +kernel
theorem dX2_init_42 : decode cX2_init 42 = .ok (.iinc 1 1, 3) := by decide +kernel
theorem dX2_init_45 : decode cX2_init 45 = .ok (.goto (-22), 3) := by decide +kernel
theorem dX2_init_48 : decode cX2_init 48 = .ok (.return_, 1) := by decide +kernel
theorem dX2_remember_0 : decode cX2_remember 0 = .ok (.aload_n 0, 1) := by decide +kernel
theorem dX2_remember_1 : decode cX2_remember 1 = .ok (.getfield 22, 3) := by decide +kernel
theorem dX2_remember_4 : decode cX2_remember 4 = .ok (.bipush 6, 2) := by decide +kernel
theorem dX2_remember_6 : decode cX2_remember 6 = .ok (.if_icmp .lt 7, 3) := by decide +kernel
theorem dX2_remember_9 : decode cX2_remember 9 = .ok (.aload_n 0, 1) := by decide +kernel
theorem dX2_remember_10 : decode cX2_remember 10 = .ok (.invokevirtual 26, 3) := by decide +kernel
theorem dX2_remember_13 : decode cX2_remember 13 = .ok (.aload_n 0, 1) := by decide +kernel
theorem dX2_remember_14 : decode cX2_remember 14 = .ok (.getfield 9, 3) := by decide +kernel
theorem dX2_remember_17 : decode cX2_remember 17 = .ok (.aload_n 0, 1) := by decide +kernel
theorem dX2_remember_18 : decode cX2_remember 18 = .ok (.getfield 22, 3) := by decide +kernel
theorem dX2_remember_21 : decode cX2_remember 21 = .ok (.iload_n 1, 1) := by decide +kernel
theorem dX2_remember_22 : decode cX2_remember 22 = .ok (.iastore, 1) := by decide +kernel
theorem dX2_remember_23 : decode cX2_remember 23 = .ok (.aload_n 0, 1) := by decide +kernel
theorem dX2_remember_24 : decode cX2_remember 24 = .ok (.getfield 17, 3) := by decide +kernel
theorem dX2_remember_27 : decode cX2_remember 27 = .ok (.aload_n 0, 1) := by decide +kernel
theorem dX2_remember_28 : decode cX2_remember 28 = .ok (.getfield 22, 3) := by decide +kernel
theorem dX2_remember_31 : decode cX2_remember 31 = .ok (.aaload, 1) := by decide +kernel
theorem dX2_remember_32 : decode cX2_remember 32 = .ok (.aload_n 2, 1) := by decide +kernel
theorem dX2_remember_33 : decode cX2_remember 33 = .ok (.invokevirtual 29, 3) := by decide +kernel
theorem dX2_remember_36 : decode cX2_remember 36 = .ok (.aload_n 0, 1) := by decide +kernel
theorem dX2_remember_37 : decode cX2_remember 37 = .ok (.dup, 1) := by decide +kernel
theorem dX2_remember_38 : decode cX2_remember 38 = .ok (.getfield 22, 3) := by decide +kernel
theorem dX2_remember_41 : decode cX2_remember 41 = .ok (.iconst 1, 1) := by decide +kernel
theorem dX2_remember_42 : decode cX2_remember 42 = .ok (.iadd, 1) := by decide +kernel
theorem dX2_remember_43 : decode cX2_remember 43 = .ok (.putfield 22, 3) := by decide +kernel
theorem dX2_remember_46 : decode cX2_remember 46 = .ok (.return_, 1) := by decide +kernel
theorem dX2_forgetOldest_0 : decode cX2_forgetOldest 0 = .ok (.aload_n 0, 1) := by decide +kernel
theorem dX2_forgetOldest_1 : decode cX2_forgetOldest 1 = .ok (.getfield 17, 3) := by decide +kernel
theorem dX2_forgetOldest_4 : decode cX2_forgetOldest 4 = .ok (.iconst 0, 1) := by decide +kernel
theorem dX2_forgetOldest_5 : decode cX2_forgetOldest 5 = .ok (.aaload, 1) := by decide +kernel
theorem dX2_forgetOldest_6 : decode cX2_forgetOldest 6 = .ok (.astore_n 1, 1) := by decide +kernel
theorem dX2_forgetOldest_7 : decode cX2_forgetOldest 7 = .ok (.iconst 0, 1) := by decide +kernel
theorem dX2_forgetOldest_8 : decode cX2_forgetOldest 8 = .ok (.istore_n 2, 1) := by decide +kernel
theorem dX2_forgetOldest_9 : decode cX2_forgetOldest 9 = .ok (.iload_n 2, 1) := by decide +kernel
theorem dX2_forgetOldest_10 : decode cX2_forgetOldest 10 = .ok (.iconst 1, 1) := by decide +kernel
theorem dX2_forgetOldest_11 : decode cX2_forgetOldest 11 = .ok (.iadd, 1) := by decide +kernel
theorem dX2_forgetOldest_12 : decode cX2_forgetOldest 12 = .ok (.bipush 6, 2) := by decide +kernel
theorem dX2_forgetOldest_14 : decode cX2_forgetOldest 14 = .ok (.if_icmp .ge 37, 3) := by decide +kernel
theorem dX2_forgetOldest_17 : decode cX2_forgetOldest 17 = .ok (.aload_n 0, 1) := by decide +kernel
theorem dX2_forgetOldest_18 : decode cX2_forgetOldest 18 = .ok (.getfield 9, 3) := by decide +kernel
theorem dX2_forgetOldest_21 : decode cX2_forgetOldest 21 = .ok (.iload_n 2, 1) := by decide +kernel
theorem dX2_forgetOldest_22 : decode cX2_forgetOldest 22 = .ok (.aload_n 0, 1) := by decide +kernel
theorem dX2_forgetOldest_23 : decode cX2_forgetOldest 23 = .ok (.getfield 9, 3) := by decide +kernel
theorem dX2_forgetOldest_26 : decode cX2_forgetOldest 26 = .ok (.iload_n 2, 1) := by decide +kernel
theorem dX2_forgetOldest_27 : decode cX2_forgetOldest 27 = .ok (.iconst 1, 1) := by decide +kernel
theorem dX2_forgetOldest_28 : decode cX2_forgetOldest 28 = .ok (.iadd, 1) := by decide +kernel
theorem dX2_forgetOldest_29 : decode cX2_forgetOldest 29 = .ok (.iaload, 1) := by decide +kernel
theorem dX2_forgetOldest_30 : decode cX2_forgetOldest 30 = .ok (.iastore, 1) := by decide +kernel
theorem dX2_forgetOldest_31 : decode cX2_forgetOldest 31 = .ok (.aload_n 0, 1) := by decide +kernel
theorem dX2_forgetOldest_32 : decode cX2_forgetOldest 32 = .ok (.getfield 17, 3) := by decide +kernel
theorem dX2_forgetOldest_35 : decode cX2_forgetOldest 35 = .ok (.iload_n 2, 1) := by decide +kernel
theorem dX2_forgetOldest_36 : decode cX2_forgetOldest 36 = .ok (.aload_n 0, 1) := by decide +kernel
theorem dX2_forgetOldest_37 : decode cX2_forgetOldest 37 = .ok (.getfield 17, 3) := by decide +kernel
theorem dX2_forgetOldest_40 : decode cX2_forgetOldest 40 = .ok (.iload_n 2, 1) := by decide +kernel
theorem dX2_forgetOldest_41 : decode cX2_forgetOldest 41 = .ok (.iconst 1, 1) := by decide +kernel
theorem dX2_forgetOldest_42 : decode cX2_forgetOldest 42 = .ok (.iadd, 1) := by decide +kernel
theorem dX2_forgetOldest_43 : decode cX2_forgetOldest 43 = .ok (.aaload, 1) := by decide +kernel
theorem dX2_forgetOldest_44 : decode cX2_forgetOldest 44 = .ok (.aastore, 1) := by decide +kernel
theorem dX2_forgetOldest_45 : decode cX2_forgetOldest 45 = .ok (.iinc 2 1, 3) := by decide +kernel
theorem dX2_forgetOldest_48 : decode cX2_forgetOldest 48 = .ok (.goto (-39), 3) := by decide +kernel
theorem dX2_forgetOldest_51 : decode cX2_forgetOldest 51 = .ok (.aload_n 0, 1) := by decide +kernel
theorem dX2_forgetOldest_52 : decode cX2_forgetOldest 52 = .ok (.iconst 5, 1) := by decide +kernel
theorem dX2_forgetOldest_53 : decode cX2_forgetOldest 53 = .ok (.putfield 22, 3) := by decide +kernel
theorem dX2_forgetOldest_56 : decode cX2_forgetOldest 56 = .ok (.aload_n 0, 1) := by decide +kernel
theorem dX2_forgetOldest_57 : decode cX2_forgetOldest 57 = .ok (.getfield 17, 3) := by decide +kernel
theorem dX2_forgetOldest_60 : decode cX2_forgetOldest 60 = .ok (.aload_n 0, 1) := by decide +kernel
theorem dX2_forgetOldest_61 : decode cX2_forgetOldest 61 = .ok (.getfield 22, 3) := by decide +kernel
theorem dX2_forgetOldest_64 : decode cX2_forgetOldest 64 = .ok (.aload_n 1, 1) := by decide +kernel
theorem dX2_forgetOldest_65 : decode cX2_forgetOldest 65 = .ok (.aastore, 1) := by decide +kernel
theorem dX2_forgetOldest_66 : decode cX2_forgetOldest 66 = .ok (.return_, 1) := by decide +kernel
theorem dX3_init_0 : decode cX3_init 0 = .ok (.aload_n 0, 1) := by decide +kernel
theorem dX3_init_1 : decode cX3_init 1 = .ok (.invokespecial 3, 3) := by decide +kernel
theorem dX3_init_4 : decode cX3_init 4 = .ok (.aload_n 0, 1) := by decide +kernel
theorem dX3_init_5 : decode cX3_init 5 = .ok (.bipush 60, 2) := by decide +kernel
theorem dX3_init_7 : decode cX3_init 7 = .ok (.newarray .char, 2) := by decide +kernel
theorem dX3_init_9 : decode cX3_init 9 = .ok (.putfield 9, 3) := by decide +kernel
theorem dX3_init_12 : decode cX3_init 12 = .ok (.aload_n 0, 1) := by decide +kernel
theorem dX3_init_13 : decode cX3_init 13 = .ok (.iconst 4, 1) := by decide +kernel
theorem dX3_init_14 : decode cX3_init 14 = .ok (.newarray .int, 2) := by decide +kernel
theorem dX3_init_16 : decode cX3_init 16 = .ok (.putfield 15, 3) := by decide +kernel
theorem dX3_init_19 : decode cX3_init 19 = .ok (.return_, 1) := by decide +kernel
theorem dX3_append_0 : decode cX3_append 0 = .ok (.aload_n 0, 1) := by decide +kernel
theorem dX3_append_1 : decode cX3_append 1 = .ok (.getfield 19, 3) := by decide +kernel
theorem dX3_append_4 : decode cX3_append 4 = .ok (.bipush 60, 2) := by decide +kernel
theorem dX3_append_6 : decode cX3_append 6 = .ok (.if_icmp .lt 5, 3) := by decide +kernel
theorem dX3_append_9 : decode cX3_append 9 = .ok (.iconst 0, 1) := by decide +kernel
theorem dX3_append_10 : decode cX3_append 10 = .ok (.ireturn, 1) := by decide +kernel
theorem dX3_append_11 : decode cX3_append 11 = .ok (.aload_n 0, 1) := by decide +kernel
theorem dX3_append_12 : decode cX3_append 12 = .ok (.getfield 9, 3) := by decide +kernel
theorem dX3_append_15 : decode cX3_append 15 = .ok (.aload_n 0, 1) := by decide +kernel
theorem dX3_append_16 : decode cX3_append 16 = .ok (.getfield 19, 3) := by decide +kernel
theorem dX3_append_19 : decode cX3_append 19 = .ok (.iload_n 1, 1) := by decide +kernel
theorem dX3_append_20 : decode cX3_append 20 = .ok (.castore, 1) := by decide +kernel
theorem dX3_append_21 : decode cX3_append 21 = .ok (.aload_n 0, 1) := by decide +kernel
theorem dX3_append_22 : decode cX3_append 22 = .ok (.dup, 1) := by decide +kernel
theorem dX3_append_23 : decode cX3_append 23 = .ok (.getfield 19, 3) := by decide +kernel
theorem dX3_append_26 : decode cX3_append 26 = .ok (.iconst 1, 1) := by decide +kernel
theorem dX3_append_27 : decode cX3_append 27 = .ok (.iadd, 1) := by decide +kernel
theorem dX3_append_28 : decode cX3_append 28 = .ok (.putfield 19, 3) := by decide +kernel
theorem dX3_append_31 : decode cX3_append 31 = .ok (.iconst 1, 1) := by decide +kernel
theorem dX3_append_32 : decode cX3_append 32 = .ok (.ireturn, 1) := by decide +kernel
theorem dX3_readItems_0 : decode cX3_readItems 0 = .ok (.aload_n 0, 1) := by decide +kernel
theorem dX3_readItems_1 : decode cX3_readItems 1 = .ok (.iconst 0, 1) := by decide +kernel
theorem dX3_readItems_2 : decode cX3_readItems 2 = .ok (.putfield 23, 3) := by decide +kernel
theorem dX3_readItems_5 : decode cX3_readItems 5 = .ok (.iconst 0, 1) := by decide +kernel
theorem dX3_readItems_6 : decode cX3_readItems 6 = .ok (.istore_n 3, 1) := by decide +kernel
theorem dX3_readItems_7 : decode cX3_readItems 7 = .ok (.iconst 1, 1) := by decide +kernel
theorem dX3_readItems_8 : decode cX3_readItems 8 = .ok (.istore 4, 2) := by decide +kernel
theorem dX3_readItems_10 : decode cX3_readItems 10 = .ok (.iload 4, 2) := by decide +kernel
theorem dX3_readItems_12 : decode cX3_readItems 12 = .ok (.iconst 4, 1) := by decide +kernel
theorem dX3_readItems_13 : decode cX3_readItems 13 = .ok (.if_icmp .gt 107, 3) := by decide +kernel
theorem dX3_readItems_16 : decode cX3_readItems 16 = .ok (.aload_n 0, 1) := by decide +kernel
theorem dX3_readItems_17 : decode cX3_readItems 17 = .ok (.iload_n 3, 1) := by decide +kernel
theorem dX3_readItems_18 : decode cX3_readItems 18 = .ok (.iload_n 1, 1) := by decide +kernel
theorem dX3_readItems_19 : decode cX3_readItems 19 = .ok (.iload_n 2, 1) := by decide +kernel
theorem dX3_readItems_20 : decode cX3_readItems 20 = .ok (.invokevirtual 26, 3) := by decide +kernel
theorem dX3_readItems_23 : decode cX3_readItems 23 = .ok (.istore 5, 2) := by decide +kernel
theorem dX3_readItems_25 : decode cX3_readItems 25 = .ok (.iload 5, 2) := by decide +kernel
theorem dX3_readItems_27 : decode cX3_readItems 27 = .ok (.ifCond .ge 8, 3) := by decide +kernel
theorem dX3_readItems_30 : decode cX3_readItems 30 = .ok (.bipush (-100), 2) := by decide +kernel
theorem dX3_readItems_32 : decode cX3_readItems 32 = .ok (.iload_n 3, 1) := by decide +kernel
theorem dX3_readItems_33 : decode cX3_readItems 33 = .ok (.isub, 1) := by decide +kernel
theorem dX3_readItems_34 : decode cX3_readItems 34 = .ok (.ireturn, 1) := by decide +kernel
theorem dX3_readItems_35 : decode cX3_readItems 35 = .ok (.iinc 3 1, 3) := by decide +kernel
theorem dX3_readItems_38 : decode cX3_readItems 38 = .ok (.aload_n 0, 1) := by decide +kernel
theorem dX3_readItems_39 : decode cX3_readItems 39 = .ok (.iload_n 3, 1) := by decide +kernel
theorem dX3_readItems_40 : decode cX3_readItems 40 = .ok (.bipush 45, 2) := by decide +kernel
theorem dX3_readItems_42 : decode cX3_readItems 42 = .ok (.invokevirtual 30, 3) := by decide +kernel
theorem dX3_readItems_45 : decode cX3_readItems 45 = .ok (.istore 6, 2) := by decide +kernel
theorem dX3_readItems_47 : decode cX3_readItems 47 = .ok (.iload_n 3, 1) := by decide +kernel
theorem dX3_readItems_48 : decode cX3_readItems 48 = .ok (.iload 6, 2) := by decide +kernel
theorem dX3_readItems_50 : decode cX3_readItems 50 = .ok (.ifCond .eq 7, 3) := by decide +kernel
theorem dX3_readItems_53 : decode cX3_readItems 53 = .ok (.iconst 1, 1) := by decide +kernel
theorem dX3_readItems_54 : decode cX3_readItems 54 = .ok (.goto 4, 3) := by decide +kernel
theorem dX3_readItems_57 : decode cX3_readItems 57 = .ok (.iconst 0, 1) := by decide +kernel
theorem dX3_readItems_58 : decode cX3_readItems 58 = .ok (.iadd, 1) := by decide +kernel
theorem dX3_readItems_59 : decode cX3_readItems 59 = .ok (.istore_n 3, 1) := by decide +kernel
theorem dX3_readItems_60 : decode cX3_readItems 60 = .ok (.aload_n 0, 1) := by decide +kernel
theorem dX3_readItems_61 : decode cX3_readItems 61 = .ok (.iload_n 3, 1) := by decide +kernel
theorem dX3_readItems_62 : decode cX3_readItems 62 = .ok (.iload 5, 2) := by decide +kernel
theorem dX3_readItems_64 : decode cX3_readItems 64 = .ok (.iload 6, 2) := by decide +kernel
theorem dX3_readItems_66 : decode cX3_readItems 66 = .ok (.invokevirtual 34, 3) := by decide +kernel
theorem dX3_readItems_69 : decode cX3_readItems 69 = .ok (.istore 7, 2) := by decide +kernel
theorem dX3_readItems_71 : decode cX3_readItems 71 = .ok (.iload 7, 2) := by decide +kernel
theorem dX3_readItems_73 : decode cX3_readItems 73 = .ok (.iload_n 3, 1) := by decide +kernel
theorem dX3_readItems_74 : decode cX3_readItems 74 = .ok (.if_icmp .ne 8, 3) := by decide +kernel
theorem dX3_readItems_77 : decode cX3_readItems 77 = .ok (.bipush (-100), 2) := by decide +kernel
theorem dX3_readItems_79 : decode cX3_readItems 79 = .ok (.iload_n 3, 1) := by decide +kernel
theorem dX3_readItems_80 : decode cX3_readItems 80 = .ok (.isub, 1) := by decide +kernel
theorem dX3_readItems_81 : decode cX3_readItems 81 = .ok (.ireturn, 1) := by decide +kernel
theorem dX3_readItems_82 : decode cX3_readItems 82 = .ok (.iload 7, 2) := by decide +kernel
theorem dX3_readItems_84 : decode cX3_readItems 84 = .ok (.istore_n 3, 1) := by decide +kernel
theorem dX3_readItems_85 : decode cX3_readItems 85 = .ok (.iload_n 3, 1) := by decide +kernel
theorem dX3_readItems_86 : decode cX3_readItems 86 = .ok (.aload_n 0, 1) := by decide +kernel
theorem dX3_readItems_87 : decode cX3_readItems 87 = .ok (.getfield 19, 3) := by decide +kernel
theorem dX3_readItems_90 : decode cX3_readItems 90 = .ok (.if_icmp .lt 6, 3) := by decide +kernel
theorem dX3_readItems_93 : decode cX3_readItems 93 = .ok (.iload 4, 2) := by decide +kernel
theorem dX3_readItems_95 : decode cX3_readItems 95 = .ok (.ireturn, 1) := by decide +kernel
theorem dX3_readItems_96 : decode cX3_readItems 96 = .ok (.aload_n 0, 1) := by decide +kernel
theorem dX3_readItems_97 : decode cX3_readItems 97 = .ok (.iload_n 3, 1) := by decide +kernel
theorem dX3_readItems_98 : decode cX3_readItems 98 = .ok (.bipush 59, 2) := by decide +kernel
theorem dX3_readItems_100 : decode cX3_readItems 100 = .ok (.invokevirtual 30, 3) := by decide +kernel
theorem dX3_readItems_103 : decode cX3_readItems 103 = .ok (.ifCond .ne 8, 3) := by decide +kernel
theorem dX3_readItems_106 : decode cX3_readItems 106 = .ok (.bipush (-100), 2) := by decide +kernel
theorem dX3_readItems_108 : decode cX3_readItems 108 = .ok (.iload_n 3, 1) := by decide +kernel
theorem dX3_readItems_109 : decode cX3_readItems 109 = .ok (.isub, 1) := by decide +kernel
theorem dX3_readItems_110 : decode cX3_readItems 110 = .ok (.ireturn, 1) := by decide +kernel
theorem dX3_readItems_111 : decode cX3_readItems 111 = .ok (.iinc 3 1, 3) := by decide +kernel
theorem dX3_readItems_114 : decode cX3_readItems 114 = .ok (.iinc 4 1, 3) := by decide +kernel
theorem dX3_readItems_117 : decode cX3_readItems 117 = .ok (.goto (-107), 3) := by decide +kernel
theorem dX3_readItems_120 : decode cX3_readItems 120 = .ok (.bipush (-100), 2) := by decide +kernel
theorem dX3_readItems_122 : decode cX3_readItems 122 = .ok (.iload_n 3, 1) := by decide +kernel
theorem dX3_readItems_123 : decode cX3_readItems 123 = .ok (.isub, 1) := by decide +kernel
theorem dX3_readItems_124 : decode cX3_readItems 124 = .ok (.ireturn, 1) := by decide +kernel
theorem dX3_axisAt_0 : decode cX3_axisAt 0 = .ok (.iload_n 1, 1) := by decide +kernel
theorem dX3_axisAt_1 : decode cX3_axisAt 1 = .ok (.aload_n 0, 1) := by decide +kernel
theorem dX3_axisAt_2 : decode cX3_axisAt 2 = .ok (.getfield 19, 3) := by decide +kernel
theorem dX3_axisAt_5 : decode cX3_axisAt 5 = .ok (.if_icmp .lt 5, 3) := by decide +kernel
theorem dX3_axisAt_8 : decode cX3_axisAt 8 = .ok (.iconst (-1), 1) := by decide +kernel
theorem dX3_axisAt_9 : decode cX3_axisAt 9 = .ok (.ireturn, 1) := by decide +kernel
theorem dX3_axisAt_10 : decode cX3_axisAt 10 = .ok (.aload_n 0, 1) := by decide +kernel
theorem dX3_axisAt_11 : decode cX3_axisAt 11 = .ok (.getfield 9, 3) := by decide +kernel
theorem dX3_axisAt_14 : decode cX3_axisAt 14 = .ok (.iload_n 1, 1) := by decide +kernel
theorem dX3_axisAt_15 : decode cX3_axisAt 15 = .ok (.caload, 1) := by decide +kernel
theorem dX3_axisAt_16 : decode cX3_axisAt 16 = .ok (.bipush 97, 2) := by decide +kernel
theorem dX3_axisAt_18 : decode cX3_axisAt 18 = .ok (.isub, 1) := by decide +kernel
theorem dX3_axisAt_19 : decode cX3_axisAt 19 = .ok (.istore 4, 2) := by decide +kernel
theorem dX3_axisAt_21 : decode cX3_axisAt 21 = .ok (.iload 4, 2) := by decide +kernel
theorem dX3_axisAt_23 : decode cX3_axisAt 23 = .ok (.ifCond .lt 23, 3) := by decide +kernel
theorem dX3_axisAt_26 : decode cX3_axisAt 26 = .ok (.iload 4, 2) := by decide +kernel
theorem dX3_axisAt_28 : decode cX3_axisAt 28 = .ok (.iload_n 2, 1) := by decide +kernel
theorem dX3_axisAt_29 : decode cX3_axisAt 29 = .ok (.if_icmp .ge 17, 3) := by decide +kernel
theorem dX3_axisAt_32 : decode cX3_axisAt 32 = .ok (.iload_n 3, 1) := by decide +kernel
theorem dX3_axisAt_33 : decode cX3_axisAt 33 = .ok (.aload_n 0, 1) := by decide +kernel
theorem dX3_axisAt_34 : decode cX3_axisAt 34 = .ok (.getfield 23, 3) := by decide +kernel
theorem dX3_axisAt_37 : decode cX3_axisAt 37 = .ok (.ior, 1) := by decide +kernel
theorem dX3_axisAt_38 : decode cX3_axisAt 38 = .ok (.iload 4, 2) := by decide +kernel
theorem dX3_axisAt_40 : decode cX3_axisAt 40 = .ok (.invokestatic 38, 3) := by decide +kernel
theorem dX3_axisAt_43 : decode cX3_axisAt 43 = .ok (.ifCond .eq 5, 3) := by decide +kernel
theorem dX3_axisAt_46 : decode cX3_axisAt 46 = .ok (.iconst (-1), 1) := by decide +kernel
theorem dX3_axisAt_47 : decode cX3_axisAt 47 = .ok (.ireturn, 1) := by decide +kernel
theorem dX3_axisAt_48 : decode cX3_axisAt 48 = .ok (.aload_n 0, 1) := by decide +kernel
theorem dX3_axisAt_49 : decode cX3_axisAt 49 = .ok (.dup, 1) := by decide +kernel
theorem dX3_axisAt_50 : decode cX3_axisAt 50 = .ok (.getfield 23, 3) := by decide +kernel
theorem dX3_axisAt_53 : decode cX3_axisAt 53 = .ok (.iconst 1, 1) := by decide +kernel
theorem dX3_axisAt_54 : decode cX3_axisAt 54 = .ok (.iload 4, 2) := by decide +kernel
theorem dX3_axisAt_56 : decode cX3_axisAt 56 = .ok (.ishl, 1) := by decide +kernel
theorem dX3_axisAt_57 : decode cX3_axisAt 57 = .ok (.ior, 1) := by decide +kernel
theorem dX3_axisAt_58 : decode cX3_axisAt 58 = .ok (.putfield 23, 3) := by decide +kernel
theorem dX3_axisAt_61 : decode cX3_axisAt 61 = .ok (.iload 4, 2) := by decide +kernel
theorem dX3_axisAt_63 : decode cX3_axisAt 63 = .ok (.ireturn, 1) := by decide +kernel
theorem dX3_isAt_0 : decode cX3_isAt 0 = .ok (.iload_n 1, 1) := by decide +kernel
theorem dX3_isAt_1 : decode cX3_isAt 1 = .ok (.aload_n 0, 1) := by decide +kernel
theorem dX3_isAt_2 : decode cX3_isAt 2 = .ok (.getfield 19, 3) := by decide +kernel
theorem dX3_isAt_5 : decode cX3_isAt 5 = .ok (.if_icmp .ge 17, 3) := by decide +kernel
theorem dX3_isAt_8 : decode cX3_isAt 8 = .ok (.aload_n 0, 1) := by decide +kernel
theorem dX3_isAt_9 : decode cX3_isAt 9 = .ok (.getfield 9, 3) := by decide +kernel
theorem dX3_isAt_12 : decode cX3_isAt 12 = .ok (.iload_n 1, 1) := by decide +kernel
theorem dX3_isAt_13 : decode cX3_isAt 13 = .ok (.caload, 1) := by decide +kernel
theorem dX3_isAt_14 : decode cX3_isAt 14 = .ok (.iload_n 2, 1) := by decide +kernel
theorem dX3_isAt_15 : decode cX3_isAt 15 = .ok (.if_icmp .ne 7, 3) := by decide +kernel
theorem dX3_isAt_18 : decode cX3_isAt 18 = .ok (.iconst 1, 1) := by decide +kernel
theorem dX3_isAt_19 : decode cX3_isAt 19 = .ok (.goto 4, 3) := by decide +kernel
theorem dX3_isAt_22 : decode cX3_isAt 22 = .ok (.iconst 0, 1) := by decide +kernel
theorem dX3_isAt_23 : decode cX3_isAt 23 = .ok (.ireturn, 1) := by decide +kernel
theorem dX3_readNumber_0 : decode cX3_readNumber 0 = .ok (.iconst 0, 1) := by decide +kernel
theorem dX3_readNumber_1 : decode cX3_readNumber 1 = .ok (.istore 4, 2) := by decide +kernel
theorem dX3_readNumber_3 : decode cX3_readNumber 3 = .ok (.iload_n 1, 1) := by decide +kernel
theorem dX3_readNumber_4 : decode cX3_readNumber 4 = .ok (.istore 5, 2) := by decide +kernel
theorem dX3_readNumber_6 : decode cX3_readNumber 6 = .ok (.iload 5, 2) := by decide +kernel
theorem dX3_readNumber_8 : decode cX3_readNumber 8 = .ok (.aload_n 0, 1) := by decide +kernel
theorem dX3_readNumber_9 : decode cX3_readNumber 9 = .ok (.getfield 19, 3) := by decide +kernel
theorem dX3_readNumber_12 : decode cX3_readNumber 12 = .ok (.if_icmp .ge 60, 3) := by decide +kernel
theorem dX3_readNumber_15 : decode cX3_readNumber 15 = .ok (.iload 5, 2) := by decide +kernel
theorem dX3_readNumber_17 : decode cX3_readNumber 17 = .ok (.iload_n 1, 1) := by decide +kernel
theorem dX3_readNumber_18 : decode cX3_readNumber 18 = .ok (.bipush 6, 2) := by decide +kernel
theorem dX3_readNumber_20 : decode cX3_readNumber 20 = .ok (.iadd, 1) := by decide +kernel
theorem dX3_readNumber_21 : decode cX3_readNumber 21 = .ok (.if_icmp .ge 51, 3) := by decide +kernel
theorem dX3_readNumber_24 : decode cX3_readNumber 24 = .ok (.aload_n 0, 1) := by decide +kernel
theorem dX3_readNumber_25 : decode cX3_readNumber 25 = .ok (.getfield 9, 3) := by decide +kernel
theorem dX3_readNumber_28 : decode cX3_readNumber 28 = .ok (.iload 5, 2) := by decide +kernel
theorem dX3_readNumber_30 : decode cX3_readNumber 30 = .ok (.caload, 1) := by decide +kernel
theorem dX3_readNumber_31 : decode cX3_readNumber 31 = .ok (.bipush 48, 2) := by decide +kernel
theorem dX3_readNumber_33 : decode cX3_readNumber 33 = .ok (.if_icmp .lt 39, 3) := by decide +kernel
theorem dX3_readNumber_36 : decode cX3_readNumber 36 = .ok (.aload_n 0, 1) := by decide +kernel
theorem dX3_readNumber_37 : decode cX3_readNumber 37 = .ok (.getfield 9, 3) := by decide +kernel
theorem dX3_readNumber_40 : decode cX3_readNumber 40 = .ok (.iload 5, 2) := by decide +kernel
theorem dX3_readNumber_42 : decode cX3_readNumber 42 = .ok (.caload, 1) := by decide +kernel
theorem dX3_readNumber_43 : decode cX3_readNumber 43 = .ok (.bipush 57, 2) := by decide +kernel
theorem dX3_readNumber_45 : decode cX3_readNumber 45 = .ok (.if_icmp .gt 27, 3) := by decide +kernel
theorem dX3_readNumber_48 : decode cX3_readNumber 48 = .ok (.iload 4, 2) := by decide +kernel
theorem dX3_readNumber_50 : decode cX3_readNumber 50 = .ok (.bipush 10, 2) := by decide +kernel
theorem dX3_readNumber_52 : decode cX3_readNumber 52 = .ok (.imul, 1) := by decide +kernel
theorem dX3_readNumber_53 : decode cX3_readNumber 53 = .ok (.aload_n 0, 1) := by decide +kernel
theorem dX3_readNumber_54 : decode cX3_readNumber 54 = .ok (.getfield 9, 3) := by decide +kernel
theorem dX3_readNumber_57 : decode cX3_readNumber 57 = .ok (.iload 5, 2) := by decide +kernel
theorem dX3_readNumber_59 : decode cX3_readNumber 59 = .ok (.caload, 1) := by decide +kernel
theorem dX3_readNumber_60 : decode cX3_readNumber 60 = .ok (.bipush 48, 2) := by decide +kernel
theorem dX3_readNumber_62 : decode cX3_readNumber 62 = .ok (.isub, 1) := by decide +kernel
theorem dX3_readNumber_63 : decode cX3_readNumber 63 = .ok (.iadd, 1) := by decide +kernel
theorem dX3_readNumber_64 : decode cX3_readNumber 64 = .ok (.istore 4, 2) := by decide +kernel
theorem dX3_readNumber_66 : decode cX3_readNumber 66 = .ok (.iinc 5 1, 3) := by decide +kernel
theorem dX3_readNumber_69 : decode cX3_readNumber 69 = .ok (.goto (-63), 3) := by decide +kernel
theorem dX3_readNumber_72 : decode cX3_readNumber 72 = .ok (.aload_n 0, 1) := by decide +kernel
theorem dX3_readNumber_73 : decode cX3_readNumber 73 = .ok (.getfield 15, 3) := by decide +kernel
theorem dX3_readNumber_76 : decode cX3_readNumber 76 = .ok (.iload_n 2, 1) := by decide +kernel
theorem dX3_readNumber_77 : decode cX3_readNumber 77 = .ok (.iload_n 3, 1) := by decide +kernel
theorem dX3_readNumber_78 : decode cX3_readNumber 78 = .ok (.ifCond .eq 9, 3) := by decide +kernel
theorem dX3_readNumber_81 : decode cX3_readNumber 81 = .ok (.iload 4, 2) := by decide +kernel
theorem dX3_readNumber_83 : decode cX3_readNumber 83 = .ok (.ineg, 1) := by decide +kernel
theorem dX3_readNumber_84 : decode cX3_readNumber 84 = .ok (.goto 5, 3) := by decide +kernel
theorem dX3_readNumber_87 : decode cX3_readNumber 87 = .ok (.iload 4, 2) := by decide +kernel
theorem dX3_readNumber_89 : decode cX3_readNumber 89 = .ok (.iastore, 1) := by decide +kernel
theorem dX3_readNumber_90 : decode cX3_readNumber 90 = .ok (.iload 5, 2) := by decide +kernel
theorem dX3_readNumber_92 : decode cX3_readNumber 92 = .ok (.ireturn, 1) := by decide +kernel
theorem dX4_init_0 : decode cX4_init 0 = .ok (.aload_n 0, 1) := by decide +kernel
theorem dX4_init_1 : decode cX4_init 1 = .ok (.invokespecial 3, 3) := by decide +kernel
theorem dX4_init_4 : decode cX4_init 4 = .ok (.aload_n 0, 1) := by decide +kernel
theorem dX4_init_5 : decode cX4_init 5 = .ok (.bipush 96, 2) := by decide +kernel
theorem dX4_init_7 : decode cX4_init 7 = .ok (.newarray .long, 2) := by decide +kernel
theorem dX4_init_9 : decode cX4_init 9 = .ok (.putfield 9, 3) := by decide +kernel
theorem dX4_init_12 : decode cX4_init 12 = .ok (.aload_n 0, 1) := by decide +kernel
theorem dX4_init_13 : decode cX4_init 13 = .ok (.bipush 96, 2) := by decide +kernel
theorem dX4_init_15 : decode cX4_init 15 = .ok (.newarray .long, 2) := by decide +kernel
theorem dX4_init_17 : decode cX4_init 17 = .ok (.putfield 15, 3) := by decide +kernel
theorem dX4_init_20 : decode cX4_init 20 = .ok (.aload_n 0, 1) := by decide +kernel
theorem dX4_init_21 : decode cX4_init 21 = .ok (.bipush 96, 2) := by decide +kernel
theorem dX4_init_23 : decode cX4_init 23 = .ok (.newarray .int, 2) := by decide +kernel
theorem dX4_init_25 : decode cX4_init 25 = .ok (.putfield 18, 3) := by decide +kernel
theorem dX4_init_28 : decode cX4_init 28 = .ok (.return_, 1) := by decide +kernel
theorem dX4_clear_0 : decode cX4_clear 0 = .ok (.aload_n 0, 1) := by decide +kernel
theorem dX4_clear_1 : decode cX4_clear 1 = .ok (.iconst 0, 1) := by decide +kernel
theorem dX4_clear_2 : decode cX4_clear 2 = .ok (.putfield 22, 3) := by decide +kernel
theorem dX4_clear_5 : decode cX4_clear 5 = .ok (.aload_n 0, 1) := by decide +kernel
theorem dX4_clear_6 : decode cX4_clear 6 = .ok (.iconst 0, 1) := by decide +kernel
theorem dX4_clear_7 : decode cX4_clear 7 = .ok (.putfield 26, 3) := by decide +kernel
theorem dX4_clear_10 : decode cX4_clear 10 = .ok (.return_, 1) := by decide +kernel
theorem dX4_append_0 : decode cX4_append 0 = .ok (.aload_n 0, 1) := by decide +kernel
theorem dX4_append_1 : decode cX4_append 1 = .ok (.getfield 22, 3) := by decide +kernel
theorem dX4_append_4 : decode cX4_append 4 = .ok (.bipush 96, 2) := by decide +kernel
theorem dX4_append_6 : decode cX4_append 6 = .ok (.if_icmp .lt 4, 3) := by decide +kernel
theorem dX4_append_9 : decode cX4_append 9 = .ok (.return_, 1) := by decide +kernel
theorem dX4_append_10 : decode cX4_append 10 = .ok (.aload_n 0, 1) := by decide +kernel
theorem dX4_append_11 : decode cX4_append 11 = .ok (.getfield 9, 3) := by decide +kernel
theorem dX4_append_14 : decode cX4_append 14 = .ok (.aload_n 0, 1) := by decide +kernel
theorem dX4_append_15 : decode cX4_append 15 = .ok (.getfield 22, 3) := by decide +kernel
theorem dX4_append_18 : decode cX4_append 18 = .ok (.lload_n 1, 1) := by decide +kernel
theorem dX4_append_19 : decode cX4_append 19 = .ok (.lastore, 1) := by decide +kernel
theorem dX4_append_20 : decode cX4_append 20 = .ok (.aload_n 0, 1) := by decide +kernel
theorem dX4_append_21 : decode cX4_append 21 = .ok (.getfield 15, 3) := by decide +kernel
theorem dX4_append_24 : decode cX4_append 24 = .ok (.aload_n 0, 1) := by decide +kernel
theorem dX4_append_25 : decode cX4_append 25 = .ok (.getfield 22, 3) := by decide +kernel
theorem dX4_append_28 : decode cX4_append 28 = .ok (.lload_n 3, 1) := by decide +kernel
theorem dX4_append_29 : decode cX4_append 29 = .ok (.lastore, 1) := by decide +kernel
theorem dX4_append_30 : decode cX4_append 30 = .ok (.aload_n 0, 1) := by decide +kernel
theorem dX4_append_31 : decode cX4_append 31 = .ok (.getfield 18, 3) := by decide +kernel
theorem dX4_append_34 : decode cX4_append 34 = .ok (.aload_n 0, 1) := by decide +kernel
theorem dX4_append_35 : decode cX4_append 35 = .ok (.getfield 22, 3) := by decide +kernel
theorem dX4_append_38 : decode cX4_append 38 = .ok (.iload 5, 2) := by decide +kernel
theorem dX4_append_40 : decode cX4_append 40 = .ok (.iastore, 1) := by decide +kernel
theorem dX4_append_41 : decode cX4_append 41 = .ok (.aload_n 0, 1) := by decide +kernel
theorem dX4_append_42 : decode cX4_append 42 = .ok (.dup, 1) := by decide +kernel
theorem dX4_append_43 : decode cX4_append 43 = .ok (.getfield 22, 3) := by decide +kernel
theorem dX4_append_46 : decode cX4_append 46 = .ok (.iconst 1, 1) := by decide +kernel
theorem dX4_append_47 : decode cX4_append 47 = .ok (.iadd, 1) := by decide +kernel
theorem dX4_append_48 : decode cX4_append 48 = .ok (.putfield 22, 3) := by decide +kernel
theorem dX4_append_51 : decode cX4_append 51 = .ok (.aload_n 0, 1) := by decide +kernel
theorem dX4_append_52 : decode cX4_append 52 = .ok (.iload 5, 2) := by decide +kernel
theorem dX4_append_54 : decode cX4_append 54 = .ok (.iconst 1, 1) := by decide +kernel
theorem dX4_append_55 : decode cX4_append 55 = .ok (.iadd, 1) := by decide +kernel
theorem dX4_append_56 : decode cX4_append 56 = .ok (.putfield 26, 3) := by decide +kernel
theorem dX4_append_59 : decode cX4_append 59 = .ok (.return_, 1) := by decide +kernel
theorem dX4_leastOf_0 : decode cX4_leastOf 0 = .ok (.ldc2_w 31, 3) := by decide +kernel
theorem dX4_leastOf_3 : decode cX4_leastOf 3 = .ok (.lstore_n 2, 1) := by decide +kernel
theorem dX4_leastOf_4 : decode cX4_leastOf 4 = .ok (.iconst 0, 1) := by decide +kernel
theorem dX4_leastOf_5 : decode cX4_leastOf 5 = .ok (.istore 4, 2) := by decide +kernel
theorem dX4_leastOf_7 : decode cX4_leastOf 7 = .ok (.iload 4, 2) := by decide +kernel
theorem dX4_leastOf_9 : decode cX4_leastOf 9 = .ok (.aload_n 0, 1) := by decide +kernel
theorem dX4_leastOf_10 : decode cX4_leastOf 10 = .ok (.getfield 22, 3) := by decide +kernel
theorem dX4_leastOf_13 : decode cX4_leastOf 13 = .ok (.if_icmp .ge 35, 3) := by decide +kernel
theorem dX4_leastOf_16 : decode cX4_leastOf 16 = .ok (.lload_n 2, 1) := by decide +kernel
theorem dX4_leastOf_17 : decode cX4_leastOf 17 = .ok (.iload_n 1, 1) := by decide +kernel
theorem dX4_leastOf_18 : decode cX4_leastOf 18 = .ok (.ifCond .eq 13, 3) := by decide +kernel
theorem dX4_leastOf_21 : decode cX4_leastOf 21 = .ok (.aload_n 0, 1) := by decide +kernel
theorem dX4_leastOf_22 : decode cX4_leastOf 22 = .ok (.getfield 15, 3) := by decide +kernel
theorem dX4_leastOf_25 : decode cX4_leastOf 25 = .ok (.iload 4, 2) := by decide +kernel
theorem dX4_leastOf_27 : decode cX4_leastOf 27 = .ok (.laload, 1) := by decide +kernel
theorem dX4_leastOf_28 : decode cX4_leastOf 28 = .ok (.goto 10, 3) := by decide +kernel
theorem dX4_leastOf_31 : decode cX4_leastOf 31 = .ok (.aload_n 0, 1) := by decide +kernel
theorem dX4_leastOf_32 : decode cX4_leastOf 32 = .ok (.getfield 9, 3) := by decide +kernel
theorem dX4_leastOf_35 : decode cX4_leastOf 35 = .ok (.iload 4, 2) := by decide +kernel
theorem dX4_leastOf_37 : decode cX4_leastOf 37 = .ok (.laload, 1) := by decide +kernel
theorem dX4_leastOf_38 : decode cX4_leastOf 38 = .ok (.invokestatic 33, 3) := by decide +kernel
theorem dX4_leastOf_41 : decode cX4_leastOf 41 = .ok (.lstore_n 2, 1) := by decide +kernel
theorem dX4_leastOf_42 : decode cX4_leastOf 42 = .ok (.iinc 4 1, 3) := by decide +kernel
theorem dX4_leastOf_45 : decode cX4_leastOf 45 = .ok (.goto (-38), 3) := by decide +kernel
theorem dX4_leastOf_48 : decode cX4_leastOf 48 = .ok (.lload_n 2, 1) := by decide +kernel
theorem dX4_leastOf_49 : decode cX4_leastOf 49 = .ok (.lreturn, 1) := by decide +kernel
theorem dX4_greatestOf_0 : decode cX4_greatestOf 0 = .ok (.ldc2_w 39, 3) := by decide +kernel
theorem dX4_greatestOf_3 : decode cX4_greatestOf 3 = .ok (.lstore_n 2, 1) := by decide +kernel
theorem dX4_greatestOf_4 : decode cX4_greatestOf 4 = .ok (.iconst 0, 1) := by decide +kernel
theorem dX4_greatestOf_5 : decode cX4_greatestOf 5 = .ok (.istore 4, 2) := by decide +kernel
theorem dX4_greatestOf_7 : decode cX4_greatestOf 7 = .ok (.iload 4, 2) := by decide +kernel
theorem dX4_greatestOf_9 : decode cX4_greatestOf 9 = .ok (.aload_n 0, 1) := by decide +kernel
theorem dX4_greatestOf_10 : decode cX4_greatestOf 10 = .ok (.getfield 22, 3) := by decide +kernel
theorem dX4_greatestOf_13 : decode cX4_greatestOf 13 = .ok (.if_icmp .ge 35, 3) := by decide +kernel
theorem dX4_greatestOf_16 : decode cX4_greatestOf 16 = .ok (.lload_n 2, 1) := by decide +kernel
theorem dX4_greatestOf_17 : decode cX4_greatestOf 17 = .ok (.iload_n 1, 1) := by decide +kernel
theorem dX4_greatestOf_18 : decode cX4_greatestOf 18 = .ok (.ifCond .eq 13, 3) := by decide +kernel
theorem dX4_greatestOf_21 : decode cX4_greatestOf 21 = .ok (.aload_n 0, 1) := by decide +kernel
theorem dX4_greatestOf_22 : decode cX4_greatestOf 22 = .ok (.getfield 15, 3) := by decide +kernel
theorem dX4_greatestOf_25 : decode cX4_greatestOf 25 = .ok (.iload 4, 2) := by decide +kernel
theorem dX4_greatestOf_27 : decode cX4_greatestOf 27 = .ok (.laload, 1) := by decide +kernel
theorem dX4_greatestOf_28 : decode cX4_greatestOf 28 = .ok (.goto 10, 3) := by decide +kernel
theorem dX4_greatestOf_31 : decode cX4_greatestOf 31 = .ok (.aload_n 0, 1) := by decide +kernel
theorem dX4_greatestOf_32 : decode cX4_greatestOf 32 = .ok (.getfield 9, 3) := by decide +kernel
theorem dX4_greatestOf_35 : decode cX4_greatestOf 35 = .ok (.iload 4, 2) := by decide +kernel
theorem dX4_greatestOf_37 : decode cX4_greatestOf 37 = .ok (.laload, 1) := by decide +kernel
theorem dX4_greatestOf_38 : decode cX4_greatestOf 38 = .ok (.invokestatic 41, 3) := by decide +kernel
theorem dX4_greatestOf_41 : decode cX4_greatestOf 41 = .ok (.lstore_n 2, 1) := by decide +kernel
theorem dX4_greatestOf_42 : decode cX4_greatestOf 42 = .ok (.iinc 4 1, 3) := by decide +kernel
theorem dX4_greatestOf_45 : decode cX4_greatestOf 45 = .ok (.goto (-38), 3) := by decide +kernel
theorem dX4_greatestOf_48 : decode cX4_greatestOf 48 = .ok (.lload_n 2, 1) := by decide +kernel
theorem dX4_greatestOf_49 : decode cX4_greatestOf 49 = .ok (.lreturn, 1) := by decide +kernel
theorem dX4_contourArea_0 : decode cX4_contourArea 0 = .ok (.lconst 0, 1) := by decide +kernel
theorem dX4_contourArea_1 : decode cX4_contourArea 1 = .ok (.lstore_n 2, 1) := by decide +kernel
theorem dX4_contourArea_2 : decode cX4_contourArea 2 = .ok (.iconst 0, 1) := by decide +kernel
theorem dX4_contourArea_3 : decode cX4_contourArea 3 = .ok (.istore 4, 2) := by decide +kernel
theorem dX4_contourArea_5 : decode cX4_contourArea 5 = .ok (.iconst 0, 1) := by decide +kernel
theorem dX4_contourArea_6 : decode cX4_contourArea 6 = .ok (.istore 5, 2) := by decide +kernel
theorem dX4_contourArea_8 : decode cX4_contourArea 8 = .ok (.iload 5, 2) := by decide +kernel
theorem dX4_contourArea_10 : decode cX4_contourArea 10 = .ok (.aload_n 0, 1) := by decide +kernel
theorem dX4_contourArea_11 : decode cX4_contourArea 11 = .ok (.getfield 22, 3) := by decide +kernel
theorem dX4_contourArea_14 : decode cX4_contourArea 14 = .ok (.if_icmp .ge 117, 3) := by decide +kernel
theorem dX4_contourArea_17 : decode cX4_contourArea 17 = .ok (.iload 5, 2) := by decide +kernel
theorem dX4_contourArea_19 : decode cX4_contourArea 19 = .ok (.ifCond .le 26, 3) := by decide +kernel
theorem dX4_contourArea_22 : decode cX4_contourArea 22 = .ok (.aload_n 0, 1) := by decide +kernel
theorem dX4_contourArea_23 : decode cX4_contourArea 23 = .ok (.getfield 18, 3) := by decide +kernel
theorem dX4_contourArea_26 : decode cX4_contourArea 26 = .ok (.iload 5, 2) := by decide +kernel
theorem dX4_contourArea_28 : decode cX4_contourArea 28 = .ok (.iaload, 1) := by decide +kernel
theorem dX4_contourArea_29 : decode cX4_contourArea 29 = .ok (.aload_n 0, 1) := by decide +kernel
theorem dX4_contourArea_30 : decode cX4_contourArea 30 = .ok (.getfield 18, 3) := by decide +kernel
theorem dX4_contourArea_33 : decode cX4_contourArea 33 = .ok (.iload 5, 2) := by decide +kernel
theorem dX4_contourArea_35 : decode cX4_contourArea 35 = .ok (.iconst 1, 1) := by decide +kernel
theorem dX4_contourArea_36 : decode cX4_contourArea 36 = .ok (.isub, 1) := by decide +kernel
theorem dX4_contourArea_37 : decode cX4_contourArea 37 = .ok (.iaload, 1) := by decide +kernel
theorem dX4_contourArea_38 : decode cX4_contourArea 38 = .ok (.if_icmp .eq 7, 3) := by decide +kernel
theorem dX4_contourArea_41 : decode cX4_contourArea 41 = .ok (.iload 5, 2) := by decide +kernel
theorem dX4_contourArea_43 : decode cX4_contourArea 43 = .ok (.istore 4, 2) := by decide +kernel
theorem dX4_contourArea_45 : decode cX4_contourArea 45 = .ok (.aload_n 0, 1) := by decide +kernel
theorem dX4_contourArea_46 : decode cX4_contourArea 46 = .ok (.getfield 18, 3) := by decide +kernel
theorem dX4_contourArea_49 : decode cX4_contourArea 49 = .ok (.iload 5, 2) := by decide +kernel
theorem dX4_contourArea_51 : decode cX4_contourArea 51 = .ok (.iaload, 1) := by decide +kernel
theorem dX4_contourArea_52 : decode cX4_contourArea 52 = .ok (.iload_n 1, 1) := by decide +kernel
theorem dX4_contourArea_53 : decode cX4_contourArea 53 = .ok (.if_icmp .ne 72, 3) := by decide +kernel
theorem dX4_contourArea_56 : decode cX4_contourArea 56 = .ok (.iload 5, 2) := by decide +kernel
theorem dX4_contourArea_58 : decode cX4_contourArea 58 = .ok (.iconst 1, 1) := by decide +kernel
theorem dX4_contourArea_59 : decode cX4_contourArea 59 = .ok (.iadd, 1) := by decide +kernel
theorem dX4_contourArea_60 : decode cX4_contourArea 60 = .ok (.aload_n 0, 1) := by decide +kernel
theorem dX4_contourArea_61 : decode cX4_contourArea 61 = .ok (.getfield 22, 3) := by decide +kernel
theorem dX4_contourArea_64 : decode cX4_contourArea 64 = .ok (.if_icmp .ge 23, 3) := by decide +kernel
theorem dX4_contourArea_67 : decode cX4_contourArea 67 = .ok (.aload_n 0, 1) := by decide +kernel
theorem dX4_contourArea_68 : decode cX4_contourArea 68 = .ok (.getfield 18, 3) := by decide +kernel
theorem dX4_contourArea_71 : decode cX4_contourArea 71 = .ok (.iload 5, 2) := by decide +kernel
theorem dX4_contourArea_73 : decode cX4_contourArea 73 = .ok (.iconst 1, 1) := by decide +kernel
theorem dX4_contourArea_74 : decode cX4_contourArea 74 = .ok (.iadd, 1) := by decide +kernel
theorem dX4_contourArea_75 : decode cX4_contourArea 75 = .ok (.iaload, 1) := by decide +kernel
theorem dX4_contourArea_76 : decode cX4_contourArea 76 = .ok (.iload_n 1, 1) := by decide +kernel
theorem dX4_contourArea_77 : decode cX4_contourArea 77 = .ok (.if_icmp .ne 10, 3) := by decide +kernel
theorem dX4_contourArea_80 : decode cX4_contourArea 80 = .ok (.iload 5, 2) := by decide +kernel
theorem dX4_contourArea_82 : decode cX4_contourArea 82 = .ok (.iconst 1, 1) := by decide +kernel
theorem dX4_contourArea_83 : decode cX4_contourArea 83 = .ok (.iadd, 1) := by decide +kernel
theorem dX4_contourArea_84 : decode cX4_contourArea 84 = .ok (.goto 5, 3) := by decide +kernel
theorem dX4_contourArea_87 : decode cX4_contourArea 87 = .ok (.iload 4, 2) := by decide +kernel
theorem dX4_contourArea_89 : decode cX4_contourArea 89 = .ok (.istore 6, 2) := by decide +kernel
theorem dX4_contourArea_91 : decode cX4_contourArea 91 = .ok (.lload_n 2, 1) := by decide +kernel
theorem dX4_contourArea_92 : decode cX4_contourArea 92 = .ok (.aload_n 0, 1) := by decide +kernel
theorem dX4_contourArea_93 : decode cX4_contourArea 93 = .ok (.getfield 9, 3) := by decide +kernel
theorem dX4_contourArea_96 : decode cX4_contourArea 96 = .ok (.iload 5, 2) := by decide +kernel
theorem dX4_contourArea_98 : decode cX4_contourArea 98 = .ok (.laload, 1) := by decide +kernel
theorem dX4_contourArea_99 : decode cX4_contourArea 99 = .ok (.aload_n 0, 1) := by decide +kernel
theorem dX4_contourArea_100 : decode cX4_contourArea 100 = .ok (.getfield 15, 3) := by decide +kernel
theorem dX4_contourArea_103 : decode cX4_contourArea 103 = .ok (.iload 6, 2) := by decide +kernel
theorem dX4_contourArea_105 : decode cX4_contourArea 105 = .ok (.laload, 1) := by decide +kernel
theorem dX4_contourArea_106 : decode cX4_contourArea 106 = .ok (.lmul, 1) := by decide +kernel
theorem dX4_contourArea_107 : decode cX4_contourArea 107 = .ok (.aload_n 0, 1) := by decide +kernel
theorem dX4_contourArea_108 : decode cX4_contourArea 108 = .ok (.getfield 9, 3) := by decide +kernel
theorem dX4_contourArea_111 : decode cX4_contourArea 111 = .ok (.iload 6, 2) := by decide +kernel
theorem dX4_contourArea_113 : decode cX4_contourArea 113 = .ok (.laload, 1) := by decide +kernel
theorem dX4_contourArea_114 : decode cX4_contourArea 114 = .ok (.aload_n 0, 1) := by decide +kernel
theorem dX4_contourArea_115 : decode cX4_contourArea 115 = .ok (.getfield 15, 3) := by decide +kernel
theorem dX4_contourArea_118 : decode cX4_contourArea 118 = .ok (.iload 5, 2) := by decide +kernel
theorem dX4_contourArea_120 : decode cX4_contourArea 120 = .ok (.laload, 1) := by decide +kernel
theorem dX4_contourArea_121 : decode cX4_contourArea 121 = .ok (.lmul, 1) := by decide +kernel
theorem dX4_contourArea_122 : decode cX4_contourArea 122 = .ok (.lsub, 1) := by decide +kernel
theorem dX4_contourArea_123 : decode cX4_contourArea 123 = .ok (.ladd, 1) := by decide +kernel
theorem dX4_contourArea_124 : decode cX4_contourArea 124 = .ok (.lstore_n 2, 1) := by decide +kernel
theorem dX4_contourArea_125 : decode cX4_contourArea 125 = .ok (.iinc 5 1, 3) := by decide +kernel
theorem dX4_contourArea_128 : decode cX4_contourArea 128 = .ok (.goto (-120), 3) := by decide +kernel
theorem dX4_contourArea_131 : decode cX4_contourArea 131 = .ok (.lload_n 2, 1) := by decide +kernel
theorem dX4_contourArea_132 : decode cX4_contourArea 132 = .ok (.lreturn, 1) := by decide +kernel
theorem dX4_wholeArea_0 : decode cX4_wholeArea 0 = .ok (.lconst 0, 1) := by decide +kernel
theorem dX4_wholeArea_1 : decode cX4_wholeArea 1 = .ok (.lstore_n 1, 1) := by decide +kernel
theorem dX4_wholeArea_2 : decode cX4_wholeArea 2 = .ok (.iconst 0, 1) := by decide +kernel
theorem dX4_wholeArea_3 : decode cX4_wholeArea 3 = .ok (.istore_n 3, 1) := by decide +kernel
theorem dX4_wholeArea_4 : decode cX4_wholeArea 4 = .ok (.iload_n 3, 1) := by decide +kernel
theorem dX4_wholeArea_5 : decode cX4_wholeArea 5 = .ok (.aload_n 0, 1) := by decide +kernel
theorem dX4_wholeArea_6 : decode cX4_wholeArea 6 = .ok (.getfield 26, 3) := by decide +kernel
theorem dX4_wholeArea_9 : decode cX4_wholeArea 9 = .ok (.if_icmp .ge 17, 3) := by decide +kernel
theorem dX4_wholeArea_12 : decode cX4_wholeArea 12 = .ok (.lload_n 1, 1) := by decide +kernel
theorem dX4_wholeArea_13 : decode cX4_wholeArea 13 = .ok (.aload_n 0, 1) := by decide +kernel
theorem dX4_wholeArea_14 : decode cX4_wholeArea 14 = .ok (.iload_n 3, 1) := by decide +kernel
theorem dX4_wholeArea_15 : decode cX4_wholeArea 15 = .ok (.invokevirtual 44, 3) := by decide +kernel
theorem dX4_wholeArea_18 : decode cX4_wholeArea 18 = .ok (.ladd, 1) := by decide +kernel
theorem dX4_wholeArea_19 : decode cX4_wholeArea 19 = .ok (.lstore_n 1, 1) := by decide +kernel
theorem dX4_wholeArea_20 : decode cX4_wholeArea 20 = .ok (.iinc 3 1, 3) := by decide +kernel
theorem dX4_wholeArea_23 : decode cX4_wholeArea 23 = .ok (.goto (-19), 3) := by decide +kernel
theorem dX4_wholeArea_26 : decode cX4_wholeArea 26 = .ok (.lload_n 1, 1) := by decide +kernel
theorem dX4_wholeArea_27 : decode cX4_wholeArea 27 = .ok (.lreturn, 1) := by decide +kernel
theorem dX5_init_0 : decode cX5_init 0 = .ok (.aload_n 0, 1) := by decide +kernel
theorem dX5_init_1 : decode cX5_init 1 = .ok (.invokespecial 3, 3) := by decide +kernel
theorem dX5_init_4 : decode cX5_init 4 = .ok (.aload_n 0, 1) := by decide +kernel
theorem dX5_init_5 : decode cX5_init 5 = .ok (.iconst 4, 1) := by decide +kernel
theorem dX5_init_6 : decode cX5_init 6 = .ok (.newarray .int, 2) := by decide +kernel
theorem dX5_init_8 : decode cX5_init 8 = .ok (.putfield 9, 3) := by decide +kernel
theorem dX5_init_11 : decode cX5_init 11 = .ok (.aload_n 0, 1) := by decide +kernel
theorem dX5_init_12 : decode cX5_init 12 = .ok (.iconst 4, 1) := by decide +kernel
theorem dX5_init_13 : decode cX5_init 13 = .ok (.newarray .int, 2) := by decide +kernel
theorem dX5_init_15 : decode cX5_init 15 = .ok (.putfield 15, 3) := by decide +kernel
theorem dX5_init_18 : decode cX5_init 18 = .ok (.aload_n 0, 1) := by decide +kernel
theorem dX5_init_19 : decode cX5_init 19 = .ok (.iconst 4, 1) := by decide +kernel
theorem dX5_init_20 : decode cX5_init 20 = .ok (.newarray .int, 2) := by decide +kernel
theorem dX5_init_22 : decode cX5_init 22 = .ok (.putfield 18, 3) := by decide +kernel
theorem dX5_init_25 : decode cX5_init 25 = .ok (.aload_n 0, 1) := by decide +kernel
theorem dX5_init_26 : decode cX5_init 26 = .ok (.bipush 25, 2) := by decide +kernel
theorem dX5_init_28 : decode cX5_init 28 = .ok (.newarray .int, 2) := by decide +kernel
theorem dX5_init_30 : decode cX5_init 30 = .ok (.putfield 21, 3) := by decide +kernel
theorem dX5_init_33 : decode cX5_init 33 = .ok (.aload_n 0, 1) := by decide +kernel
theorem dX5_init_34 : decode cX5_init 34 = .ok (.bipush 25, 2) := by decide +kernel
theorem dX5_init_36 : decode cX5_init 36 = .ok (.newarray .int, 2) := by decide +kernel
theorem dX5_init_38 : decode cX5_init 38 = .ok (.putfield 24, 3) := by decide +kernel
theorem dX5_init_41 : decode cX5_init 41 = .ok (.return_, 1) := by decide +kernel
theorem dX5_begin_0 : decode cX5_begin 0 = .ok (.aload_n 0, 1) := by decide +kernel
theorem dX5_begin_1 : decode cX5_begin 1 = .ok (.iconst 0, 1) := by decide +kernel
theorem dX5_begin_2 : decode cX5_begin 2 = .ok (.putfield 27, 3) := by decide +kernel
theorem dX5_begin_5 : decode cX5_begin 5 = .ok (.iconst 0, 1) := by decide +kernel
theorem dX5_begin_6 : decode cX5_begin 6 = .ok (.istore_n 1, 1) := by decide +kernel
theorem dX5_begin_7 : decode cX5_begin 7 = .ok (.iload_n 1, 1) := by decide +kernel
theorem dX5_begin_8 : decode cX5_begin 8 = .ok (.iconst 4, 1) := by decide +kernel
theorem dX5_begin_9 : decode cX5_begin 9 = .ok (.if_icmp .ge 30, 3) := by decide +kernel
theorem dX5_begin_12 : decode cX5_begin 12 = .ok (.aload_n 0, 1) := by decide +kernel
theorem dX5_begin_13 : decode cX5_begin 13 = .ok (.getfield 9, 3) := by decide +kernel
theorem dX5_begin_16 : decode cX5_begin 16 = .ok (.iload_n 1, 1) := by decide +kernel
theorem dX5_begin_17 : decode cX5_begin 17 = .ok (.iconst 0, 1) := by decide +kernel
theorem dX5_begin_18 : decode cX5_begin 18 = .ok (.iastore, 1) := by decide +kernel
theorem dX5_begin_19 : decode cX5_begin 19 = .ok (.aload_n 0, 1) := by decide +kernel
theorem dX5_begin_20 : decode cX5_begin 20 = .ok (.getfield 15, 3) := by decide +kernel
theorem dX5_begin_23 : decode cX5_begin 23 = .ok (.iload_n 1, 1) := by decide +kernel
theorem dX5_begin_24 : decode cX5_begin 24 = .ok (.iconst 0, 1) := by decide +kernel
theorem dX5_begin_25 : decode cX5_begin 25 = .ok (.iastore, 1) := by decide +kernel
theorem dX5_begin_26 : decode cX5_begin 26 = .ok (.aload_n 0, 1) := by decide +kernel
theorem dX5_begin_27 : decode cX5_begin 27 = .ok (.getfield 18, 3) := by decide +kernel
theorem dX5_begin_30 : decode cX5_begin 30 = .ok (.iload_n 1, 1) := by decide +kernel
theorem dX5_begin_31 : decode cX5_begin 31 = .ok (.iconst 0, 1) := by decide +kernel
theorem dX5_begin_32 : decode cX5_begin 32 = .ok (.iastore, 1) := by decide +kernel
theorem dX5_begin_33 : decode cX5_begin 33 = .ok (.iinc 1 1, 3) := by decide +kernel
theorem dX5_begin_36 : decode cX5_begin 36 = .ok (.goto (-29), 3) := by decide +kernel
theorem dX5_begin_39 : decode cX5_begin 39 = .ok (.return_, 1) := by decide +kernel
theorem dX5_copyFrom_0 : decode cX5_copyFrom 0 = .ok (.aload_n 1, 1) := by decide +kernel
theorem dX5_copyFrom_1 : decode cX5_copyFrom 1 = .ok (.getfield 9, 3) := by decide +kernel
theorem dX5_copyFrom_4 : decode cX5_copyFrom 4 = .ok (.iconst 0, 1) := by decide +kernel
theorem dX5_copyFrom_5 : decode cX5_copyFrom 5 = .ok (.aload_n 0, 1) := by decide +kernel
theorem dX5_copyFrom_6 : decode cX5_copyFrom 6 = .ok (.getfield 9, 3) := by decide +kernel
theorem dX5_copyFrom_9 : decode cX5_copyFrom 9 = .ok (.iconst 0, 1) := by decide +kernel
theorem dX5_copyFrom_10 : decode cX5_copyFrom 10 = .ok (.iconst 4, 1) := by decide +kernel
theorem dX5_copyFrom_11 : decode cX5_copyFrom 11 = .ok (.invokestatic 31, 3) := by decide +kernel
theorem dX5_copyFrom_14 : decode cX5_copyFrom 14 = .ok (.aload_n 1, 1) := by decide +kernel
theorem dX5_copyFrom_15 : decode cX5_copyFrom 15 = .ok (.getfield 15, 3) := by decide +kernel
theorem dX5_copyFrom_18 : decode cX5_copyFrom 18 = .ok (.iconst 0, 1) := by decide +kernel
theorem dX5_copyFrom_19 : decode cX5_copyFrom 19 = .ok (.aload_n 0, 1) := by decide +kernel
theorem dX5_copyFrom_20 : decode cX5_copyFrom 20 = .ok (.getfield 15, 3) := by decide +kernel
theorem dX5_copyFrom_23 : decode cX5_copyFrom 23 = .ok (.iconst 0, 1) := by decide +kernel
theorem dX5_copyFrom_24 : decode cX5_copyFrom 24 = .ok (.iconst 4, 1) := by decide +kernel
theorem dX5_copyFrom_25 : decode cX5_copyFrom 25 = .ok (.invokestatic 31, 3) := by decide +kernel
theorem dX5_copyFrom_28 : decode cX5_copyFrom 28 = .ok (.aload_n 1, 1) := by decide +kernel
theorem dX5_copyFrom_29 : decode cX5_copyFrom 29 = .ok (.getfield 18, 3) := by decide +kernel
theorem dX5_copyFrom_32 : decode cX5_copyFrom 32 = .ok (.iconst 0, 1) := by decide +kernel
theorem dX5_copyFrom_33 : decode cX5_copyFrom 33 = .ok (.aload_n 0, 1) := by decide +kernel
theorem dX5_copyFrom_34 : decode cX5_copyFrom 34 = .ok (.getfield 18, 3) := by decide +kernel
theorem dX5_copyFrom_37 : decode cX5_copyFrom 37 = .ok (.iconst 0, 1) := by decide +kernel
theorem dX5_copyFrom_38 : decode cX5_copyFrom 38 = .ok (.iconst 4, 1) := by decide +kernel
theorem dX5_copyFrom_39 : decode cX5_copyFrom 39 = .ok (.invokestatic 31, 3) := by decide +kernel
theorem dX5_copyFrom_42 : decode cX5_copyFrom 42 = .ok (.aload_n 0, 1) := by decide +kernel
theorem dX5_copyFrom_43 : decode cX5_copyFrom 43 = .ok (.aload_n 1, 1) := by decide +kernel
theorem dX5_copyFrom_44 : decode cX5_copyFrom 44 = .ok (.getfield 27, 3) := by decide +kernel
theorem dX5_copyFrom_47 : decode cX5_copyFrom 47 = .ok (.putfield 27, 3) := by decide +kernel
theorem dX5_copyFrom_50 : decode cX5_copyFrom 50 = .ok (.aload_n 1, 1) := by decide +kernel
theorem dX5_copyFrom_51 : decode cX5_copyFrom 51 = .ok (.getfield 21, 3) := by decide +kernel
theorem dX5_copyFrom_54 : decode cX5_copyFrom 54 = .ok (.iconst 0, 1) := by decide +kernel
theorem dX5_copyFrom_55 : decode cX5_copyFrom 55 = .ok (.aload_n 0, 1) := by decide +kernel
theorem dX5_copyFrom_56 : decode cX5_copyFrom 56 = .ok (.getfield 21, 3) := by decide +kernel
theorem dX5_copyFrom_59 : decode cX5_copyFrom 59 = .ok (.iconst 0, 1) := by decide +kernel
theorem dX5_copyFrom_60 : decode cX5_copyFrom 60 = .ok (.bipush 25, 2) := by decide +kernel
theorem dX5_copyFrom_62 : decode cX5_copyFrom 62 = .ok (.invokestatic 31, 3) := by decide +kernel
theorem dX5_copyFrom_65 : decode cX5_copyFrom 65 = .ok (.aload_n 1, 1) := by decide +kernel
theorem dX5_copyFrom_66 : decode cX5_copyFrom 66 = .ok (.getfield 24, 3) := by decide +kernel
theorem dX5_copyFrom_69 : decode cX5_copyFrom 69 = .ok (.iconst 0, 1) := by decide +kernel
theorem dX5_copyFrom_70 : decode cX5_copyFrom 70 = .ok (.aload_n 0, 1) := by decide +kernel
theorem dX5_copyFrom_71 : decode cX5_copyFrom 71 = .ok (.getfield 24, 3) := by decide +kernel
theorem dX5_copyFrom_74 : decode cX5_copyFrom 74 = .ok (.iconst 0, 1) := by decide +kernel
theorem dX5_copyFrom_75 : decode cX5_copyFrom 75 = .ok (.bipush 25, 2) := by decide +kernel
theorem dX5_copyFrom_77 : decode cX5_copyFrom 77 = .ok (.invokestatic 31, 3) := by decide +kernel
theorem dX5_copyFrom_80 : decode cX5_copyFrom 80 = .ok (.return_, 1) := by decide +kernel
theorem dX5_putRegion_0 : decode cX5_putRegion 0 = .ok (.aload_n 0, 1) := by decide +kernel
theorem dX5_putRegion_1 : decode cX5_putRegion 1 = .ok (.getfield 9, 3) := by decide +kernel
theorem dX5_putRegion_4 : decode cX5_putRegion 4 = .ok (.iload_n 1, 1) := by decide +kernel
theorem dX5_putRegion_5 : decode cX5_putRegion 5 = .ok (.iaload, 1) := by decide +kernel
theorem dX5_putRegion_6 : decode cX5_putRegion 6 = .ok (.iload_n 2, 1) := by decide +kernel
theorem dX5_putRegion_7 : decode cX5_putRegion 7 = .ok (.if_icmp .ne 24, 3) := by decide +kernel
theorem dX5_putRegion_10 : decode cX5_putRegion 10 = .ok (.aload_n 0, 1) := by decide +kernel
theorem dX5_putRegion_11 : decode cX5_putRegion 11 = .ok (.getfield 15, 3) := by decide +kernel
theorem dX5_putRegion_14 : decode cX5_putRegion 14 = .ok (.iload_n 1, 1) := by decide +kernel
theorem dX5_putRegion_15 : decode cX5_putRegion 15 = .ok (.iaload, 1) := by decide +kernel
theorem dX5_putRegion_16 : decode cX5_putRegion 16 = .ok (.iload_n 3, 1) := by decide +kernel
theorem dX5_putRegion_17 : decode cX5_putRegion 17 = .ok (.if_icmp .ne 14, 3) := by decide +kernel
theorem dX5_putRegion_20 : decode cX5_putRegion 20 = .ok (.aload_n 0, 1) := by decide +kernel
theorem dX5_putRegion_21 : decode cX5_putRegion 21 = .ok (.getfield 18, 3) := by decide +kernel
theorem dX5_putRegion_24 : decode cX5_putRegion 24 = .ok (.iload_n 1, 1) := by decide +kernel
theorem dX5_putRegion_25 : decode cX5_putRegion 25 = .ok (.iaload, 1) := by decide +kernel
theorem dX5_putRegion_26 : decode cX5_putRegion 26 = .ok (.iload 4, 2) := by decide +kernel
theorem dX5_putRegion_28 : decode cX5_putRegion 28 = .ok (.if_icmp .eq 7, 3) := by decide +kernel
theorem dX5_putRegion_31 : decode cX5_putRegion 31 = .ok (.iconst 1, 1) := by decide +kernel
theorem dX5_putRegion_32 : decode cX5_putRegion 32 = .ok (.goto 4, 3) := by decide +kernel
theorem dX5_putRegion_35 : decode cX5_putRegion 35 = .ok (.iconst 0, 1) := by decide +kernel
theorem dX5_putRegion_36 : decode cX5_putRegion 36 = .ok (.istore 5, 2) := by decide +kernel
theorem dX5_putRegion_38 : decode cX5_putRegion 38 = .ok (.aload_n 0, 1) := by decide +kernel
theorem dX5_putRegion_39 : decode cX5_putRegion 39 = .ok (.getfield 9, 3) := by decide +kernel
theorem dX5_putRegion_42 : decode cX5_putRegion 42 = .ok (.iload_n 1, 1) := by decide +kernel
theorem dX5_putRegion_43 : decode cX5_putRegion 43 = .ok (.iload_n 2, 1) := by decide +kernel
theorem dX5_putRegion_44 : decode cX5_putRegion 44 = .ok (.iastore, 1) := by decide +kernel
theorem dX5_putRegion_45 : decode cX5_putRegion 45 = .ok (.aload_n 0, 1) := by decide +kernel
theorem dX5_putRegion_46 : decode cX5_putRegion 46 = .ok (.getfield 15, 3) := by decide +kernel
theorem dX5_putRegion_49 : decode cX5_putRegion 49 = .ok (.iload_n 1, 1) := by decide +kernel
theorem dX5_putRegion_50 : decode cX5_putRegion 50 = .ok (.iload_n 3, 1) := by decide +kernel
theorem dX5_putRegion_51 : decode cX5_putRegion 51 = .ok (.iastore, 1) := by decide +kernel
theorem dX5_putRegion_52 : decode cX5_putRegion 52 = .ok (.aload_n 0, 1) := by decide +kernel
theorem dX5_putRegion_53 : decode cX5_putRegion 53 = .ok (.getfield 18, 3) := by decide +kernel
theorem dX5_putRegion_56 : decode cX5_putRegion 56 = .ok (.iload_n 1, 1) := by decide +kernel
theorem dX5_putRegion_57 : decode cX5_putRegion 57 = .ok (.iload 4, 2) := by decide +kernel
theorem dX5_putRegion_59 : decode cX5_putRegion 59 = .ok (.iastore, 1) := by decide +kernel
theorem dX5_putRegion_60 : decode cX5_putRegion 60 = .ok (.iload 5, 2) := by decide +kernel
theorem dX5_putRegion_62 : decode cX5_putRegion 62 = .ok (.ireturn, 1) := by decide +kernel
theorem dX5_hasRegionOf_0 : decode cX5_hasRegionOf 0 = .ok (.iconst 0, 1) := by decide +kernel
theorem dX5_hasRegionOf_1 : decode cX5_hasRegionOf 1 = .ok (.istore_n 2, 1) := by decide +kernel
theorem dX5_hasRegionOf_2 : decode cX5_hasRegionOf 2 = .ok (.iload_n 2, 1) := by decide +kernel
theorem dX5_hasRegionOf_3 : decode cX5_hasRegionOf 3 = .ok (.iconst 4, 1) := by decide +kernel
theorem dX5_hasRegionOf_4 : decode cX5_hasRegionOf 4 = .ok (.if_icmp .ge 56, 3) := by decide +kernel
theorem dX5_hasRegionOf_7 : decode cX5_hasRegionOf 7 = .ok (.aload_n 0, 1) := by decide +kernel
theorem dX5_hasRegionOf_8 : decode cX5_hasRegionOf 8 = .ok (.getfield 9, 3) := by decide +kernel
theorem dX5_hasRegionOf_11 : decode cX5_hasRegionOf 11 = .ok (.iload_n 2, 1) := by decide +kernel
theorem dX5_hasRegionOf_12 : decode cX5_hasRegionOf 12 = .ok (.iaload, 1) := by decide +kernel
theorem dX5_hasRegionOf_13 : decode cX5_hasRegionOf 13 = .ok (.aload_n 1, 1) := by decide +kernel
theorem dX5_hasRegionOf_14 : decode cX5_hasRegionOf 14 = .ok (.getfield 9, 3) := by decide +kernel
theorem dX5_hasRegionOf_17 : decode cX5_hasRegionOf 17 = .ok (.iload_n 2, 1) := by decide +kernel
theorem dX5_hasRegionOf_18 : decode cX5_hasRegionOf 18 = .ok (.iaload, 1) := by decide +kernel
theorem dX5_hasRegionOf_19 : decode cX5_hasRegionOf 19 = .ok (.if_icmp .ne 33, 3) := by decide +kernel
theorem dX5_hasRegionOf_22 : decode cX5_hasRegionOf 22 = .ok (.aload_n 0, 1) := by decide +kernel
theorem dX5_hasRegionOf_23 : decode cX5_hasRegionOf 23 = .ok (.getfield 15, 3) := by decide +kernel
theorem dX5_hasRegionOf_26 : decode cX5_hasRegionOf 26 = .ok (.iload_n 2, 1) := by decide +kernel
theorem dX5_hasRegionOf_27 : decode cX5_hasRegionOf 27 = .ok (.iaload, 1) := by decide +kernel
theorem dX5_hasRegionOf_28 : decode cX5_hasRegionOf 28 = .ok (.aload_n 1, 1) := by decide +kernel
theorem dX5_hasRegionOf_29 : decode cX5_hasRegionOf 29 = .ok (.getfield 15, 3) := by decide +kernel
theorem dX5_hasRegionOf_32 : decode cX5_hasRegionOf 32 = .ok (.iload_n 2, 1) := by decide +kernel
theorem dX5_hasRegionOf_33 : decode cX5_hasRegionOf 33 = .ok (.iaload, 1) := by decide +kernel
theorem dX5_hasRegionOf_34 : decode cX5_hasRegionOf 34 = .ok (.if_icmp .ne 18, 3) := by decide +kernel
theorem dX5_hasRegionOf_37 : decode cX5_hasRegionOf 37 = .ok (.aload_n 0, 1) := by decide +kernel
theorem dX5_hasRegionOf_38 : decode cX5_hasRegionOf 38 = .ok (.getfield 18, 3) := by decide +kernel
theorem dX5_hasRegionOf_41 : decode cX5_hasRegionOf 41 = .ok (.iload_n 2, 1) := by decide +kernel
theorem dX5_hasRegionOf_42 : decode cX5_hasRegionOf 42 = .ok (.iaload, 1) := by decide +kernel
theorem dX5_hasRegionOf_43 : decode cX5_hasRegionOf 43 = .ok (.aload_n 1, 1) := by decide +kernel
theorem dX5_hasRegionOf_44 : decode cX5_hasRegionOf 44 = .ok (.getfield 18, 3) := by decide +kernel
theorem dX5_hasRegionOf_47 : decode cX5_hasRegionOf 47 = .ok (.iload_n 2, 1) := by decide +kernel
theorem dX5_hasRegionOf_48 : decode cX5_hasRegionOf 48 = .ok (.iaload, 1) := by decide +kernel
theorem dX5_hasRegionOf_49 : decode cX5_hasRegionOf 49 = .ok (.if_icmp .eq 5, 3) := by decide +kernel
theorem dX5_hasRegionOf_52 : decode cX5_hasRegionOf 52 = .ok (.iconst 0, 1) := by decide +kernel
theorem dX5_hasRegionOf_53 : decode cX5_hasRegionOf 53 = .ok (.ireturn, 1) := by decide +kernel
theorem dX5_hasRegionOf_54 : decode cX5_hasRegionOf 54 = .ok (.iinc 2 1, 3) := by decide +kernel
theorem dX5_hasRegionOf_57 : decode cX5_hasRegionOf 57 = .ok (.goto (-55), 3) := by decide +kernel
theorem dX5_hasRegionOf_60 : decode cX5_hasRegionOf 60 = .ok (.iconst 1, 1) := by decide +kernel
theorem dX5_hasRegionOf_61 : decode cX5_hasRegionOf 61 = .ok (.ireturn, 1) := by decide +kernel
theorem dX5_dependsOnlyOn_0 : decode cX5_dependsOnlyOn 0 = .ok (.iconst 0, 1) := by decide +kernel
theorem dX5_dependsOnlyOn_1 : decode cX5_dependsOnlyOn 1 = .ok (.istore_n 2, 1) := by decide +kernel
theorem dX5_dependsOnlyOn_2 : decode cX5_dependsOnlyOn 2 = .ok (.iload_n 2, 1) := by decide +kernel
theorem dX5_dependsOnlyOn_3 : decode cX5_dependsOnlyOn 3 = .ok (.iconst 4, 1) := by decide +kernel
theorem dX5_dependsOnlyOn_4 : decode cX5_dependsOnlyOn 4 = .ok (.if_icmp .ge 28, 3) := by decide +kernel
theorem dX5_dependsOnlyOn_7 : decode cX5_dependsOnlyOn 7 = .ok (.aload_n 0, 1) := by decide +kernel
theorem dX5_dependsOnlyOn_8 : decode cX5_dependsOnlyOn 8 = .ok (.getfield 15, 3) := by decide +kernel
theorem dX5_dependsOnlyOn_11 : decode cX5_dependsOnlyOn 11 = .ok (.iload_n 2, 1) := by decide +kernel
theorem dX5_dependsOnlyOn_12 : decode cX5_dependsOnlyOn 12 = .ok (.iaload, 1) := by decide +kernel
theorem dX5_dependsOnlyOn_13 : decode cX5_dependsOnlyOn 13 = .ok (.ifCond .eq 13, 3) := by decide +kernel
theorem dX5_dependsOnlyOn_16 : decode cX5_dependsOnlyOn 16 = .ok (.iload_n 1, 1) := by decide +kernel
theorem dX5_dependsOnlyOn_17 : decode cX5_dependsOnlyOn 17 = .ok (.iload_n 2, 1) := by decide +kernel
theorem dX5_dependsOnlyOn_18 : decode cX5_dependsOnlyOn 18 = .ok (.invokestatic 37, 3) := by decide +kernel
theorem dX5_dependsOnlyOn_21 : decode cX5_dependsOnlyOn 21 = .ok (.ifCond .ne 5, 3) := by decide +kernel
theorem dX5_dependsOnlyOn_24 : decode cX5_dependsOnlyOn 24 = .ok (.iconst 0, 1) := by decide +kernel
theorem dX5_dependsOnlyOn_25 : decode cX5_dependsOnlyOn 25 = .ok (.ireturn, 1) := by decide +kernel
theorem dX5_dependsOnlyOn_26 : decode cX5_dependsOnlyOn 26 = .ok (.iinc 2 1, 3) := by decide +kernel
theorem dX5_dependsOnlyOn_29 : decode cX5_dependsOnlyOn 29 = .ok (.goto (-27), 3) := by decide +kernel
theorem dX5_dependsOnlyOn_32 : decode cX5_dependsOnlyOn 32 = .ok (.iconst 1, 1) := by decide +kernel
theorem dX5_dependsOnlyOn_33 : decode cX5_dependsOnlyOn 33 = .ok (.ireturn, 1) := by decide +kernel
theorem dX5_touches_0 : decode cX5_touches 0 = .ok (.aload_n 0, 1) := by decide +kernel
theorem dX5_touches_1 : decode cX5_touches 1 = .ok (.getfield 27, 3) := by decide +kernel
theorem dX5_touches_4 : decode cX5_touches 4 = .ok (.iload_n 1, 1) := by decide +kernel
theorem dX5_touches_5 : decode cX5_touches 5 = .ok (.invokestatic 37, 3) := by decide +kernel
theorem dX5_touches_8 : decode cX5_touches 8 = .ok (.ireturn, 1) := by decide +kernel
theorem dX5_putDelta_0 : decode cX5_putDelta 0 = .ok (.aload_n 0, 1) := by decide +kernel
theorem dX5_putDelta_1 : decode cX5_putDelta 1 = .ok (.dup, 1) := by decide +kernel
theorem dX5_putDelta_2 : decode cX5_putDelta 2 = .ok (.getfield 27, 3) := by decide +kernel
theorem dX5_putDelta_5 : decode cX5_putDelta 5 = .ok (.iconst 1, 1) := by decide +kernel
theorem dX5_putDelta_6 : decode cX5_putDelta 6 = .ok (.iload_n 1, 1) := by decide +kernel
theorem dX5_putDelta_7 : decode cX5_putDelta 7 = .ok (.ishl, 1) := by decide +kernel
theorem dX5_putDelta_8 : decode cX5_putDelta 8 = .ok (.ior, 1) := by decide +kernel
theorem dX5_putDelta_9 : decode cX5_putDelta 9 = .ok (.putfield 27, 3) := by decide +kernel
theorem dX5_putDelta_12 : decode cX5_putDelta 12 = .ok (.aload_n 0, 1) := by decide +kernel
theorem dX5_putDelta_13 : decode cX5_putDelta 13 = .ok (.getfield 21, 3) := by decide +kernel
theorem dX5_putDelta_16 : decode cX5_putDelta 16 = .ok (.iload_n 1, 1) := by decide +kernel
theorem dX5_putDelta_17 : decode cX5_putDelta 17 = .ok (.iload_n 2, 1) := by decide +kernel
theorem dX5_putDelta_18 : decode cX5_putDelta 18 = .ok (.iastore, 1) := by decide +kernel
theorem dX5_putDelta_19 : decode cX5_putDelta 19 = .ok (.aload_n 0, 1) := by decide +kernel
theorem dX5_putDelta_20 : decode cX5_putDelta 20 = .ok (.getfield 24, 3) := by decide +kernel
theorem dX5_putDelta_23 : decode cX5_putDelta 23 = .ok (.iload_n 1, 1) := by decide +kernel
theorem dX5_putDelta_24 : decode cX5_putDelta 24 = .ok (.iload_n 3, 1) := by decide +kernel
theorem dX5_putDelta_25 : decode cX5_putDelta 25 = .ok (.iastore, 1) := by decide +kernel
theorem dX5_putDelta_26 : decode cX5_putDelta 26 = .ok (.return_, 1) := by decide +kernel
theorem dX5_dropTouch_0 : decode cX5_dropTouch 0 = .ok (.aload_n 0, 1) := by decide +kernel
theorem dX5_dropTouch_1 : decode cX5_dropTouch 1 = .ok (.dup, 1) := by decide +kernel
theorem dX5_dropTouch_2 : decode cX5_dropTouch 2 = .ok (.getfield 27, 3) := by decide +kernel
theorem dX5_dropTouch_5 : decode cX5_dropTouch 5 = .ok (.iconst 1, 1) := by decide +kernel
theorem dX5_dropTouch_6 : decode cX5_dropTouch 6 = .ok (.iload_n 1, 1) := by decide +kernel
theorem dX5_dropTouch_7 : decode cX5_dropTouch 7 = .ok (.ishl, 1) := by decide +kernel
theorem dX5_dropTouch_8 : decode cX5_dropTouch 8 = .ok (.iconst (-1), 1) := by decide +kernel
theorem dX5_dropTouch_9 : decode cX5_dropTouch 9 = .ok (.ixor, 1) := by decide +kernel
theorem dX5_dropTouch_10 : decode cX5_dropTouch 10 = .ok (.iand, 1) := by decide +kernel
theorem dX5_dropTouch_11 : decode cX5_dropTouch 11 = .ok (.putfield 27, 3) := by decide +kernel
theorem dX5_dropTouch_14 : decode cX5_dropTouch 14 = .ok (.return_, 1) := by decide +kernel
theorem dX5_addDeltas_0 : decode cX5_addDeltas 0 = .ok (.iconst 0, 1) := by decide +kernel
theorem dX5_addDeltas_1 : decode cX5_addDeltas 1 = .ok (.istore_n 2, 1) := by decide +kernel
theorem dX5_addDeltas_2 : decode cX5_addDeltas 2 = .ok (.iload_n 2, 1) := by decide +kernel
theorem dX5_addDeltas_3 : decode cX5_addDeltas 3 = .ok (.bipush 25, 2) := by decide +kernel
theorem dX5_addDeltas_5 : decode cX5_addDeltas 5 = .ok (.if_icmp .ge 47, 3) := by decide +kernel
theorem dX5_addDeltas_8 : decode cX5_addDeltas 8 = .ok (.aload_n 0, 1) := by decide +kernel
theorem dX5_addDeltas_9 : decode cX5_addDeltas 9 = .ok (.iload_n 2, 1) := by decide +kernel
theorem dX5_addDeltas_10 : decode cX5_addDeltas 10 = .ok (.invokevirtual 41, 3) := by decide +kernel
theorem dX5_addDeltas_13 : decode cX5_addDeltas 13 = .ok (.ifCond .eq 33, 3) := by decide +kernel
theorem dX5_addDeltas_16 : decode cX5_addDeltas 16 = .ok (.aload_n 0, 1) := by decide +kernel
theorem dX5_addDeltas_17 : decode cX5_addDeltas 17 = .ok (.getfield 21, 3) := by decide +kernel
theorem dX5_addDeltas_20 : decode cX5_addDeltas 20 = .ok (.iload_n 2, 1) := by decide +kernel
theorem dX5_addDeltas_21 : decode cX5_addDeltas 21 = .ok (.dup2, 1) := by decide +kernel
theorem dX5_addDeltas_22 : decode cX5_addDeltas 22 = .ok (.iaload, 1) := by decide +kernel
theorem dX5_addDeltas_23 : decode cX5_addDeltas 23 = .ok (.aload_n 1, 1) := by decide +kernel
theorem dX5_addDeltas_24 : decode cX5_addDeltas 24 = .ok (.getfield 21, 3) := by decide +kernel
theorem dX5_addDeltas_27 : decode cX5_addDeltas 27 = .ok (.iload_n 2, 1) := by decide +kernel
theorem dX5_addDeltas_28 : decode cX5_addDeltas 28 = .ok (.iaload, 1) := by decide +kernel
theorem dX5_addDeltas_29 : decode cX5_addDeltas 29 = .ok (.iadd, 1) := by decide +kernel
theorem dX5_addDeltas_30 : decode cX5_addDeltas 30 = .ok (.iastore, 1) := by decide +kernel
theorem dX5_addDeltas_31 : decode cX5_addDeltas 31 = .ok (.aload_n 0, 1) := by decide +kernel
theorem dX5_addDeltas_32 : decode cX5_addDeltas 32 = .ok (.getfield 24, 3) := by decide +kernel
theorem dX5_addDeltas_35 : decode cX5_addDeltas 35 = .ok (.iload_n 2, 1) := by decide +kernel
theorem dX5_addDeltas_36 : decode cX5_addDeltas 36 = .ok (.dup2, 1) := by decide +kernel
theorem dX5_addDeltas_37 : decode cX5_addDeltas 37 = .ok (.iaload, 1) := by decide +kernel
theorem dX5_addDeltas_38 : decode cX5_addDeltas 38 = .ok (.aload_n 1, 1) := by decide +kernel
theorem dX5_addDeltas_39 : decode cX5_addDeltas 39 = .ok (.getfield 24, 3) := by decide +kernel
theorem dX5_addDeltas_42 : decode cX5_addDeltas 42 = .ok (.iload_n 2, 1) := by decide +kernel
theorem dX5_addDeltas_43 : decode cX5_addDeltas 43 = .ok (.iaload, 1) := by decide +kernel
theorem dX5_addDeltas_44 : decode cX5_addDeltas 44 = .ok (.iadd, 1) := by decide +kernel
theorem dX5_addDeltas_45 : decode cX5_addDeltas 45 = .ok (.iastore, 1) := by decide +kernel
theorem dX5_addDeltas_46 : decode cX5_addDeltas 46 = .ok (.iinc 2 1, 3) := by decide +kernel
theorem dX5_addDeltas_49 : decode cX5_addDeltas 49 = .ok (.goto (-47), 3) := by decide +kernel
theorem dX5_addDeltas_52 : decode cX5_addDeltas 52 = .ok (.return_, 1) := by decide +kernel
theorem dX5_scalarAt_0 : decode cX5_scalarAt 0 = .ok (.ldc2_w 45, 3) := by decide +kernel
theorem dX5_scalarAt_3 : decode cX5_scalarAt 3 = .ok (.lstore_n 2, 1) := by decide +kernel
theorem dX5_scalarAt_4 : decode cX5_scalarAt 4 = .ok (.iconst 0, 1) := by decide +kernel
theorem dX5_scalarAt_5 : decode cX5_scalarAt 5 = .ok (.istore 4, 2) := by decide +kernel
theorem dX5_scalarAt_7 : decode cX5_scalarAt 7 = .ok (.iload 4, 2) := by decide +kernel
theorem dX5_scalarAt_9 : decode cX5_scalarAt 9 = .ok (.iconst 4, 1) := by decide +kernel
theorem dX5_scalarAt_10 : decode cX5_scalarAt 10 = .ok (.if_icmp .ge 21, 3) := by decide +kernel
theorem dX5_scalarAt_13 : decode cX5_scalarAt 13 = .ok (.aload_n 0, 1) := by decide +kernel
theorem dX5_scalarAt_14 : decode cX5_scalarAt 14 = .ok (.lload_n 2, 1) := by decide +kernel
theorem dX5_scalarAt_15 : decode cX5_scalarAt 15 = .ok (.iload 4, 2) := by decide +kernel
theorem dX5_scalarAt_17 : decode cX5_scalarAt 17 = .ok (.aload_n 1, 1) := by decide +kernel
theorem dX5_scalarAt_18 : decode cX5_scalarAt 18 = .ok (.iload 4, 2) := by decide +kernel
theorem dX5_scalarAt_20 : decode cX5_scalarAt 20 = .ok (.iaload, 1) := by decide +kernel
theorem dX5_scalarAt_21 : decode cX5_scalarAt 21 = .ok (.invokevirtual 47, 3) := by decide +kernel
theorem dX5_scalarAt_24 : decode cX5_scalarAt 24 = .ok (.lstore_n 2, 1) := by decide +kernel
theorem dX5_scalarAt_25 : decode cX5_scalarAt 25 = .ok (.iinc 4 1, 3) := by decide +kernel
theorem dX5_scalarAt_28 : decode cX5_scalarAt 28 = .ok (.goto (-21), 3) := by decide +kernel
theorem dX5_scalarAt_31 : decode cX5_scalarAt 31 = .ok (.lload_n 2, 1) := by decide +kernel
theorem dX5_scalarAt_32 : decode cX5_scalarAt 32 = .ok (.l2i, 1) := by decide +kernel
theorem dX5_scalarAt_33 : decode cX5_scalarAt 33 = .ok (.ireturn, 1) := by decide +kernel
theorem dX5_timesFactor_0 : decode cX5_timesFactor 0 = .ok (.aload_n 0, 1) := by decide +kernel
theorem dX5_timesFactor_1 : decode cX5_timesFactor 1 = .ok (.getfield 15, 3) := by decide +kernel
theorem dX5_timesFactor_4 : decode cX5_timesFactor 4 = .ok (.iload_n 3, 1) := by decide +kernel
theorem dX5_timesFactor_5 : decode cX5_timesFactor 5 = .ok (.iaload, 1) := by decide +kernel
theorem dX5_timesFactor_6 : decode cX5_timesFactor 6 = .ok (.ifCond .ne 5, 3) := by decide +kernel
theorem dX5_timesFactor_9 : decode cX5_timesFactor 9 = .ok (.lload_n 1, 1) := by decide +kernel
theorem dX5_timesFactor_10 : decode cX5_timesFactor 10 = .ok (.lreturn, 1) := by decide +kernel
theorem dX5_timesFactor_11 : decode cX5_timesFactor 11 = .ok (.iload 4, 2) := by decide +kernel
theorem dX5_timesFactor_13 : decode cX5_timesFactor 13 = .ok (.aload_n 0, 1) := by decide +kernel
theorem dX5_timesFactor_14 : decode cX5_timesFactor 14 = .ok (.getfield 9, 3) := by decide +kernel
theorem dX5_timesFactor_17 : decode cX5_timesFactor 17 = .ok (.iload_n 3, 1) := by decide +kernel
theorem dX5_timesFactor_18 : decode cX5_timesFactor 18 = .ok (.iaload, 1) := by decide +kernel
theorem dX5_timesFactor_19 : decode cX5_timesFactor 19 = .ok (.if_icmp .lt 14, 3) := by decide +kernel
theorem dX5_timesFactor_22 : decode cX5_timesFactor 22 = .ok (.iload 4, 2) := by decide +kernel
theorem dX5_timesFactor_24 : decode cX5_timesFactor 24 = .ok (.aload_n 0, 1) := by decide +kernel
theorem dX5_timesFactor_25 : decode cX5_timesFactor 25 = .ok (.getfield 18, 3) := by decide +kernel
theorem dX5_timesFactor_28 : decode cX5_timesFactor 28 = .ok (.iload_n 3, 1) := by decide +kernel
theorem dX5_timesFactor_29 : decode cX5_timesFactor 29 = .ok (.iaload, 1) := by decide +kernel
theorem dX5_timesFactor_30 : decode cX5_timesFactor 30 = .ok (.if_icmp .le 5, 3) := by decide +kernel
theorem dX5_timesFactor_33 : decode cX5_timesFactor 33 = .ok (.lconst 0, 1) := by decide +kernel
theorem dX5_timesFactor_34 : decode cX5_timesFactor 34 = .ok (.lreturn, 1) := by decide +kernel
theorem dX5_timesFactor_35 : decode cX5_timesFactor 35 = .ok (.iload 4, 2) := by decide +kernel
theorem dX5_timesFactor_37 : decode cX5_timesFactor 37 = .ok (.aload_n 0, 1) := by decide +kernel
theorem dX5_timesFactor_38 : decode cX5_timesFactor 38 = .ok (.getfield 15, 3) := by decide +kernel
theorem dX5_timesFactor_41 : decode cX5_timesFactor 41 = .ok (.iload_n 3, 1) := by decide +kernel
theorem dX5_timesFactor_42 : decode cX5_timesFactor 42 = .ok (.iaload, 1) := by decide +kernel
theorem dX5_timesFactor_43 : decode cX5_timesFactor 43 = .ok (.if_icmp .ne 5, 3) := by decide +kernel
theorem dX5_timesFactor_46 : decode cX5_timesFactor 46 = .ok (.lload_n 1, 1) := by decide +kernel
theorem dX5_timesFactor_47 : decode cX5_timesFactor 47 = .ok (.lreturn, 1) := by decide +kernel
theorem dX5_timesFactor_48 : decode cX5_timesFactor 48 = .ok (.iload 4, 2) := by decide +kernel
theorem dX5_timesFactor_50 : decode cX5_timesFactor 50 = .ok (.aload_n 0, 1) := by decide +kernel
theorem dX5_timesFactor_51 : decode cX5_timesFactor 51 = .ok (.getfield 15, 3) := by decide +kernel
theorem dX5_timesFactor_54 : decode cX5_timesFactor 54 = .ok (.iload_n 3, 1) := by decide +kernel
theorem dX5_timesFactor_55 : decode cX5_timesFactor 55 = .ok (.iaload, 1) := by decide +kernel
theorem dX5_timesFactor_56 : decode cX5_timesFactor 56 = .ok (.if_icmp .ge 35, 3) := by decide +kernel
theorem dX5_timesFactor_59 : decode cX5_timesFactor 59 = .ok (.lload_n 1, 1) := by decide +kernel
theorem dX5_timesFactor_60 : decode cX5_timesFactor 60 = .ok (.iload 4, 2) := by decide +kernel
theorem dX5_timesFactor_62 : decode cX5_timesFactor 62 = .ok (.aload_n 0, 1) := by decide +kernel
theorem dX5_timesFactor_63 : decode cX5_timesFactor 63 = .ok (.getfield 9, 3) := by decide +kernel
theorem dX5_timesFactor_66 : decode cX5_timesFactor 66 = .ok (.iload_n 3, 1) := by decide +kernel
theorem dX5_timesFactor_67 : decode cX5_timesFactor 67 = .ok (.iaload, 1) := by decide +kernel
theorem dX5_timesFactor_68 : decode cX5_timesFactor 68 = .ok (.isub, 1) := by decide +kernel
theorem dX5_timesFactor_69 : decode cX5_timesFactor 69 = .ok (.i2l, 1) := by decide +kernel
theorem dX5_timesFactor_70 : decode cX5_timesFactor 70 = .ok (.lmul, 1) := by decide +kernel
theorem dX5_timesFactor_71 : decode cX5_timesFactor 71 = .ok (.aload_n 0, 1) := by decide +kernel
theorem dX5_timesFactor_72 : decode cX5_timesFactor 72 = .ok (.getfield 15, 3) := by decide +kernel
theorem dX5_timesFactor_75 : decode cX5_timesFactor 75 = .ok (.iload_n 3, 1) := by decide +kernel
theorem dX5_timesFactor_76 : decode cX5_timesFactor 76 = .ok (.iaload, 1) := by decide +kernel
theorem dX5_timesFactor_77 : decode cX5_timesFactor 77 = .ok (.aload_n 0, 1) := by decide +kernel
theorem dX5_timesFactor_78 : decode cX5_timesFactor 78 = .ok (.getfield 9, 3) := by decide +kernel
theorem dX5_timesFactor_81 : decode cX5_timesFactor 81 = .ok (.iload_n 3, 1) := by decide +kernel
theorem dX5_timesFactor_82 : decode cX5_timesFactor 82 = .ok (.iaload, 1) := by decide +kernel
theorem dX5_timesFactor_83 : decode cX5_timesFactor 83 = .ok (.isub, 1) := by decide +kernel
theorem dX5_timesFactor_84 : decode cX5_timesFactor 84 = .ok (.i2l, 1) := by decide +kernel
theorem dX5_timesFactor_85 : decode cX5_timesFactor 85 = .ok (.invokestatic 51, 3) := by decide +kernel
theorem dX5_timesFactor_88 : decode cX5_timesFactor 88 = .ok (.goto 32, 3) := by decide +kernel
theorem dX5_timesFactor_91 : decode cX5_timesFactor 91 = .ok (.lload_n 1, 1) := by decide +kernel
theorem dX5_timesFactor_92 : decode cX5_timesFactor 92 = .ok (.aload_n 0, 1) := by decide +kernel
theorem dX5_timesFactor_93 : decode cX5_timesFactor 93 = .ok (.getfield 18, 3) := by decide +kernel
theorem dX5_timesFactor_96 : decode cX5_timesFactor 96 = .ok (.iload_n 3, 1) := by decide +kernel
theorem dX5_timesFactor_97 : decode cX5_timesFactor 97 = .ok (.iaload, 1) := by decide +kernel
theorem dX5_timesFactor_98 : decode cX5_timesFactor 98 = .ok (.iload 4, 2) := by decide +kernel
theorem dX5_timesFactor_100 : decode cX5_timesFactor 100 = .ok (.isub, 1) := by decide +kernel
theorem dX5_timesFactor_101 : decode cX5_timesFactor 101 = .ok (.i2l, 1) := by decide +kernel
theorem dX5_timesFactor_102 : decode cX5_timesFactor 102 = .ok (.lmul, 1) := by decide +kernel
theorem dX5_timesFactor_103 : decode cX5_timesFactor 103 = .ok (.aload_n 0, 1) := by decide +kernel
theorem dX5_timesFactor_104 : decode cX5_timesFactor 104 = .ok (.getfield 18, 3) := by decide +kernel
theorem dX5_timesFactor_107 : decode cX5_timesFactor 107 = .ok (.iload_n 3, 1) := by decide +kernel
theorem dX5_timesFactor_108 : decode cX5_timesFactor 108 = .ok (.iaload, 1) := by decide +kernel
theorem dX5_timesFactor_109 : decode cX5_timesFactor 109 = .ok (.aload_n 0, 1) := by decide +kernel
theorem dX5_timesFactor_110 : decode cX5_timesFactor 110 = .ok (.getfield 15, 3) := by decide +kernel
theorem dX5_timesFactor_113 : decode cX5_timesFactor 113 = .ok (.iload_n 3, 1) := by decide +kernel
theorem dX5_timesFactor_114 : decode cX5_timesFactor 114 = .ok (.iaload, 1) := by decide +kernel
theorem dX5_timesFactor_115 : decode cX5_timesFactor 115 = .ok (.isub, 1) := by decide +kernel
theorem dX5_timesFactor_116 : decode cX5_timesFactor 116 = .ok (.i2l, 1) := by decide +kernel
theorem dX5_timesFactor_117 : decode cX5_timesFactor 117 = .ok (.invokestatic 51, 3) := by decide +kernel
theorem dX5_timesFactor_120 : decode cX5_timesFactor 120 = .ok (.lreturn, 1) := by decide +kernel
theorem dJ6_bitCount_0f7a4_0 : decode cJ6_bitCount_0f7a4 0 = .ok (.iload_n 0, 1) := by decide +kernel
theorem dJ6_bitCount_0f7a4_1 : decode cJ6_bitCount_0f7a4 1 = .ok (.iload_n 0, 1) := by decide +kernel
theorem dJ6_bitCount_0f7a4_2 : decode cJ6_bitCount_0f7a4 2 = .ok (.iconst 1, 1) := by decide +kernel
theorem dJ6_bitCount_0f7a4_3 : decode cJ6_bitCount_0f7a4 3 = .ok (.iushr, 1) := by decide +kernel
theorem dJ6_bitCount_0f7a4_4 : decode cJ6_bitCount_0f7a4 4 = .ok (.ldc_w 265, 3) := by decide +kernel
theorem dJ6_bitCount_0f7a4_7 : decode cJ6_bitCount_0f7a4 7 = .ok (.iand, 1) := by decide +kernel
theorem dJ6_bitCount_0f7a4_8 : decode cJ6_bitCount_0f7a4 8 = .ok (.isub, 1) := by decide +kernel
theorem dJ6_bitCount_0f7a4_9 : decode cJ6_bitCount_0f7a4 9 = .ok (.istore_n 0, 1) := by decide +kernel
theorem dJ6_bitCount_0f7a4_10 : decode cJ6_bitCount_0f7a4 10 = .ok (.iload_n 0, 1) := by decide +kernel
theorem dJ6_bitCount_0f7a4_11 : decode cJ6_bitCount_0f7a4 11 = .ok (.ldc_w 266, 3) := by decide +kernel
theorem dJ6_bitCount_0f7a4_14 : decode cJ6_bitCount_0f7a4 14 = .ok (.iand, 1) := by decide +kernel
theorem dJ6_bitCount_0f7a4_15 : decode cJ6_bitCount_0f7a4 15 = .ok (.iload_n 0, 1) := by decide +kernel
theorem dJ6_bitCount_0f7a4_16 : decode cJ6_bitCount_0f7a4 16 = .ok (.iconst 2, 1) := by decide +kernel
theorem dJ6_bitCount_0f7a4_17 : decode cJ6_bitCount_0f7a4 17 = .ok (.iushr, 1) := by decide +kernel
theorem dJ6_bitCount_0f7a4_18 : decode cJ6_bitCount_0f7a4 18 = .ok (.ldc_w 266, 3) := by decide +kernel
theorem dJ6_bitCount_0f7a4_21 : decode cJ6_bitCount_0f7a4 21 = .ok (.iand, 1) := by decide +kernel
theorem dJ6_bitCount_0f7a4_22 : decode cJ6_bitCount_0f7a4 22 = .ok (.iadd, 1) := by decide +kernel
theorem dJ6_bitCount_0f7a4_23 : decode cJ6_bitCount_0f7a4 23 = .ok (.istore_n 0, 1) := by decide +kernel
theorem dJ6_bitCount_0f7a4_24 : decode cJ6_bitCount_0f7a4 24 = .ok (.iload_n 0, 1) := by decide +kernel
theorem dJ6_bitCount_0f7a4_25 : decode cJ6_bitCount_0f7a4 25 = .ok (.iload_n 0, 1) := by decide +kernel
theorem dJ6_bitCount_0f7a4_26 : decode cJ6_bitCount_0f7a4 26 = .ok (.iconst 4, 1) := by decide +kernel
theorem dJ6_bitCount_0f7a4_27 : decode cJ6_bitCount_0f7a4 27 = .ok (.iushr, 1) := by decide +kernel
theorem dJ6_bitCount_0f7a4_28 : decode cJ6_bitCount_0f7a4 28 = .ok (.iadd, 1) := by decide +kernel
theorem dJ6_bitCount_0f7a4_29 : decode cJ6_bitCount_0f7a4 29 = .ok (.ldc_w 267, 3) := by decide +kernel
theorem dJ6_bitCount_0f7a4_32 : decode cJ6_bitCount_0f7a4 32 = .ok (.iand, 1) := by decide +kernel
theorem dJ6_bitCount_0f7a4_33 : decode cJ6_bitCount_0f7a4 33 = .ok (.istore_n 0, 1) := by decide +kernel
theorem dJ6_bitCount_0f7a4_34 : decode cJ6_bitCount_0f7a4 34 = .ok (.iload_n 0, 1) := by decide +kernel
theorem dJ6_bitCount_0f7a4_35 : decode cJ6_bitCount_0f7a4 35 = .ok (.iload_n 0, 1) := by decide +kernel
theorem dJ6_bitCount_0f7a4_36 : decode cJ6_bitCount_0f7a4 36 = .ok (.bipush 8, 2) := by decide +kernel
theorem dJ6_bitCount_0f7a4_38 : decode cJ6_bitCount_0f7a4 38 = .ok (.iushr, 1) := by decide +kernel
theorem dJ6_bitCount_0f7a4_39 : decode cJ6_bitCount_0f7a4 39 = .ok (.iadd, 1) := by decide +kernel
theorem dJ6_bitCount_0f7a4_40 : decode cJ6_bitCount_0f7a4 40 = .ok (.istore_n 0, 1) := by decide +kernel
theorem dJ6_bitCount_0f7a4_41 : decode cJ6_bitCount_0f7a4 41 = .ok (.iload_n 0, 1) := by decide +kernel
theorem dJ6_bitCount_0f7a4_42 : decode cJ6_bitCount_0f7a4 42 = .ok (.iload_n 0, 1) := by decide +kernel
theorem dJ6_bitCount_0f7a4_43 : decode cJ6_bitCount_0f7a4 43 = .ok (.bipush 16, 2) := by decide +kernel
theorem dJ6_bitCount_0f7a4_45 : decode cJ6_bitCount_0f7a4 45 = .ok (.iushr, 1) := by decide +kernel
theorem dJ6_bitCount_0f7a4_46 : decode cJ6_bitCount_0f7a4 46 = .ok (.iadd, 1) := by decide +kernel
theorem dJ6_bitCount_0f7a4_47 : decode cJ6_bitCount_0f7a4 47 = .ok (.istore_n 0, 1) := by decide +kernel
theorem dJ6_bitCount_0f7a4_48 : decode cJ6_bitCount_0f7a4 48 = .ok (.iload_n 0, 1) := by decide +kernel
theorem dJ6_bitCount_0f7a4_49 : decode cJ6_bitCount_0f7a4 49 = .ok (.bipush 63, 2) := by decide +kernel
theorem dJ6_bitCount_0f7a4_51 : decode cJ6_bitCount_0f7a4 51 = .ok (.iand, 1) := by decide +kernel
theorem dJ6_bitCount_0f7a4_52 : decode cJ6_bitCount_0f7a4 52 = .ok (.ireturn, 1) := by decide +kernel
theorem dJ9_floorDiv_f86c9_0 : decode cJ9_floorDiv_f86c9 0 = .ok (.lload_n 0, 1) := by decide +kernel
theorem dJ9_floorDiv_f86c9_1 : decode cJ9_floorDiv_f86c9 1 = .ok (.lload_n 2, 1) := by decide +kernel
theorem dJ9_floorDiv_f86c9_2 : decode cJ9_floorDiv_f86c9 2 = .ok (.ldiv, 1) := by decide +kernel
theorem dJ9_floorDiv_f86c9_3 : decode cJ9_floorDiv_f86c9 3 = .ok (.lstore 4, 2) := by decide +kernel
theorem dJ9_floorDiv_f86c9_5 : decode cJ9_floorDiv_f86c9 5 = .ok (.lload_n 0, 1) := by decide +kernel
theorem dJ9_floorDiv_f86c9_6 : decode cJ9_floorDiv_f86c9 6 = .ok (.lload_n 2, 1) := by decide +kernel
theorem dJ9_floorDiv_f86c9_7 : decode cJ9_floorDiv_f86c9 7 = .ok (.lxor, 1) := by decide +kernel
theorem dJ9_floorDiv_f86c9_8 : decode cJ9_floorDiv_f86c9 8 = .ok (.lconst 0, 1) := by decide +kernel
theorem dJ9_floorDiv_f86c9_9 : decode cJ9_floorDiv_f86c9 9 = .ok (.lcmp, 1) := by decide +kernel
theorem dJ9_floorDiv_f86c9_10 : decode cJ9_floorDiv_f86c9 10 = .ok (.ifCond .ge 17, 3) := by decide +kernel
theorem dJ9_floorDiv_f86c9_13 : decode cJ9_floorDiv_f86c9 13 = .ok (.lload 4, 2) := by decide +kernel
theorem dJ9_floorDiv_f86c9_15 : decode cJ9_floorDiv_f86c9 15 = .ok (.lload_n 2, 1) := by decide +kernel
theorem dJ9_floorDiv_f86c9_16 : decode cJ9_floorDiv_f86c9 16 = .ok (.lmul, 1) := by decide +kernel
theorem dJ9_floorDiv_f86c9_17 : decode cJ9_floorDiv_f86c9 17 = .ok (.lload_n 0, 1) := by decide +kernel
theorem dJ9_floorDiv_f86c9_18 : decode cJ9_floorDiv_f86c9 18 = .ok (.lcmp, 1) := by decide +kernel
theorem dJ9_floorDiv_f86c9_19 : decode cJ9_floorDiv_f86c9 19 = .ok (.ifCond .eq 8, 3) := by decide +kernel
theorem dJ9_floorDiv_f86c9_22 : decode cJ9_floorDiv_f86c9 22 = .ok (.lload 4, 2) := by decide +kernel
theorem dJ9_floorDiv_f86c9_24 : decode cJ9_floorDiv_f86c9 24 = .ok (.lconst 1, 1) := by decide +kernel
theorem dJ9_floorDiv_f86c9_25 : decode cJ9_floorDiv_f86c9 25 = .ok (.lsub, 1) := by decide +kernel
theorem dJ9_floorDiv_f86c9_26 : decode cJ9_floorDiv_f86c9 26 = .ok (.lreturn, 1) := by decide +kernel
theorem dJ9_floorDiv_f86c9_27 : decode cJ9_floorDiv_f86c9 27 = .ok (.lload 4, 2) := by decide +kernel
theorem dJ9_floorDiv_f86c9_29 : decode cJ9_floorDiv_f86c9 29 = .ok (.lreturn, 1) := by decide +kernel
theorem dJ9_abs_0f7a4_0 : decode cJ9_abs_0f7a4 0 = .ok (.iload_n 0, 1) := by decide +kernel
theorem dJ9_abs_0f7a4_1 : decode cJ9_abs_0f7a4 1 = .ok (.ifCond .ge 8, 3) := by decide +kernel
theorem dJ9_abs_0f7a4_4 : decode cJ9_abs_0f7a4 4 = .ok (.iload_n 0, 1) := by decide +kernel
theorem dJ9_abs_0f7a4_5 : decode cJ9_abs_0f7a4 5 = .ok (.ineg, 1) := by decide +kernel
theorem dJ9_abs_0f7a4_6 : decode cJ9_abs_0f7a4 6 = .ok (.goto 4, 3) := by decide +kernel
theorem dJ9_abs_0f7a4_9 : decode cJ9_abs_0f7a4 9 = .ok (.iload_n 0, 1) := by decide +kernel
theorem dJ9_abs_0f7a4_10 : decode cJ9_abs_0f7a4 10 = .ok (.ireturn, 1) := by decide +kernel
theorem dJ9_max_7cf53_0 : decode cJ9_max_7cf53 0 = .ok (.iload_n 0, 1) := by decide +kernel
theorem dJ9_max_7cf53_1 : decode cJ9_max_7cf53 1 = .ok (.iload_n 1, 1) := by decide +kernel
theorem dJ9_max_7cf53_2 : decode cJ9_max_7cf53 2 = .ok (.if_icmp .lt 7, 3) := by decide +kernel
theorem dJ9_max_7cf53_5 : decode cJ9_max_7cf53 5 = .ok (.iload_n 0, 1) := by decide +kernel
theorem dJ9_max_7cf53_6 : decode cJ9_max_7cf53 6 = .ok (.goto 4, 3) := by decide +kernel
theorem dJ9_max_7cf53_9 : decode cJ9_max_7cf53 9 = .ok (.iload_n 1, 1) := by decide +kernel
theorem dJ9_max_7cf53_10 : decode cJ9_max_7cf53 10 = .ok (.ireturn, 1) := by decide +kernel
theorem dJ9_max_f86c9_0 : decode cJ9_max_f86c9 0 = .ok (.lload_n 0, 1) := by decide +kernel
theorem dJ9_max_f86c9_1 : decode cJ9_max_f86c9 1 = .ok (.lload_n 2, 1) := by decide +kernel
theorem dJ9_max_f86c9_2 : decode cJ9_max_f86c9 2 = .ok (.lcmp, 1) := by decide +kernel
theorem dJ9_max_f86c9_3 : decode cJ9_max_f86c9 3 = .ok (.ifCond .lt 7, 3) := by decide +kernel
theorem dJ9_max_f86c9_6 : decode cJ9_max_f86c9 6 = .ok (.lload_n 0, 1) := by decide +kernel
theorem dJ9_max_f86c9_7 : decode cJ9_max_f86c9 7 = .ok (.goto 4, 3) := by decide +kernel
theorem dJ9_max_f86c9_10 : decode cJ9_max_f86c9 10 = .ok (.lload_n 2, 1) := by decide +kernel
theorem dJ9_max_f86c9_11 : decode cJ9_max_f86c9 11 = .ok (.lreturn, 1) := by decide +kernel
theorem dJ9_min_7cf53_0 : decode cJ9_min_7cf53 0 = .ok (.iload_n 0, 1) := by decide +kernel
theorem dJ9_min_7cf53_1 : decode cJ9_min_7cf53 1 = .ok (.iload_n 1, 1) := by decide +kernel
theorem dJ9_min_7cf53_2 : decode cJ9_min_7cf53 2 = .ok (.if_icmp .gt 7, 3) := by decide +kernel
theorem dJ9_min_7cf53_5 : decode cJ9_min_7cf53 5 = .ok (.iload_n 0, 1) := by decide +kernel
theorem dJ9_min_7cf53_6 : decode cJ9_min_7cf53 6 = .ok (.goto 4, 3) := by decide +kernel
theorem dJ9_min_7cf53_9 : decode cJ9_min_7cf53 9 = .ok (.iload_n 1, 1) := by decide +kernel
theorem dJ9_min_7cf53_10 : decode cJ9_min_7cf53 10 = .ok (.ireturn, 1) := by decide +kernel
theorem dJ9_min_f86c9_0 : decode cJ9_min_f86c9 0 = .ok (.lload_n 0, 1) := by decide +kernel
theorem dJ9_min_f86c9_1 : decode cJ9_min_f86c9 1 = .ok (.lload_n 2, 1) := by decide +kernel
theorem dJ9_min_f86c9_2 : decode cJ9_min_f86c9 2 = .ok (.lcmp, 1) := by decide +kernel
theorem dJ9_min_f86c9_3 : decode cJ9_min_f86c9 3 = .ok (.ifCond .gt 7, 3) := by decide +kernel
theorem dJ9_min_f86c9_6 : decode cJ9_min_f86c9 6 = .ok (.lload_n 0, 1) := by decide +kernel
theorem dJ9_min_f86c9_7 : decode cJ9_min_f86c9 7 = .ok (.goto 4, 3) := by decide +kernel
theorem dJ9_min_f86c9_10 : decode cJ9_min_f86c9 10 = .ok (.lload_n 2, 1) := by decide +kernel
theorem dJ9_min_f86c9_11 : decode cJ9_min_f86c9 11 = .ok (.lreturn, 1) := by decide +kernel

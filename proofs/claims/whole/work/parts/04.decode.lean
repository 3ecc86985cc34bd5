theorem dX0_init_0 : decode cX0_init 0 = .ok (.aload_n 0, 1) := by decide +kernel
theorem dX0_init_1 : decode cX0_init 1 = .ok (.invokespecial 3, 3) := by decide +kernel
theorem dX0_init_4 : decode cX0_init 4 = .ok (.aload_n 0, 1) := by decide +kernel
theorem dX0_init_5 : decode cX0_init 5 = .ok (.sipush 720, 3) := by decide +kernel
theorem dX0_init_8 : decode cX0_init 8 = .ok (.newarray .int, 2) := by decide +kernel
theorem dX0_init_10 : decode cX0_init 10 = .ok (.putfield 9, 3) := by decide +kernel
theorem dX0_init_13 : decode cX0_init 13 = .ok (.aload_n 0, 1) := by decide +kernel
theorem dX0_init_14 : decode cX0_init 14 = .ok (.bipush 6, 2) := by decide +kernel
theorem dX0_init_16 : decode cX0_init 16 = .ok (.newarray .int, 2) := by decide +kernel
theorem dX0_init_18 : decode cX0_init 18 = .ok (.putfield 15, 3) := by decide +kernel
theorem dX0_init_21 : decode cX0_init 21 = .ok (.return_, 1) := by decide +kernel
theorem dX0_load_0 : decode cX0_load 0 = .ok (.aload_n 0, 1) := by decide +kernel
theorem dX0_load_1 : decode cX0_load 1 = .ok (.aload_n 1, 1) := by decide +kernel
theorem dX0_load_2 : decode cX0_load 2 = .ok (.getfield 18, 3) := by decide +kernel
theorem dX0_load_5 : decode cX0_load 5 = .ok (.invokevirtual 24, 3) := by decide +kernel
theorem dX0_load_8 : decode cX0_load 8 = .ok (.aload_n 0, 1) := by decide +kernel
theorem dX0_load_9 : decode cX0_load 9 = .ok (.iconst 0, 1) := by decide +kernel
theorem dX0_load_10 : decode cX0_load 10 = .ok (.putfield 28, 3) := by decide +kernel
theorem dX0_load_13 : decode cX0_load 13 = .ok (.aload_n 0, 1) := by decide +kernel
theorem dX0_load_14 : decode cX0_load 14 = .ok (.iconst 0, 1) := by decide +kernel
theorem dX0_load_15 : decode cX0_load 15 = .ok (.putfield 31, 3) := by decide +kernel
theorem dX0_load_18 : decode cX0_load 18 = .ok (.aload_n 0, 1) := by decide +kernel
theorem dX0_load_19 : decode cX0_load 19 = .ok (.ldc 34, 2) := by decide +kernel
theorem dX0_load_21 : decode cX0_load 21 = .ok (.putfield 35, 3) := by decide +kernel
theorem dX0_load_24 : decode cX0_load 24 = .ok (.iconst 0, 1) := by decide +kernel
theorem dX0_load_25 : decode cX0_load 25 = .ok (.istore_n 2, 1) := by decide +kernel
theorem dX0_load_26 : decode cX0_load 26 = .ok (.iload_n 2, 1) := by decide +kernel
theorem dX0_load_27 : decode cX0_load 27 = .ok (.aload_n 0, 1) := by decide +kernel
theorem dX0_load_28 : decode cX0_load 28 = .ok (.getfield 38, 3) := by decide +kernel
theorem dX0_load_31 : decode cX0_load 31 = .ok (.if_icmp .ge 83, 3) := by decide +kernel
theorem dX0_load_34 : decode cX0_load 34 = .ok (.iconst (-1), 1) := by decide +kernel
theorem dX0_load_35 : decode cX0_load 35 = .ok (.istore_n 3, 1) := by decide +kernel
theorem dX0_load_36 : decode cX0_load 36 = .ok (.aload_n 1, 1) := by decide +kernel
theorem dX0_load_37 : decode cX0_load 37 = .ok (.aload_n 0, 1) := by decide +kernel
theorem dX0_load_38 : decode cX0_load 38 = .ok (.getfield 15, 3) := by decide +kernel
theorem dX0_load_41 : decode cX0_load 41 = .ok (.invokevirtual 41, 3) := by decide +kernel
theorem dX0_load_44 : decode cX0_load 44 = .ok (.ifCond .eq 44, 3) := by decide +kernel
theorem dX0_load_47 : decode cX0_load 47 = .ok (.aload_n 1, 1) := by decide +kernel
theorem dX0_load_48 : decode cX0_load 48 = .ok (.aload_n 0, 1) := by decide +kernel
theorem dX0_load_49 : decode cX0_load 49 = .ok (.getfield 15, 3) := by decide +kernel
theorem dX0_load_52 : decode cX0_load 52 = .ok (.invokevirtual 45, 3) := by decide +kernel
theorem dX0_load_55 : decode cX0_load 55 = .ok (.istore_n 3, 1) := by decide +kernel
theorem dX0_load_56 : decode cX0_load 56 = .ok (.aload_n 0, 1) := by decide +kernel
theorem dX0_load_57 : decode cX0_load 57 = .ok (.dup, 1) := by decide +kernel
theorem dX0_load_58 : decode cX0_load 58 = .ok (.getfield 28, 3) := by decide +kernel
theorem dX0_load_61 : decode cX0_load 61 = .ok (.iconst 1, 1) := by decide +kernel
theorem dX0_load_62 : decode cX0_load 62 = .ok (.iadd, 1) := by decide +kernel
theorem dX0_load_63 : decode cX0_load 63 = .ok (.putfield 28, 3) := by decide +kernel
theorem dX0_load_66 : decode cX0_load 66 = .ok (.aload_n 0, 1) := by decide +kernel
theorem dX0_load_67 : decode cX0_load 67 = .ok (.dup, 1) := by decide +kernel
theorem dX0_load_68 : decode cX0_load 68 = .ok (.getfield 31, 3) := by decide +kernel
theorem dX0_load_71 : decode cX0_load 71 = .ok (.iload_n 3, 1) := by decide +kernel
theorem dX0_load_72 : decode cX0_load 72 = .ok (.iadd, 1) := by decide +kernel
theorem dX0_load_73 : decode cX0_load 73 = .ok (.putfield 31, 3) := by decide +kernel
theorem dX0_load_76 : decode cX0_load 76 = .ok (.aload_n 0, 1) := by decide +kernel
theorem dX0_load_77 : decode cX0_load 77 = .ok (.aload_n 0, 1) := by decide +kernel
theorem dX0_load_78 : decode cX0_load 78 = .ok (.getfield 35, 3) := by decide +kernel
theorem dX0_load_81 : decode cX0_load 81 = .ok (.iload_n 3, 1) := by decide +kernel
theorem dX0_load_82 : decode cX0_load 82 = .ok (.invokestatic 49, 3) := by decide +kernel
theorem dX0_load_85 : decode cX0_load 85 = .ok (.putfield 35, 3) := by decide +kernel
theorem dX0_load_88 : decode cX0_load 88 = .ok (.aload_n 0, 1) := by decide +kernel
theorem dX0_load_89 : decode cX0_load 89 = .ok (.getfield 9, 3) := by decide +kernel
theorem dX0_load_92 : decode cX0_load 92 = .ok (.iload_n 2, 1) := by decide +kernel
theorem dX0_load_93 : decode cX0_load 93 = .ok (.iload_n 3, 1) := by decide +kernel
theorem dX0_load_94 : decode cX0_load 94 = .ok (.invokestatic 55, 3) := by decide +kernel
theorem dX0_load_97 : decode cX0_load 97 = .ok (.aload_n 0, 1) := by decide +kernel
theorem dX0_load_98 : decode cX0_load 98 = .ok (.getfield 15, 3) := by decide +kernel
theorem dX0_load_101 : decode cX0_load 101 = .ok (.aload_n 1, 1) := by decide +kernel
theorem dX0_load_102 : decode cX0_load 102 = .ok (.getfield 18, 3) := by decide +kernel
theorem dX0_load_105 : decode cX0_load 105 = .ok (.invokestatic 59, 3) := by decide +kernel
theorem dX0_load_108 : decode cX0_load 108 = .ok (.iinc 2 1, 3) := by decide +kernel
theorem dX0_load_111 : decode cX0_load 111 = .ok (.goto (-85), 3) := by decide +kernel
theorem dX0_load_114 : decode cX0_load 114 = .ok (.return_, 1) := by decide +kernel
theorem dX0_restart_0 : decode cX0_restart 0 = .ok (.aload_n 0, 1) := by decide +kernel
theorem dX0_restart_1 : decode cX0_restart 1 = .ok (.iload_n 1, 1) := by decide +kernel
theorem dX0_restart_2 : decode cX0_restart 2 = .ok (.invokestatic 63, 3) := by decide +kernel
theorem dX0_restart_5 : decode cX0_restart 5 = .ok (.putfield 38, 3) := by decide +kernel
theorem dX0_restart_8 : decode cX0_restart 8 = .ok (.iconst 0, 1) := by decide +kernel
theorem dX0_restart_9 : decode cX0_restart 9 = .ok (.istore_n 2, 1) := by decide +kernel
theorem dX0_restart_10 : decode cX0_restart 10 = .ok (.iload_n 2, 1) := by decide +kernel
theorem dX0_restart_11 : decode cX0_restart 11 = .ok (.bipush 6, 2) := by decide +kernel
theorem dX0_restart_13 : decode cX0_restart 13 = .ok (.if_icmp .ge 16, 3) := by decide +kernel
theorem dX0_restart_16 : decode cX0_restart 16 = .ok (.aload_n 0, 1) := by decide +kernel
theorem dX0_restart_17 : decode cX0_restart 17 = .ok (.getfield 15, 3) := by decide +kernel
theorem dX0_restart_20 : decode cX0_restart 20 = .ok (.iload_n 2, 1) := by decide +kernel
theorem dX0_restart_21 : decode cX0_restart 21 = .ok (.iload_n 2, 1) := by decide +kernel
theorem dX0_restart_22 : decode cX0_restart 22 = .ok (.iastore, 1) := by decide +kernel
theorem dX0_restart_23 : decode cX0_restart 23 = .ok (.iinc 2 1, 3) := by decide +kernel
theorem dX0_restart_26 : decode cX0_restart 26 = .ok (.goto (-16), 3) := by decide +kernel
theorem dX0_restart_29 : decode cX0_restart 29 = .ok (.return_, 1) := by decide +kernel
theorem dX0_countUpTo_0 : decode cX0_countUpTo 0 = .ok (.iconst 0, 1) := by decide +kernel
theorem dX0_countUpTo_1 : decode cX0_countUpTo 1 = .ok (.istore_n 2, 1) := by decide +kernel
theorem dX0_countUpTo_2 : decode cX0_countUpTo 2 = .ok (.iconst 0, 1) := by decide +kernel
theorem dX0_countUpTo_3 : decode cX0_countUpTo 3 = .ok (.istore_n 3, 1) := by decide +kernel
theorem dX0_countUpTo_4 : decode cX0_countUpTo 4 = .ok (.iload_n 3, 1) := by decide +kernel
theorem dX0_countUpTo_5 : decode cX0_countUpTo 5 = .ok (.aload_n 0, 1) := by decide +kernel
theorem dX0_countUpTo_6 : decode cX0_countUpTo 6 = .ok (.getfield 38, 3) := by decide +kernel
theorem dX0_countUpTo_9 : decode cX0_countUpTo 9 = .ok (.if_icmp .ge 34, 3) := by decide +kernel
theorem dX0_countUpTo_12 : decode cX0_countUpTo 12 = .ok (.aload_n 0, 1) := by decide +kernel
theorem dX0_countUpTo_13 : decode cX0_countUpTo 13 = .ok (.getfield 9, 3) := by decide +kernel
theorem dX0_countUpTo_16 : decode cX0_countUpTo 16 = .ok (.iload_n 3, 1) := by decide +kernel
theorem dX0_countUpTo_17 : decode cX0_countUpTo 17 = .ok (.invokestatic 67, 3) := by decide +kernel
theorem dX0_countUpTo_20 : decode cX0_countUpTo 20 = .ok (.istore 4, 2) := by decide +kernel
theorem dX0_countUpTo_22 : decode cX0_countUpTo 22 = .ok (.iload 4, 2) := by decide +kernel
theorem dX0_countUpTo_24 : decode cX0_countUpTo 24 = .ok (.iconst (-1), 1) := by decide +kernel
theorem dX0_countUpTo_25 : decode cX0_countUpTo 25 = .ok (.if_icmp .eq 12, 3) := by decide +kernel
theorem dX0_countUpTo_28 : decode cX0_countUpTo 28 = .ok (.iload 4, 2) := by decide +kernel
theorem dX0_countUpTo_30 : decode cX0_countUpTo 30 = .ok (.iload_n 1, 1) := by decide +kernel
theorem dX0_countUpTo_31 : decode cX0_countUpTo 31 = .ok (.if_icmp .gt 6, 3) := by decide +kernel
theorem dX0_countUpTo_34 : decode cX0_countUpTo 34 = .ok (.iinc 2 1, 3) := by decide +kernel
theorem dX0_countUpTo_37 : decode cX0_countUpTo 37 = .ok (.iinc 3 1, 3) := by decide +kernel
theorem dX0_countUpTo_40 : decode cX0_countUpTo 40 = .ok (.goto (-36), 3) := by decide +kernel
theorem dX0_countUpTo_43 : decode cX0_countUpTo 43 = .ok (.iload_n 2, 1) := by decide +kernel
theorem dX0_countUpTo_44 : decode cX0_countUpTo 44 = .ok (.ireturn, 1) := by decide +kernel
theorem dX0_cheapestAt_0 : decode cX0_cheapestAt 0 = .ok (.iconst 0, 1) := by decide +kernel
theorem dX0_cheapestAt_1 : decode cX0_cheapestAt 1 = .ok (.istore_n 2, 1) := by decide +kernel
theorem dX0_cheapestAt_2 : decode cX0_cheapestAt 2 = .ok (.iconst 0, 1) := by decide +kernel
theorem dX0_cheapestAt_3 : decode cX0_cheapestAt 3 = .ok (.istore_n 3, 1) := by decide +kernel
theorem dX0_cheapestAt_4 : decode cX0_cheapestAt 4 = .ok (.iload_n 3, 1) := by decide +kernel
theorem dX0_cheapestAt_5 : decode cX0_cheapestAt 5 = .ok (.aload_n 0, 1) := by decide +kernel
theorem dX0_cheapestAt_6 : decode cX0_cheapestAt 6 = .ok (.getfield 38, 3) := by decide +kernel
theorem dX0_cheapestAt_9 : decode cX0_cheapestAt 9 = .ok (.if_icmp .ge 34, 3) := by decide +kernel
theorem dX0_cheapestAt_12 : decode cX0_cheapestAt 12 = .ok (.aload_n 0, 1) := by decide +kernel
theorem dX0_cheapestAt_13 : decode cX0_cheapestAt 13 = .ok (.getfield 9, 3) := by decide +kernel
theorem dX0_cheapestAt_16 : decode cX0_cheapestAt 16 = .ok (.iload_n 3, 1) := by decide +kernel
theorem dX0_cheapestAt_17 : decode cX0_cheapestAt 17 = .ok (.invokestatic 67, 3) := by decide +kernel
theorem dX0_cheapestAt_20 : decode cX0_cheapestAt 20 = .ok (.aload_n 0, 1) := by decide +kernel
theorem dX0_cheapestAt_21 : decode cX0_cheapestAt 21 = .ok (.getfield 35, 3) := by decide +kernel
theorem dX0_cheapestAt_24 : decode cX0_cheapestAt 24 = .ok (.if_icmp .ne 13, 3) := by decide +kernel
theorem dX0_cheapestAt_27 : decode cX0_cheapestAt 27 = .ok (.iload_n 2, 1) := by decide +kernel
theorem dX0_cheapestAt_28 : decode cX0_cheapestAt 28 = .ok (.iload_n 1, 1) := by decide +kernel
theorem dX0_cheapestAt_29 : decode cX0_cheapestAt 29 = .ok (.if_icmp .ne 5, 3) := by decide +kernel
theorem dX0_cheapestAt_32 : decode cX0_cheapestAt 32 = .ok (.iload_n 3, 1) := by decide +kernel
theorem dX0_cheapestAt_33 : decode cX0_cheapestAt 33 = .ok (.ireturn, 1) := by decide +kernel
theorem dX0_cheapestAt_34 : decode cX0_cheapestAt 34 = .ok (.iinc 2 1, 3) := by decide +kernel
theorem dX0_cheapestAt_37 : decode cX0_cheapestAt 37 = .ok (.iinc 3 1, 3) := by decide +kernel
theorem dX0_cheapestAt_40 : decode cX0_cheapestAt 40 = .ok (.goto (-36), 3) := by decide +kernel
theorem dX0_cheapestAt_43 : decode cX0_cheapestAt 43 = .ok (.iconst (-1), 1) := by decide +kernel
theorem dX0_cheapestAt_44 : decode cX0_cheapestAt 44 = .ok (.ireturn, 1) := by decide +kernel
theorem dX0_countLocalOptima_0 : decode cX0_countLocalOptima 0 = .ok (.aload_n 0, 1) := by decide +kernel
theorem dX0_countLocalOptima_1 : decode cX0_countLocalOptima 1 = .ok (.aload_n 1, 1) := by decide +kernel
theorem dX0_countLocalOptima_2 : decode cX0_countLocalOptima 2 = .ok (.getfield 18, 3) := by decide +kernel
theorem dX0_countLocalOptima_5 : decode cX0_countLocalOptima 5 = .ok (.invokevirtual 24, 3) := by decide +kernel
theorem dX0_countLocalOptima_8 : decode cX0_countLocalOptima 8 = .ok (.iconst 0, 1) := by decide +kernel
theorem dX0_countLocalOptima_9 : decode cX0_countLocalOptima 9 = .ok (.istore_n 2, 1) := by decide +kernel
theorem dX0_countLocalOptima_10 : decode cX0_countLocalOptima 10 = .ok (.iconst 0, 1) := by decide +kernel
theorem dX0_countLocalOptima_11 : decode cX0_countLocalOptima 11 = .ok (.istore_n 3, 1) := by decide +kernel
theorem dX0_countLocalOptima_12 : decode cX0_countLocalOptima 12 = .ok (.iload_n 3, 1) := by decide +kernel
theorem dX0_countLocalOptima_13 : decode cX0_countLocalOptima 13 = .ok (.aload_n 0, 1) := by decide +kernel
theorem dX0_countLocalOptima_14 : decode cX0_countLocalOptima 14 = .ok (.getfield 38, 3) := by decide +kernel
theorem dX0_countLocalOptima_17 : decode cX0_countLocalOptima 17 = .ok (.if_icmp .ge 45, 3) := by decide +kernel
theorem dX0_countLocalOptima_20 : decode cX0_countLocalOptima 20 = .ok (.aload_n 1, 1) := by decide +kernel
theorem dX0_countLocalOptima_21 : decode cX0_countLocalOptima 21 = .ok (.aload_n 0, 1) := by decide +kernel
theorem dX0_countLocalOptima_22 : decode cX0_countLocalOptima 22 = .ok (.getfield 15, 3) := by decide +kernel
theorem dX0_countLocalOptima_25 : decode cX0_countLocalOptima 25 = .ok (.invokevirtual 41, 3) := by decide +kernel
theorem dX0_countLocalOptima_28 : decode cX0_countLocalOptima 28 = .ok (.ifCond .eq 17, 3) := by decide +kernel
theorem dX0_countLocalOptima_31 : decode cX0_countLocalOptima 31 = .ok (.aload_n 1, 1) := by decide +kernel
theorem dX0_countLocalOptima_32 : decode cX0_countLocalOptima 32 = .ok (.aload_n 0, 1) := by decide +kernel
theorem dX0_countLocalOptima_33 : decode cX0_countLocalOptima 33 = .ok (.getfield 15, 3) := by decide +kernel
theorem dX0_countLocalOptima_36 : decode cX0_countLocalOptima 36 = .ok (.invokevirtual 71, 3) := by decide +kernel
theorem dX0_countLocalOptima_39 : decode cX0_countLocalOptima 39 = .ok (.ifCond .eq 6, 3) := by decide +kernel
theorem dX0_countLocalOptima_42 : decode cX0_countLocalOptima 42 = .ok (.iinc 2 1, 3) := by decide +kernel
theorem dX0_countLocalOptima_45 : decode cX0_countLocalOptima 45 = .ok (.aload_n 0, 1) := by decide +kernel
theorem dX0_countLocalOptima_46 : decode cX0_countLocalOptima 46 = .ok (.getfield 15, 3) := by decide +kernel
theorem dX0_countLocalOptima_49 : decode cX0_countLocalOptima 49 = .ok (.aload_n 1, 1) := by decide +kernel
theorem dX0_countLocalOptima_50 : decode cX0_countLocalOptima 50 = .ok (.getfield 18, 3) := by decide +kernel
theorem dX0_countLocalOptima_53 : decode cX0_countLocalOptima 53 = .ok (.invokestatic 59, 3) := by decide +kernel
theorem dX0_countLocalOptima_56 : decode cX0_countLocalOptima 56 = .ok (.iinc 3 1, 3) := by decide +kernel
theorem dX0_countLocalOptima_59 : decode cX0_countLocalOptima 59 = .ok (.goto (-47), 3) := by decide +kernel
theorem dX0_countLocalOptima_62 : decode cX0_countLocalOptima 62 = .ok (.iload_n 2, 1) := by decide +kernel
theorem dX0_countLocalOptima_63 : decode cX0_countLocalOptima 63 = .ok (.ireturn, 1) := by decide +kernel
theorem dX1_init_0 : decode cX1_init 0 = .ok (.aload_n 0, 1) := by decide +kernel
theorem dX1_init_1 : decode cX1_init 1 = .ok (.invokespecial 3, 3) := by decide +kernel
theorem dX1_init_4 : decode cX1_init 4 = .ok (.aload_n 0, 1) := by decide +kernel
theorem dX1_init_5 : decode cX1_init 5 = .ok (.bipush 36, 2) := by decide +kernel
theorem dX1_init_7 : decode cX1_init 7 = .ok (.newarray .int, 2) := by decide +kernel
theorem dX1_init_9 : decode cX1_init 9 = .ok (.putfield 9, 3) := by decide +kernel
theorem dX1_init_12 : decode cX1_init 12 = .ok (.aload_n 0, 1) := by decide +kernel
theorem dX1_init_13 : decode cX1_init 13 = .ok (.bipush 6, 2) := by decide +kernel
theorem dX1_init_15 : decode cX1_init 15 = .ok (.newarray .int, 2) := by decide +kernel
theorem dX1_init_17 : decode cX1_init 17 = .ok (.putfield 15, 3) := by decide +kernel
theorem dX1_init_20 : decode cX1_init 20 = .ok (.aload_n 0, 1) := by decide +kernel
theorem dX1_init_21 : decode cX1_init 21 = .ok (.bipush 36, 2) := by decide +kernel
theorem dX1_init_23 : decode cX1_init 23 = .ok (.newarray .int, 2) := by decide +kernel
theorem dX1_init_25 : decode cX1_init 25 = .ok (.putfield 18, 3) := by decide +kernel
theorem dX1_init_28 : decode cX1_init 28 = .ok (.aload_n 0, 1) := by decide +kernel
theorem dX1_init_29 : decode cX1_init 29 = .ok (.bipush 36, 2) := by decide +kernel
theorem dX1_init_31 : decode cX1_init 31 = .ok (.newarray .int, 2) := by decide +kernel
theorem dX1_init_33 : decode cX1_init 33 = .ok (.putfield 21, 3) := by decide +kernel
theorem dX1_init_36 : decode cX1_init 36 = .ok (.aload_n 0, 1) := by decide +kernel
theorem dX1_init_37 : decode cX1_init 37 = .ok (.bipush 64, 2) := by decide +kernel
theorem dX1_init_39 : decode cX1_init 39 = .ok (.newarray .int, 2) := by decide +kernel
theorem dX1_init_41 : decode cX1_init 41 = .ok (.putfield 24, 3) := by decide +kernel
theorem dX1_init_44 : decode cX1_init 44 = .ok (.return_, 1) := by decide +kernel
theorem dX1_load_0 : decode cX1_load 0 = .ok (.aload_n 0, 1) := by decide +kernel
theorem dX1_load_1 : decode cX1_load 1 = .ok (.aload_n 1, 1) := by decide +kernel
theorem dX1_load_2 : decode cX1_load 2 = .ok (.getfield 27, 3) := by decide +kernel
theorem dX1_load_5 : decode cX1_load 5 = .ok (.putfield 33, 3) := by decide +kernel
theorem dX1_load_8 : decode cX1_load 8 = .ok (.aload_n 0, 1) := by decide +kernel
theorem dX1_load_9 : decode cX1_load 9 = .ok (.aload_n 1, 1) := by decide +kernel
theorem dX1_load_10 : decode cX1_load 10 = .ok (.aload_n 2, 1) := by decide +kernel
theorem dX1_load_11 : decode cX1_load 11 = .ok (.invokevirtual 34, 3) := by decide +kernel
theorem dX1_load_14 : decode cX1_load 14 = .ok (.putfield 38, 3) := by decide +kernel
theorem dX1_load_17 : decode cX1_load 17 = .ok (.aload_n 0, 1) := by decide +kernel
theorem dX1_load_18 : decode cX1_load 18 = .ok (.aload_n 2, 1) := by decide +kernel
theorem dX1_load_19 : decode cX1_load 19 = .ok (.invokevirtual 41, 3) := by decide +kernel
theorem dX1_load_22 : decode cX1_load 22 = .ok (.iconst 0, 1) := by decide +kernel
theorem dX1_load_23 : decode cX1_load 23 = .ok (.istore_n 3, 1) := by decide +kernel
theorem dX1_load_24 : decode cX1_load 24 = .ok (.iload_n 3, 1) := by decide +kernel
theorem dX1_load_25 : decode cX1_load 25 = .ok (.aload_n 0, 1) := by decide +kernel
theorem dX1_load_26 : decode cX1_load 26 = .ok (.getfield 33, 3) := by decide +kernel
theorem dX1_load_29 : decode cX1_load 29 = .ok (.if_icmp .ge 43, 3) := by decide +kernel
theorem dX1_load_32 : decode cX1_load 32 = .ok (.aload_n 0, 1) := by decide +kernel
theorem dX1_load_33 : decode cX1_load 33 = .ok (.aload_n 1, 1) := by decide +kernel
theorem dX1_load_34 : decode cX1_load 34 = .ok (.getfield 45, 3) := by decide +kernel
theorem dX1_load_37 : decode cX1_load 37 = .ok (.iload_n 3, 1) := by decide +kernel
theorem dX1_load_38 : decode cX1_load 38 = .ok (.aload_n 0, 1) := by decide +kernel
theorem dX1_load_39 : decode cX1_load 39 = .ok (.getfield 48, 3) := by decide +kernel
theorem dX1_load_42 : decode cX1_load 42 = .ok (.aload_n 0, 1) := by decide +kernel
theorem dX1_load_43 : decode cX1_load 43 = .ok (.getfield 18, 3) := by decide +kernel
theorem dX1_load_46 : decode cX1_load 46 = .ok (.invokevirtual 51, 3) := by decide +kernel
theorem dX1_load_49 : decode cX1_load 49 = .ok (.aload_n 0, 1) := by decide +kernel
theorem dX1_load_50 : decode cX1_load 50 = .ok (.aload_n 1, 1) := by decide +kernel
theorem dX1_load_51 : decode cX1_load 51 = .ok (.getfield 55, 3) := by decide +kernel
theorem dX1_load_54 : decode cX1_load 54 = .ok (.iload_n 3, 1) := by decide +kernel
theorem dX1_load_55 : decode cX1_load 55 = .ok (.aload_n 0, 1) := by decide +kernel
theorem dX1_load_56 : decode cX1_load 56 = .ok (.getfield 58, 3) := by decide +kernel
theorem dX1_load_59 : decode cX1_load 59 = .ok (.aload_n 0, 1) := by decide +kernel
theorem dX1_load_60 : decode cX1_load 60 = .ok (.getfield 21, 3) := by decide +kernel
theorem dX1_load_63 : decode cX1_load 63 = .ok (.invokevirtual 51, 3) := by decide +kernel
theorem dX1_load_66 : decode cX1_load 66 = .ok (.iinc 3 1, 3) := by decide +kernel
theorem dX1_load_69 : decode cX1_load 69 = .ok (.goto (-45), 3) := by decide +kernel
theorem dX1_load_72 : decode cX1_load 72 = .ok (.iconst 0, 1) := by decide +kernel
theorem dX1_load_73 : decode cX1_load 73 = .ok (.istore_n 3, 1) := by decide +kernel
theorem dX1_load_74 : decode cX1_load 74 = .ok (.iload_n 3, 1) := by decide +kernel
theorem dX1_load_75 : decode cX1_load 75 = .ok (.aload_n 0, 1) := by decide +kernel
theorem dX1_load_76 : decode cX1_load 76 = .ok (.getfield 33, 3) := by decide +kernel
theorem dX1_load_79 : decode cX1_load 79 = .ok (.if_icmp .ge 77, 3) := by decide +kernel
theorem dX1_load_82 : decode cX1_load 82 = .ok (.iconst 0, 1) := by decide +kernel
theorem dX1_load_83 : decode cX1_load 83 = .ok (.istore 4, 2) := by decide +kernel
theorem dX1_load_85 : decode cX1_load 85 = .ok (.iload 4, 2) := by decide +kernel
theorem dX1_load_87 : decode cX1_load 87 = .ok (.aload_n 0, 1) := by decide +kernel
theorem dX1_load_88 : decode cX1_load 88 = .ok (.getfield 33, 3) := by decide +kernel
theorem dX1_load_91 : decode cX1_load 91 = .ok (.if_icmp .ge 59, 3) := by decide +kernel
theorem dX1_load_94 : decode cX1_load 94 = .ok (.aload_n 0, 1) := by decide +kernel
theorem dX1_load_95 : decode cX1_load 95 = .ok (.getfield 48, 3) := by decide +kernel
theorem dX1_load_98 : decode cX1_load 98 = .ok (.iload_n 3, 1) := by decide +kernel
theorem dX1_load_99 : decode cX1_load 99 = .ok (.invokestatic 61, 3) := by decide +kernel
theorem dX1_load_102 : decode cX1_load 102 = .ok (.ifCond .eq 42, 3) := by decide +kernel
theorem dX1_load_105 : decode cX1_load 105 = .ok (.aload_n 0, 1) := by decide +kernel
theorem dX1_load_106 : decode cX1_load 106 = .ok (.getfield 58, 3) := by decide +kernel
theorem dX1_load_109 : decode cX1_load 109 = .ok (.iload 4, 2) := by decide +kernel
theorem dX1_load_111 : decode cX1_load 111 = .ok (.invokestatic 61, 3) := by decide +kernel
theorem dX1_load_114 : decode cX1_load 114 = .ok (.ifCond .eq 30, 3) := by decide +kernel
theorem dX1_load_117 : decode cX1_load 117 = .ok (.aload_n 0, 1) := by decide +kernel
theorem dX1_load_118 : decode cX1_load 118 = .ok (.getfield 9, 3) := by decide +kernel
theorem dX1_load_121 : decode cX1_load 121 = .ok (.iload_n 3, 1) := by decide +kernel
theorem dX1_load_122 : decode cX1_load 122 = .ok (.iload 4, 2) := by decide +kernel
theorem dX1_load_124 : decode cX1_load 124 = .ok (.aload_n 0, 1) := by decide +kernel
theorem dX1_load_125 : decode cX1_load 125 = .ok (.aload_n 1, 1) := by decide +kernel
theorem dX1_load_126 : decode cX1_load 126 = .ok (.aload_n 2, 1) := by decide +kernel
theorem dX1_load_127 : decode cX1_load 127 = .ok (.iload_n 3, 1) := by decide +kernel
theorem dX1_load_128 : decode cX1_load 128 = .ok (.iload 4, 2) := by decide +kernel
theorem dX1_load_130 : decode cX1_load 130 = .ok (.invokevirtual 65, 3) := by decide +kernel
theorem dX1_load_133 : decode cX1_load 133 = .ok (.aload_n 0, 1) := by decide +kernel
theorem dX1_load_134 : decode cX1_load 134 = .ok (.iload_n 3, 1) := by decide +kernel
theorem dX1_load_135 : decode cX1_load 135 = .ok (.iload 4, 2) := by decide +kernel
theorem dX1_load_137 : decode cX1_load 137 = .ok (.invokevirtual 69, 3) := by decide +kernel
theorem dX1_load_140 : decode cX1_load 140 = .ok (.iadd, 1) := by decide +kernel
theorem dX1_load_141 : decode cX1_load 141 = .ok (.invokestatic 73, 3) := by decide +kernel
theorem dX1_load_144 : decode cX1_load 144 = .ok (.iinc 4 1, 3) := by decide +kernel
theorem dX1_load_147 : decode cX1_load 147 = .ok (.goto (-62), 3) := by decide +kernel
theorem dX1_load_150 : decode cX1_load 150 = .ok (.iinc 3 1, 3) := by decide +kernel
theorem dX1_load_153 : decode cX1_load 153 = .ok (.goto (-79), 3) := by decide +kernel
theorem dX1_load_156 : decode cX1_load 156 = .ok (.return_, 1) := by decide +kernel
theorem dX1_collectFree_0 : decode cX1_collectFree 0 = .ok (.aload_n 0, 1) := by decide +kernel
theorem dX1_collectFree_1 : decode cX1_collectFree 1 = .ok (.iconst 1, 1) := by decide +kernel
theorem dX1_collectFree_2 : decode cX1_collectFree 2 = .ok (.aload_n 0, 1) := by decide +kernel
theorem dX1_collectFree_3 : decode cX1_collectFree 3 = .ok (.getfield 33, 3) := by decide +kernel
theorem dX1_collectFree_6 : decode cX1_collectFree 6 = .ok (.ishl, 1) := by decide +kernel
theorem dX1_collectFree_7 : decode cX1_collectFree 7 = .ok (.iconst 1, 1) := by decide +kernel
theorem dX1_collectFree_8 : decode cX1_collectFree 8 = .ok (.isub, 1) := by decide +kernel
theorem dX1_collectFree_9 : decode cX1_collectFree 9 = .ok (.aload_n 1, 1) := by decide +kernel
theorem dX1_collectFree_10 : decode cX1_collectFree 10 = .ok (.invokestatic 77, 3) := by decide +kernel
theorem dX1_collectFree_13 : decode cX1_collectFree 13 = .ok (.iconst (-1), 1) := by decide +kernel
theorem dX1_collectFree_14 : decode cX1_collectFree 14 = .ok (.ixor, 1) := by decide +kernel
theorem dX1_collectFree_15 : decode cX1_collectFree 15 = .ok (.iand, 1) := by decide +kernel
theorem dX1_collectFree_16 : decode cX1_collectFree 16 = .ok (.putfield 58, 3) := by decide +kernel
theorem dX1_collectFree_19 : decode cX1_collectFree 19 = .ok (.aload_n 0, 1) := by decide +kernel
theorem dX1_collectFree_20 : decode cX1_collectFree 20 = .ok (.iconst 0, 1) := by decide +kernel
theorem dX1_collectFree_21 : decode cX1_collectFree 21 = .ok (.putfield 48, 3) := by decide +kernel
theorem dX1_collectFree_24 : decode cX1_collectFree 24 = .ok (.aload_n 0, 1) := by decide +kernel
theorem dX1_collectFree_25 : decode cX1_collectFree 25 = .ok (.iconst 0, 1) := by decide +kernel
theorem dX1_collectFree_26 : decode cX1_collectFree 26 = .ok (.putfield 80, 3) := by decide +kernel
theorem dX1_collectFree_29 : decode cX1_collectFree 29 = .ok (.iconst 0, 1) := by decide +kernel
theorem dX1_collectFree_30 : decode cX1_collectFree 30 = .ok (.istore_n 2, 1) := by decide +kernel
theorem dX1_collectFree_31 : decode cX1_collectFree 31 = .ok (.iload_n 2, 1) := by decide +kernel
theorem dX1_collectFree_32 : decode cX1_collectFree 32 = .ok (.aload_n 0, 1) := by decide +kernel
theorem dX1_collectFree_33 : decode cX1_collectFree 33 = .ok (.getfield 33, 3) := by decide +kernel
theorem dX1_collectFree_36 : decode cX1_collectFree 36 = .ok (.if_icmp .ge 52, 3) := by decide +kernel
theorem dX1_collectFree_39 : decode cX1_collectFree 39 = .ok (.aload_n 1, 1) := by decide +kernel
theorem dX1_collectFree_40 : decode cX1_collectFree 40 = .ok (.iload_n 2, 1) := by decide +kernel
theorem dX1_collectFree_41 : decode cX1_collectFree 41 = .ok (.invokestatic 83, 3) := by decide +kernel
theorem dX1_collectFree_44 : decode cX1_collectFree 44 = .ok (.iconst (-1), 1) := by decide +kernel
theorem dX1_collectFree_45 : decode cX1_collectFree 45 = .ok (.if_icmp .ne 37, 3) := by decide +kernel
theorem dX1_collectFree_48 : decode cX1_collectFree 48 = .ok (.aload_n 0, 1) := by decide +kernel
theorem dX1_collectFree_49 : decode cX1_collectFree 49 = .ok (.dup, 1) := by decide +kernel
theorem dX1_collectFree_50 : decode cX1_collectFree 50 = .ok (.getfield 48, 3) := by decide +kernel
theorem dX1_collectFree_53 : decode cX1_collectFree 53 = .ok (.iconst 1, 1) := by decide +kernel
theorem dX1_collectFree_54 : decode cX1_collectFree 54 = .ok (.iload_n 2, 1) := by decide +kernel
theorem dX1_collectFree_55 : decode cX1_collectFree 55 = .ok (.ishl, 1) := by decide +kernel
theorem dX1_collectFree_56 : decode cX1_collectFree 56 = .ok (.ior, 1) := by decide +kernel
theorem dX1_collectFree_57 : decode cX1_collectFree 57 = .ok (.putfield 48, 3) := by decide +kernel
theorem dX1_collectFree_60 : decode cX1_collectFree 60 = .ok (.aload_n 0, 1) := by decide +kernel
theorem dX1_collectFree_61 : decode cX1_collectFree 61 = .ok (.getfield 15, 3) := by decide +kernel
theorem dX1_collectFree_64 : decode cX1_collectFree 64 = .ok (.aload_n 0, 1) := by decide +kernel
theorem dX1_collectFree_65 : decode cX1_collectFree 65 = .ok (.getfield 80, 3) := by decide +kernel
theorem dX1_collectFree_68 : decode cX1_collectFree 68 = .ok (.iload_n 2, 1) := by decide +kernel
theorem dX1_collectFree_69 : decode cX1_collectFree 69 = .ok (.invokestatic 87, 3) := by decide +kernel
theorem dX1_collectFree_72 : decode cX1_collectFree 72 = .ok (.aload_n 0, 1) := by decide +kernel
theorem dX1_collectFree_73 : decode cX1_collectFree 73 = .ok (.dup, 1) := by decide +kernel
theorem dX1_collectFree_74 : decode cX1_collectFree 74 = .ok (.getfield 80, 3) := by decide +kernel
theorem dX1_collectFree_77 : decode cX1_collectFree 77 = .ok (.iconst 1, 1) := by decide +kernel
theorem dX1_collectFree_78 : decode cX1_collectFree 78 = .ok (.iadd, 1) := by decide +kernel
theorem dX1_collectFree_79 : decode cX1_collectFree 79 = .ok (.putfield 80, 3) := by decide +kernel
theorem dX1_collectFree_82 : decode cX1_collectFree 82 = .ok (.iinc 2 1, 3) := by decide +kernel
theorem dX1_collectFree_85 : decode cX1_collectFree 85 = .ok (.goto (-54), 3) := by decide +kernel
theorem dX1_collectFree_88 : decode cX1_collectFree 88 = .ok (.return_, 1) := by decide +kernel
theorem dX1_sortRow_0 : decode cX1_sortRow 0 = .ok (.iload_n 3, 1) := by decide +kernel
theorem dX1_sortRow_1 : decode cX1_sortRow 1 = .ok (.iload_n 2, 1) := by decide +kernel
theorem dX1_sortRow_2 : decode cX1_sortRow 2 = .ok (.invokestatic 61, 3) := by decide +kernel
theorem dX1_sortRow_5 : decode cX1_sortRow 5 = .ok (.ifCond .ne 4, 3) := by decide +kernel
theorem dX1_sortRow_8 : decode cX1_sortRow 8 = .ok (.return_, 1) := by decide +kernel
theorem dX1_sortRow_9 : decode cX1_sortRow 9 = .ok (.iconst 0, 1) := by decide +kernel
theorem dX1_sortRow_10 : decode cX1_sortRow 10 = .ok (.istore 5, 2) := by decide +kernel
theorem dX1_sortRow_12 : decode cX1_sortRow 12 = .ok (.iconst 0, 1) := by decide +kernel
theorem dX1_sortRow_13 : decode cX1_sortRow 13 = .ok (.istore 6, 2) := by decide +kernel
theorem dX1_sortRow_15 : decode cX1_sortRow 15 = .ok (.iload 6, 2) := by decide +kernel
theorem dX1_sortRow_17 : decode cX1_sortRow 17 = .ok (.aload_n 0, 1) := by decide +kernel
theorem dX1_sortRow_18 : decode cX1_sortRow 18 = .ok (.getfield 33, 3) := by decide +kernel
theorem dX1_sortRow_21 : decode cX1_sortRow 21 = .ok (.if_icmp .ge 97, 3) := by decide +kernel
theorem dX1_sortRow_24 : decode cX1_sortRow 24 = .ok (.iload 6, 2) := by decide +kernel
theorem dX1_sortRow_26 : decode cX1_sortRow 26 = .ok (.iload_n 2, 1) := by decide +kernel
theorem dX1_sortRow_27 : decode cX1_sortRow 27 = .ok (.if_icmp .eq 85, 3) := by decide +kernel
theorem dX1_sortRow_30 : decode cX1_sortRow 30 = .ok (.iload_n 3, 1) := by decide +kernel
theorem dX1_sortRow_31 : decode cX1_sortRow 31 = .ok (.iload 6, 2) := by decide +kernel
theorem dX1_sortRow_33 : decode cX1_sortRow 33 = .ok (.invokestatic 61, 3) := by decide +kernel
theorem dX1_sortRow_36 : decode cX1_sortRow 36 = .ok (.ifCond .ne 6, 3) := by decide +kernel
theorem dX1_sortRow_39 : decode cX1_sortRow 39 = .ok (.goto 73, 3) := by decide +kernel
theorem dX1_sortRow_42 : decode cX1_sortRow 42 = .ok (.aload_n 1, 1) := by decide +kernel
theorem dX1_sortRow_43 : decode cX1_sortRow 43 = .ok (.iload_n 2, 1) := by decide +kernel
theorem dX1_sortRow_44 : decode cX1_sortRow 44 = .ok (.iload 6, 2) := by decide +kernel
theorem dX1_sortRow_46 : decode cX1_sortRow 46 = .ok (.invokestatic 91, 3) := by decide +kernel
theorem dX1_sortRow_49 : decode cX1_sortRow 49 = .ok (.istore 7, 2) := by decide +kernel
theorem dX1_sortRow_51 : decode cX1_sortRow 51 = .ok (.iload 5, 2) := by decide +kernel
theorem dX1_sortRow_53 : decode cX1_sortRow 53 = .ok (.istore 8, 2) := by decide +kernel
theorem dX1_sortRow_55 : decode cX1_sortRow 55 = .ok (.iload 8, 2) := by decide +kernel
theorem dX1_sortRow_57 : decode cX1_sortRow 57 = .ok (.ifCond .le 42, 3) := by decide +kernel
theorem dX1_sortRow_60 : decode cX1_sortRow 60 = .ok (.aload 4, 2) := by decide +kernel
theorem dX1_sortRow_62 : decode cX1_sortRow 62 = .ok (.iload_n 2, 1) := by decide +kernel
theorem dX1_sortRow_63 : decode cX1_sortRow 63 = .ok (.iload 8, 2) := by decide +kernel
theorem dX1_sortRow_65 : decode cX1_sortRow 65 = .ok (.iconst 1, 1) := by decide +kernel
theorem dX1_sortRow_66 : decode cX1_sortRow 66 = .ok (.isub, 1) := by decide +kernel
theorem dX1_sortRow_67 : decode cX1_sortRow 67 = .ok (.invokestatic 91, 3) := by decide +kernel
theorem dX1_sortRow_70 : decode cX1_sortRow 70 = .ok (.iload 7, 2) := by decide +kernel
theorem dX1_sortRow_72 : decode cX1_sortRow 72 = .ok (.if_icmp .le 27, 3) := by decide +kernel
theorem dX1_sortRow_75 : decode cX1_sortRow 75 = .ok (.aload 4, 2) := by decide +kernel
theorem dX1_sortRow_77 : decode cX1_sortRow 77 = .ok (.iload_n 2, 1) := by decide +kernel
theorem dX1_sortRow_78 : decode cX1_sortRow 78 = .ok (.iload 8, 2) := by decide +kernel
theorem dX1_sortRow_80 : decode cX1_sortRow 80 = .ok (.aload 4, 2) := by decide +kernel
theorem dX1_sortRow_82 : decode cX1_sortRow 82 = .ok (.iload_n 2, 1) := by decide +kernel
theorem dX1_sortRow_83 : decode cX1_sortRow 83 = .ok (.iload 8, 2) := by decide +kernel
theorem dX1_sortRow_85 : decode cX1_sortRow 85 = .ok (.iconst 1, 1) := by decide +kernel
theorem dX1_sortRow_86 : decode cX1_sortRow 86 = .ok (.isub, 1) := by decide +kernel
theorem dX1_sortRow_87 : decode cX1_sortRow 87 = .ok (.invokestatic 91, 3) := by decide +kernel
theorem dX1_sortRow_90 : decode cX1_sortRow 90 = .ok (.invokestatic 73, 3) := by decide +kernel
theorem dX1_sortRow_93 : decode cX1_sortRow 93 = .ok (.iinc 8 (-1), 3) := by decide +kernel
theorem dX1_sortRow_96 : decode cX1_sortRow 96 = .ok (.goto (-41), 3) := by decide +kernel
theorem dX1_sortRow_99 : decode cX1_sortRow 99 = .ok (.aload 4, 2) := by decide +kernel
theorem dX1_sortRow_101 : decode cX1_sortRow 101 = .ok (.iload_n 2, 1) := by decide +kernel
theorem dX1_sortRow_102 : decode cX1_sortRow 102 = .ok (.iload 8, 2) := by decide +kernel
theorem dX1_sortRow_104 : decode cX1_sortRow 104 = .ok (.iload 7, 2) := by decide +kernel
theorem dX1_sortRow_106 : decode cX1_sortRow 106 = .ok (.invokestatic 73, 3) := by decide +kernel
theorem dX1_sortRow_109 : decode cX1_sortRow 109 = .ok (.iinc 5 1, 3) := by decide +kernel
theorem dX1_sortRow_112 : decode cX1_sortRow 112 = .ok (.iinc 6 1, 3) := by decide +kernel
theorem dX1_sortRow_115 : decode cX1_sortRow 115 = .ok (.goto (-100), 3) := by decide +kernel
theorem dX1_sortRow_118 : decode cX1_sortRow 118 = .ok (.return_, 1) := by decide +kernel
theorem dX1_linear_0 : decode cX1_linear 0 = .ok (.aload_n 1, 1) := by decide +kernel
theorem dX1_linear_1 : decode cX1_linear 1 = .ok (.getfield 95, 3) := by decide +kernel
theorem dX1_linear_4 : decode cX1_linear 4 = .ok (.iload_n 3, 1) := by decide +kernel
theorem dX1_linear_5 : decode cX1_linear 5 = .ok (.iload 4, 2) := by decide +kernel
theorem dX1_linear_7 : decode cX1_linear 7 = .ok (.invokestatic 91, 3) := by decide +kernel
theorem dX1_linear_10 : decode cX1_linear 10 = .ok (.aload_n 1, 1) := by decide +kernel
theorem dX1_linear_11 : decode cX1_linear 11 = .ok (.getfield 45, 3) := by decide +kernel
theorem dX1_linear_14 : decode cX1_linear 14 = .ok (.iload_n 3, 1) := by decide +kernel
theorem dX1_linear_15 : decode cX1_linear 15 = .ok (.iload_n 3, 1) := by decide +kernel
theorem dX1_linear_16 : decode cX1_linear 16 = .ok (.invokestatic 91, 3) := by decide +kernel
theorem dX1_linear_19 : decode cX1_linear 19 = .ok (.aload_n 1, 1) := by decide +kernel
theorem dX1_linear_20 : decode cX1_linear 20 = .ok (.getfield 55, 3) := by decide +kernel
theorem dX1_linear_23 : decode cX1_linear 23 = .ok (.iload 4, 2) := by decide +kernel
theorem dX1_linear_25 : decode cX1_linear 25 = .ok (.iload 4, 2) := by decide +kernel
theorem dX1_linear_27 : decode cX1_linear 27 = .ok (.invokestatic 91, 3) := by decide +kernel
theorem dX1_linear_30 : decode cX1_linear 30 = .ok (.imul, 1) := by decide +kernel
theorem dX1_linear_31 : decode cX1_linear 31 = .ok (.iadd, 1) := by decide +kernel
theorem dX1_linear_32 : decode cX1_linear 32 = .ok (.istore 5, 2) := by decide +kernel
theorem dX1_linear_34 : decode cX1_linear 34 = .ok (.iconst 0, 1) := by decide +kernel
theorem dX1_linear_35 : decode cX1_linear 35 = .ok (.istore 6, 2) := by decide +kernel
theorem dX1_linear_37 : decode cX1_linear 37 = .ok (.iload 6, 2) := by decide +kernel
theorem dX1_linear_39 : decode cX1_linear 39 = .ok (.aload_n 0, 1) := by decide +kernel
theorem dX1_linear_40 : decode cX1_linear 40 = .ok (.getfield 33, 3) := by decide +kernel
theorem dX1_linear_43 : decode cX1_linear 43 = .ok (.if_icmp .ge 77, 3) := by decide +kernel
theorem dX1_linear_46 : decode cX1_linear 46 = .ok (.aload_n 2, 1) := by decide +kernel
theorem dX1_linear_47 : decode cX1_linear 47 = .ok (.iload 6, 2) := by decide +kernel
theorem dX1_linear_49 : decode cX1_linear 49 = .ok (.invokestatic 83, 3) := by decide +kernel
theorem dX1_linear_52 : decode cX1_linear 52 = .ok (.istore 7, 2) := by decide +kernel
theorem dX1_linear_54 : decode cX1_linear 54 = .ok (.iload 7, 2) := by decide +kernel
theorem dX1_linear_56 : decode cX1_linear 56 = .ok (.iconst (-1), 1) := by decide +kernel
theorem dX1_linear_57 : decode cX1_linear 57 = .ok (.if_icmp .eq 57, 3) := by decide +kernel
theorem dX1_linear_60 : decode cX1_linear 60 = .ok (.iload 5, 2) := by decide +kernel
theorem dX1_linear_62 : decode cX1_linear 62 = .ok (.aload_n 1, 1) := by decide +kernel
theorem dX1_linear_63 : decode cX1_linear 63 = .ok (.getfield 45, 3) := by decide +kernel
theorem dX1_linear_66 : decode cX1_linear 66 = .ok (.iload_n 3, 1) := by decide +kernel
theorem dX1_linear_67 : decode cX1_linear 67 = .ok (.iload 6, 2) := by decide +kernel
theorem dX1_linear_69 : decode cX1_linear 69 = .ok (.invokestatic 91, 3) := by decide +kernel
theorem dX1_linear_72 : decode cX1_linear 72 = .ok (.aload_n 1, 1) := by decide +kernel
theorem dX1_linear_73 : decode cX1_linear 73 = .ok (.getfield 55, 3) := by decide +kernel
theorem dX1_linear_76 : decode cX1_linear 76 = .ok (.iload 4, 2) := by decide +kernel
theorem dX1_linear_78 : decode cX1_linear 78 = .ok (.iload 7, 2) := by decide +kernel
theorem dX1_linear_80 : decode cX1_linear 80 = .ok (.invokestatic 91, 3) := by decide +kernel
theorem dX1_linear_83 : decode cX1_linear 83 = .ok (.imul, 1) := by decide +kernel
theorem dX1_linear_84 : decode cX1_linear 84 = .ok (.iadd, 1) := by decide +kernel
theorem dX1_linear_85 : decode cX1_linear 85 = .ok (.istore 5, 2) := by decide +kernel
theorem dX1_linear_87 : decode cX1_linear 87 = .ok (.iload 5, 2) := by decide +kernel
theorem dX1_linear_89 : decode cX1_linear 89 = .ok (.aload_n 1, 1) := by decide +kernel
theorem dX1_linear_90 : decode cX1_linear 90 = .ok (.getfield 45, 3) := by decide +kernel
theorem dX1_linear_93 : decode cX1_linear 93 = .ok (.iload 6, 2) := by decide +kernel
theorem dX1_linear_95 : decode cX1_linear 95 = .ok (.iload_n 3, 1) := by decide +kernel
theorem dX1_linear_96 : decode cX1_linear 96 = .ok (.invokestatic 91, 3) := by decide +kernel
theorem dX1_linear_99 : decode cX1_linear 99 = .ok (.aload_n 1, 1) := by decide +kernel
theorem dX1_linear_100 : decode cX1_linear 100 = .ok (.getfield 55, 3) := by decide +kernel
theorem dX1_linear_103 : decode cX1_linear 103 = .ok (.iload 7, 2) := by decide +kernel
theorem dX1_linear_105 : decode cX1_linear 105 = .ok (.iload 4, 2) := by decide +kernel
theorem dX1_linear_107 : decode cX1_linear 107 = .ok (.invokestatic 91, 3) := by decide +kernel
theorem dX1_linear_110 : decode cX1_linear 110 = .ok (.imul, 1) := by decide +kernel
theorem dX1_linear_111 : decode cX1_linear 111 = .ok (.iadd, 1) := by decide +kernel
theorem dX1_linear_112 : decode cX1_linear 112 = .ok (.istore 5, 2) := by decide +kernel
theorem dX1_linear_114 : decode cX1_linear 114 = .ok (.iinc 6 1, 3) := by decide +kernel
theorem dX1_linear_117 : decode cX1_linear 117 = .ok (.goto (-80), 3) := by decide +kernel
theorem dX1_linear_120 : decode cX1_linear 120 = .ok (.iload 5, 2) := by decide +kernel
theorem dX1_linear_122 : decode cX1_linear 122 = .ok (.ireturn, 1) := by decide +kernel
theorem dX1_leastProduct_0 : decode cX1_leastProduct 0 = .ok (.iconst 0, 1) := by decide +kernel
theorem dX1_leastProduct_1 : decode cX1_leastProduct 1 = .ok (.istore_n 3, 1) := by decide +kernel
theorem dX1_leastProduct_2 : decode cX1_leastProduct 2 = .ok (.iconst 0, 1) := by decide +kernel
theorem dX1_leastProduct_3 : decode cX1_leastProduct 3 = .ok (.istore 4, 2) := by decide +kernel
theorem dX1_leastProduct_5 : decode cX1_leastProduct 5 = .ok (.iload 4, 2) := by decide +kernel
theorem dX1_leastProduct_7 : decode cX1_leastProduct 7 = .ok (.aload_n 0, 1) := by decide +kernel
theorem dX1_leastProduct_8 : decode cX1_leastProduct 8 = .ok (.getfield 80, 3) := by decide +kernel
theorem dX1_leastProduct_11 : decode cX1_leastProduct 11 = .ok (.iconst 1, 1) := by decide +kernel
theorem dX1_leastProduct_12 : decode cX1_leastProduct 12 = .ok (.isub, 1) := by decide +kernel
theorem dX1_leastProduct_13 : decode cX1_leastProduct 13 = .ok (.if_icmp .ge 40, 3) := by decide +kernel
theorem dX1_leastProduct_16 : decode cX1_leastProduct 16 = .ok (.iload_n 3, 1) := by decide +kernel
theorem dX1_leastProduct_17 : decode cX1_leastProduct 17 = .ok (.aload_n 0, 1) := by decide +kernel
theorem dX1_leastProduct_18 : decode cX1_leastProduct 18 = .ok (.getfield 18, 3) := by decide +kernel
theorem dX1_leastProduct_21 : decode cX1_leastProduct 21 = .ok (.iload_n 1, 1) := by decide +kernel
theorem dX1_leastProduct_22 : decode cX1_leastProduct 22 = .ok (.iload 4, 2) := by decide +kernel
theorem dX1_leastProduct_24 : decode cX1_leastProduct 24 = .ok (.invokestatic 91, 3) := by decide +kernel
theorem dX1_leastProduct_27 : decode cX1_leastProduct 27 = .ok (.aload_n 0, 1) := by decide +kernel
theorem dX1_leastProduct_28 : decode cX1_leastProduct 28 = .ok (.getfield 21, 3) := by decide +kernel
theorem dX1_leastProduct_31 : decode cX1_leastProduct 31 = .ok (.iload_n 2, 1) := by decide +kernel
theorem dX1_leastProduct_32 : decode cX1_leastProduct 32 = .ok (.aload_n 0, 1) := by decide +kernel
theorem dX1_leastProduct_33 : decode cX1_leastProduct 33 = .ok (.getfield 80, 3) := by decide +kernel
theorem dX1_leastProduct_36 : decode cX1_leastProduct 36 = .ok (.iconst 2, 1) := by decide +kernel
theorem dX1_leastProduct_37 : decode cX1_leastProduct 37 = .ok (.isub, 1) := by decide +kernel
theorem dX1_leastProduct_38 : decode cX1_leastProduct 38 = .ok (.iload 4, 2) := by decide +kernel
theorem dX1_leastProduct_40 : decode cX1_leastProduct 40 = .ok (.isub, 1) := by decide +kernel
theorem dX1_leastProduct_41 : decode cX1_leastProduct 41 = .ok (.invokestatic 91, 3) := by decide +kernel
theorem dX1_leastProduct_44 : decode cX1_leastProduct 44 = .ok (.imul, 1) := by decide +kernel
theorem dX1_leastProduct_45 : decode cX1_leastProduct 45 = .ok (.iadd, 1) := by decide +kernel
theorem dX1_leastProduct_46 : decode cX1_leastProduct 46 = .ok (.istore_n 3, 1) := by decide +kernel
theorem dX1_leastProduct_47 : decode cX1_leastProduct 47 = .ok (.iinc 4 1, 3) := by decide +kernel
theorem dX1_leastProduct_50 : decode cX1_leastProduct 50 = .ok (.goto (-45), 3) := by decide +kernel
theorem dX1_leastProduct_53 : decode cX1_leastProduct 53 = .ok (.iload_n 3, 1) := by decide +kernel
theorem dX1_leastProduct_54 : decode cX1_leastProduct 54 = .ok (.ireturn, 1) := by decide +kernel
theorem dX1_lowest_0 : decode cX1_lowest 0 = .ok (.aload_n 0, 1) := by decide +kernel
theorem dX1_lowest_1 : decode cX1_lowest 1 = .ok (.getfield 24, 3) := by decide +kernel
theorem dX1_lowest_4 : decode cX1_lowest 4 = .ok (.iconst 0, 1) := by decide +kernel
theorem dX1_lowest_5 : decode cX1_lowest 5 = .ok (.iconst 0, 1) := by decide +kernel
theorem dX1_lowest_6 : decode cX1_lowest 6 = .ok (.invokestatic 87, 3) := by decide +kernel
theorem dX1_lowest_9 : decode cX1_lowest 9 = .ok (.iconst 1, 1) := by decide +kernel
theorem dX1_lowest_10 : decode cX1_lowest 10 = .ok (.istore_n 1, 1) := by decide +kernel
theorem dX1_lowest_11 : decode cX1_lowest 11 = .ok (.iload_n 1, 1) := by decide +kernel
theorem dX1_lowest_12 : decode cX1_lowest 12 = .ok (.aload_n 0, 1) := by decide +kernel
theorem dX1_lowest_13 : decode cX1_lowest 13 = .ok (.getfield 58, 3) := by decide +kernel
theorem dX1_lowest_16 : decode cX1_lowest 16 = .ok (.if_icmp .gt 33, 3) := by decide +kernel
theorem dX1_lowest_19 : decode cX1_lowest 19 = .ok (.iload_n 1, 1) := by decide +kernel
theorem dX1_lowest_20 : decode cX1_lowest 20 = .ok (.aload_n 0, 1) := by decide +kernel
theorem dX1_lowest_21 : decode cX1_lowest 21 = .ok (.getfield 58, 3) := by decide +kernel
theorem dX1_lowest_24 : decode cX1_lowest 24 = .ok (.iconst (-1), 1) := by decide +kernel
theorem dX1_lowest_25 : decode cX1_lowest 25 = .ok (.ixor, 1) := by decide +kernel
theorem dX1_lowest_26 : decode cX1_lowest 26 = .ok (.iand, 1) := by decide +kernel
theorem dX1_lowest_27 : decode cX1_lowest 27 = .ok (.ifCond .ne 16, 3) := by decide +kernel
theorem dX1_lowest_30 : decode cX1_lowest 30 = .ok (.aload_n 0, 1) := by decide +kernel
theorem dX1_lowest_31 : decode cX1_lowest 31 = .ok (.getfield 24, 3) := by decide +kernel
theorem dX1_lowest_34 : decode cX1_lowest 34 = .ok (.iload_n 1, 1) := by decide +kernel
theorem dX1_lowest_35 : decode cX1_lowest 35 = .ok (.aload_n 0, 1) := by decide +kernel
theorem dX1_lowest_36 : decode cX1_lowest 36 = .ok (.iload_n 1, 1) := by decide +kernel
theorem dX1_lowest_37 : decode cX1_lowest 37 = .ok (.invokevirtual 98, 3) := by decide +kernel
theorem dX1_lowest_40 : decode cX1_lowest 40 = .ok (.invokestatic 87, 3) := by decide +kernel
theorem dX1_lowest_43 : decode cX1_lowest 43 = .ok (.iinc 1 1, 3) := by decide +kernel
theorem dX1_lowest_46 : decode cX1_lowest 46 = .ok (.goto (-35), 3) := by decide +kernel
theorem dX1_lowest_49 : decode cX1_lowest 49 = .ok (.aload_n 0, 1) := by decide +kernel
theorem dX1_lowest_50 : decode cX1_lowest 50 = .ok (.getfield 38, 3) := by decide +kernel
theorem dX1_lowest_53 : decode cX1_lowest 53 = .ok (.aload_n 0, 1) := by decide +kernel
theorem dX1_lowest_54 : decode cX1_lowest 54 = .ok (.getfield 24, 3) := by decide +kernel
theorem dX1_lowest_57 : decode cX1_lowest 57 = .ok (.aload_n 0, 1) := by decide +kernel
theorem dX1_lowest_58 : decode cX1_lowest 58 = .ok (.getfield 58, 3) := by decide +kernel
theorem dX1_lowest_61 : decode cX1_lowest 61 = .ok (.invokestatic 83, 3) := by decide +kernel
theorem dX1_lowest_64 : decode cX1_lowest 64 = .ok (.iadd, 1) := by decide +kernel
theorem dX1_lowest_65 : decode cX1_lowest 65 = .ok (.ireturn, 1) := by decide +kernel
theorem dX1_leastSum_0 : decode cX1_leastSum 0 = .ok (.aload_n 0, 1) := by decide +kernel
theorem dX1_leastSum_1 : decode cX1_leastSum 1 = .ok (.getfield 15, 3) := by decide +kernel
theorem dX1_leastSum_4 : decode cX1_leastSum 4 = .ok (.iload_n 1, 1) := by decide +kernel
theorem dX1_leastSum_5 : decode cX1_leastSum 5 = .ok (.invokestatic 102, 3) := by decide +kernel
theorem dX1_leastSum_8 : decode cX1_leastSum 8 = .ok (.iconst 1, 1) := by decide +kernel
theorem dX1_leastSum_9 : decode cX1_leastSum 9 = .ok (.isub, 1) := by decide +kernel
theorem dX1_leastSum_10 : decode cX1_leastSum 10 = .ok (.invokestatic 83, 3) := by decide +kernel
theorem dX1_leastSum_13 : decode cX1_leastSum 13 = .ok (.istore_n 2, 1) := by decide +kernel
theorem dX1_leastSum_14 : decode cX1_leastSum 14 = .ok (.ldc 107, 2) := by decide +kernel
theorem dX1_leastSum_16 : decode cX1_leastSum 16 = .ok (.istore_n 3, 1) := by decide +kernel
theorem dX1_leastSum_17 : decode cX1_leastSum 17 = .ok (.iconst 0, 1) := by decide +kernel
theorem dX1_leastSum_18 : decode cX1_leastSum 18 = .ok (.istore 4, 2) := by decide +kernel
theorem dX1_leastSum_20 : decode cX1_leastSum 20 = .ok (.iload 4, 2) := by decide +kernel
theorem dX1_leastSum_22 : decode cX1_leastSum 22 = .ok (.aload_n 0, 1) := by decide +kernel
theorem dX1_leastSum_23 : decode cX1_leastSum 23 = .ok (.getfield 33, 3) := by decide +kernel
theorem dX1_leastSum_26 : decode cX1_leastSum 26 = .ok (.if_icmp .ge 47, 3) := by decide +kernel
theorem dX1_leastSum_29 : decode cX1_leastSum 29 = .ok (.iload_n 1, 1) := by decide +kernel
theorem dX1_leastSum_30 : decode cX1_leastSum 30 = .ok (.iload 4, 2) := by decide +kernel
theorem dX1_leastSum_32 : decode cX1_leastSum 32 = .ok (.invokestatic 61, 3) := by decide +kernel
theorem dX1_leastSum_35 : decode cX1_leastSum 35 = .ok (.ifCond .eq 32, 3) := by decide +kernel
theorem dX1_leastSum_38 : decode cX1_leastSum 38 = .ok (.iload_n 3, 1) := by decide +kernel
theorem dX1_leastSum_39 : decode cX1_leastSum 39 = .ok (.aload_n 0, 1) := by decide +kernel
theorem dX1_leastSum_40 : decode cX1_leastSum 40 = .ok (.getfield 24, 3) := by decide +kernel
theorem dX1_leastSum_43 : decode cX1_leastSum 43 = .ok (.iload_n 1, 1) := by decide +kernel
theorem dX1_leastSum_44 : decode cX1_leastSum 44 = .ok (.iconst 1, 1) := by decide +kernel
theorem dX1_leastSum_45 : decode cX1_leastSum 45 = .ok (.iload 4, 2) := by decide +kernel
theorem dX1_leastSum_47 : decode cX1_leastSum 47 = .ok (.ishl, 1) := by decide +kernel
theorem dX1_leastSum_48 : decode cX1_leastSum 48 = .ok (.ixor, 1) := by decide +kernel
theorem dX1_leastSum_49 : decode cX1_leastSum 49 = .ok (.invokestatic 83, 3) := by decide +kernel
theorem dX1_leastSum_52 : decode cX1_leastSum 52 = .ok (.aload_n 0, 1) := by decide +kernel
theorem dX1_leastSum_53 : decode cX1_leastSum 53 = .ok (.getfield 9, 3) := by decide +kernel
theorem dX1_leastSum_56 : decode cX1_leastSum 56 = .ok (.iload_n 2, 1) := by decide +kernel
theorem dX1_leastSum_57 : decode cX1_leastSum 57 = .ok (.iload 4, 2) := by decide +kernel
theorem dX1_leastSum_59 : decode cX1_leastSum 59 = .ok (.invokestatic 91, 3) := by decide +kernel
theorem dX1_leastSum_62 : decode cX1_leastSum 62 = .ok (.iadd, 1) := by decide +kernel
theorem dX1_leastSum_63 : decode cX1_leastSum 63 = .ok (.invokestatic 108, 3) := by decide +kernel
theorem dX1_leastSum_66 : decode cX1_leastSum 66 = .ok (.istore_n 3, 1) := by decide +kernel
theorem dX1_leastSum_67 : decode cX1_leastSum 67 = .ok (.iinc 4 1, 3) := by decide +kernel
theorem dX1_leastSum_70 : decode cX1_leastSum 70 = .ok (.goto (-50), 3) := by decide +kernel
theorem dX1_leastSum_73 : decode cX1_leastSum 73 = .ok (.iload_n 3, 1) := by decide +kernel
theorem dX1_leastSum_74 : decode cX1_leastSum 74 = .ok (.ireturn, 1) := by decide +kernel
theorem dX1_regretOf_0 : decode cX1_regretOf 0 = .ok (.aload_n 0, 1) := by decide +kernel
theorem dX1_regretOf_1 : decode cX1_regretOf 1 = .ok (.getfield 80, 3) := by decide +kernel
theorem dX1_regretOf_4 : decode cX1_regretOf 4 = .ok (.iconst 1, 1) := by decide +kernel
theorem dX1_regretOf_5 : decode cX1_regretOf 5 = .ok (.if_icmp .ne 6, 3) := by decide +kernel
theorem dX1_regretOf_8 : decode cX1_regretOf 8 = .ok (.ldc 107, 2) := by decide +kernel
theorem dX1_regretOf_10 : decode cX1_regretOf 10 = .ok (.ireturn, 1) := by decide +kernel
theorem dX1_regretOf_11 : decode cX1_regretOf 11 = .ok (.ldc 107, 2) := by decide +kernel
theorem dX1_regretOf_13 : decode cX1_regretOf 13 = .ok (.istore_n 2, 1) := by decide +kernel
theorem dX1_regretOf_14 : decode cX1_regretOf 14 = .ok (.ldc 107, 2) := by decide +kernel
theorem dX1_regretOf_16 : decode cX1_regretOf 16 = .ok (.istore_n 3, 1) := by decide +kernel
theorem dX1_regretOf_17 : decode cX1_regretOf 17 = .ok (.iconst 0, 1) := by decide +kernel
theorem dX1_regretOf_18 : decode cX1_regretOf 18 = .ok (.istore 4, 2) := by decide +kernel
theorem dX1_regretOf_20 : decode cX1_regretOf 20 = .ok (.iload 4, 2) := by decide +kernel
theorem dX1_regretOf_22 : decode cX1_regretOf 22 = .ok (.aload_n 0, 1) := by decide +kernel
theorem dX1_regretOf_23 : decode cX1_regretOf 23 = .ok (.getfield 33, 3) := by decide +kernel
theorem dX1_regretOf_26 : decode cX1_regretOf 26 = .ok (.if_icmp .ge 51, 3) := by decide +kernel
theorem dX1_regretOf_29 : decode cX1_regretOf 29 = .ok (.aload_n 0, 1) := by decide +kernel
theorem dX1_regretOf_30 : decode cX1_regretOf 30 = .ok (.getfield 58, 3) := by decide +kernel
theorem dX1_regretOf_33 : decode cX1_regretOf 33 = .ok (.iload 4, 2) := by decide +kernel
theorem dX1_regretOf_35 : decode cX1_regretOf 35 = .ok (.invokestatic 61, 3) := by decide +kernel
theorem dX1_regretOf_38 : decode cX1_regretOf 38 = .ok (.ifCond .eq 33, 3) := by decide +kernel
theorem dX1_regretOf_41 : decode cX1_regretOf 41 = .ok (.aload_n 0, 1) := by decide +kernel
theorem dX1_regretOf_42 : decode cX1_regretOf 42 = .ok (.getfield 9, 3) := by decide +kernel
theorem dX1_regretOf_45 : decode cX1_regretOf 45 = .ok (.iload_n 1, 1) := by decide +kernel
theorem dX1_regretOf_46 : decode cX1_regretOf 46 = .ok (.iload 4, 2) := by decide +kernel
theorem dX1_regretOf_48 : decode cX1_regretOf 48 = .ok (.invokestatic 91, 3) := by decide +kernel
theorem dX1_regretOf_51 : decode cX1_regretOf 51 = .ok (.istore 5, 2) := by decide +kernel
theorem dX1_regretOf_53 : decode cX1_regretOf 53 = .ok (.iload_n 3, 1) := by decide +kernel
theorem dX1_regretOf_54 : decode cX1_regretOf 54 = .ok (.iload_n 2, 1) := by decide +kernel
theorem dX1_regretOf_55 : decode cX1_regretOf 55 = .ok (.iload 5, 2) := by decide +kernel
theorem dX1_regretOf_57 : decode cX1_regretOf 57 = .ok (.invokestatic 113, 3) := by decide +kernel
theorem dX1_regretOf_60 : decode cX1_regretOf 60 = .ok (.invokestatic 108, 3) := by decide +kernel
theorem dX1_regretOf_63 : decode cX1_regretOf 63 = .ok (.istore_n 3, 1) := by decide +kernel
theorem dX1_regretOf_64 : decode cX1_regretOf 64 = .ok (.iload_n 2, 1) := by decide +kernel
theorem dX1_regretOf_65 : decode cX1_regretOf 65 = .ok (.iload 5, 2) := by decide +kernel
theorem dX1_regretOf_67 : decode cX1_regretOf 67 = .ok (.invokestatic 108, 3) := by decide +kernel
theorem dX1_regretOf_70 : decode cX1_regretOf 70 = .ok (.istore_n 2, 1) := by decide +kernel
theorem dX1_regretOf_71 : decode cX1_regretOf 71 = .ok (.iinc 4 1, 3) := by decide +kernel
theorem dX1_regretOf_74 : decode cX1_regretOf 74 = .ok (.goto (-54), 3) := by decide +kernel
theorem dX1_regretOf_77 : decode cX1_regretOf 77 = .ok (.iload_n 3, 1) := by decide +kernel
theorem dX1_regretOf_78 : decode cX1_regretOf 78 = .ok (.iload_n 2, 1) := by decide +kernel
theorem dX1_regretOf_79 : decode cX1_regretOf 79 = .ok (.isub, 1) := by decide +kernel
theorem dX1_regretOf_80 : decode cX1_regretOf 80 = .ok (.ireturn, 1) := by decide +kernel
theorem dX1_mostRegretted_0 : decode cX1_mostRegretted 0 = .ok (.iconst (-1), 1) := by decide +kernel
theorem dX1_mostRegretted_1 : decode cX1_mostRegretted 1 = .ok (.istore_n 1, 1) := by decide +kernel
theorem dX1_mostRegretted_2 : decode cX1_mostRegretted 2 = .ok (.iconst (-1), 1) := by decide +kernel
theorem dX1_mostRegretted_3 : decode cX1_mostRegretted 3 = .ok (.istore_n 2, 1) := by decide +kernel
theorem dX1_mostRegretted_4 : decode cX1_mostRegretted 4 = .ok (.iconst 0, 1) := by decide +kernel
theorem dX1_mostRegretted_5 : decode cX1_mostRegretted 5 = .ok (.istore_n 3, 1) := by decide +kernel
theorem dX1_mostRegretted_6 : decode cX1_mostRegretted 6 = .ok (.iload_n 3, 1) := by decide +kernel
theorem dX1_mostRegretted_7 : decode cX1_mostRegretted 7 = .ok (.aload_n 0, 1) := by decide +kernel
theorem dX1_mostRegretted_8 : decode cX1_mostRegretted 8 = .ok (.getfield 80, 3) := by decide +kernel
theorem dX1_mostRegretted_11 : decode cX1_mostRegretted 11 = .ok (.if_icmp .ge 41, 3) := by decide +kernel
theorem dX1_mostRegretted_14 : decode cX1_mostRegretted 14 = .ok (.aload_n 0, 1) := by decide +kernel
theorem dX1_mostRegretted_15 : decode cX1_mostRegretted 15 = .ok (.aload_n 0, 1) := by decide +kernel
theorem dX1_mostRegretted_16 : decode cX1_mostRegretted 16 = .ok (.getfield 15, 3) := by decide +kernel
theorem dX1_mostRegretted_19 : decode cX1_mostRegretted 19 = .ok (.iload_n 3, 1) := by decide +kernel
theorem dX1_mostRegretted_20 : decode cX1_mostRegretted 20 = .ok (.invokestatic 83, 3) := by decide +kernel
theorem dX1_mostRegretted_23 : decode cX1_mostRegretted 23 = .ok (.invokevirtual 116, 3) := by decide +kernel
theorem dX1_mostRegretted_26 : decode cX1_mostRegretted 26 = .ok (.istore 4, 2) := by decide +kernel
theorem dX1_mostRegretted_28 : decode cX1_mostRegretted 28 = .ok (.iload 4, 2) := by decide +kernel
theorem dX1_mostRegretted_30 : decode cX1_mostRegretted 30 = .ok (.iload_n 2, 1) := by decide +kernel
theorem dX1_mostRegretted_31 : decode cX1_mostRegretted 31 = .ok (.if_icmp .le 15, 3) := by decide +kernel
theorem dX1_mostRegretted_34 : decode cX1_mostRegretted 34 = .ok (.iload 4, 2) := by decide +kernel
theorem dX1_mostRegretted_36 : decode cX1_mostRegretted 36 = .ok (.istore_n 2, 1) := by decide +kernel
theorem dX1_mostRegretted_37 : decode cX1_mostRegretted 37 = .ok (.aload_n 0, 1) := by decide +kernel
theorem dX1_mostRegretted_38 : decode cX1_mostRegretted 38 = .ok (.getfield 15, 3) := by decide +kernel
theorem dX1_mostRegretted_41 : decode cX1_mostRegretted 41 = .ok (.iload_n 3, 1) := by decide +kernel
theorem dX1_mostRegretted_42 : decode cX1_mostRegretted 42 = .ok (.invokestatic 83, 3) := by decide +kernel
theorem dX1_mostRegretted_45 : decode cX1_mostRegretted 45 = .ok (.istore_n 1, 1) := by decide +kernel
theorem dX1_mostRegretted_46 : decode cX1_mostRegretted 46 = .ok (.iinc 3 1, 3) := by decide +kernel
theorem dX1_mostRegretted_49 : decode cX1_mostRegretted 49 = .ok (.goto (-43), 3) := by decide +kernel
theorem dX1_mostRegretted_52 : decode cX1_mostRegretted 52 = .ok (.iload_n 1, 1) := by decide +kernel
theorem dX1_mostRegretted_53 : decode cX1_mostRegretted 53 = .ok (.ireturn, 1) := by decide +kernel
theorem dX1_orderLocations_0 : decode cX1_orderLocations 0 = .ok (.iconst 0, 1) := by decide +kernel
theorem dX1_orderLocations_1 : decode cX1_orderLocations 1 = .ok (.istore_n 3, 1) := by decide +kernel
theorem dX1_orderLocations_2 : decode cX1_orderLocations 2 = .ok (.iconst 0, 1) := by decide +kernel
theorem dX1_orderLocations_3 : decode cX1_orderLocations 3 = .ok (.istore 4, 2) := by decide +kernel
theorem dX1_orderLocations_5 : decode cX1_orderLocations 5 = .ok (.iload 4, 2) := by decide +kernel
theorem dX1_orderLocations_7 : decode cX1_orderLocations 7 = .ok (.aload_n 0, 1) := by decide +kernel
theorem dX1_orderLocations_8 : decode cX1_orderLocations 8 = .ok (.getfield 33, 3) := by decide +kernel
theorem dX1_orderLocations_11 : decode cX1_orderLocations 11 = .ok (.if_icmp .ge 96, 3) := by decide +kernel
theorem dX1_orderLocations_14 : decode cX1_orderLocations 14 = .ok (.aload_n 0, 1) := by decide +kernel
theorem dX1_orderLocations_15 : decode cX1_orderLocations 15 = .ok (.getfield 58, 3) := by decide +kernel
theorem dX1_orderLocations_18 : decode cX1_orderLocations 18 = .ok (.iload 4, 2) := by decide +kernel
theorem dX1_orderLocations_20 : decode cX1_orderLocations 20 = .ok (.invokestatic 61, 3) := by decide +kernel
theorem dX1_orderLocations_23 : decode cX1_orderLocations 23 = .ok (.ifCond .ne 6, 3) := by decide +kernel
theorem dX1_orderLocations_26 : decode cX1_orderLocations 26 = .ok (.goto 75, 3) := by decide +kernel
theorem dX1_orderLocations_29 : decode cX1_orderLocations 29 = .ok (.aload_n 0, 1) := by decide +kernel
theorem dX1_orderLocations_30 : decode cX1_orderLocations 30 = .ok (.getfield 9, 3) := by decide +kernel
theorem dX1_orderLocations_33 : decode cX1_orderLocations 33 = .ok (.iload_n 1, 1) := by decide +kernel
theorem dX1_orderLocations_34 : decode cX1_orderLocations 34 = .ok (.iload 4, 2) := by decide +kernel
theorem dX1_orderLocations_36 : decode cX1_orderLocations 36 = .ok (.invokestatic 91, 3) := by decide +kernel
theorem dX1_orderLocations_39 : decode cX1_orderLocations 39 = .ok (.istore 5, 2) := by decide +kernel
theorem dX1_orderLocations_41 : decode cX1_orderLocations 41 = .ok (.iload_n 3, 1) := by decide +kernel
theorem dX1_orderLocations_42 : decode cX1_orderLocations 42 = .ok (.istore 6, 2) := by decide +kernel
theorem dX1_orderLocations_44 : decode cX1_orderLocations 44 = .ok (.iload 6, 2) := by decide +kernel
theorem dX1_orderLocations_46 : decode cX1_orderLocations 46 = .ok (.ifCond .le 44, 3) := by decide +kernel
theorem dX1_orderLocations_49 : decode cX1_orderLocations 49 = .ok (.aload_n 0, 1) := by decide +kernel
theorem dX1_orderLocations_50 : decode cX1_orderLocations 50 = .ok (.getfield 9, 3) := by decide +kernel
theorem dX1_orderLocations_53 : decode cX1_orderLocations 53 = .ok (.iload_n 1, 1) := by decide +kernel
theorem dX1_orderLocations_54 : decode cX1_orderLocations 54 = .ok (.aload_n 2, 1) := by decide +kernel
theorem dX1_orderLocations_55 : decode cX1_orderLocations 55 = .ok (.iload 6, 2) := by decide +kernel
theorem dX1_orderLocations_57 : decode cX1_orderLocations 57 = .ok (.iconst 1, 1) := by decide +kernel
theorem dX1_orderLocations_58 : decode cX1_orderLocations 58 = .ok (.isub, 1) := by decide +kernel
theorem dX1_orderLocations_59 : decode cX1_orderLocations 59 = .ok (.invokestatic 83, 3) := by decide +kernel
theorem dX1_orderLocations_62 : decode cX1_orderLocations 62 = .ok (.invokestatic 91, 3) := by decide +kernel
theorem dX1_orderLocations_65 : decode cX1_orderLocations 65 = .ok (.iload 5, 2) := by decide +kernel
theorem dX1_orderLocations_67 : decode cX1_orderLocations 67 = .ok (.if_icmp .le 23, 3) := by decide +kernel
theorem dX1_orderLocations_70 : decode cX1_orderLocations 70 = .ok (.aload_n 2, 1) := by decide +kernel
theorem dX1_orderLocations_71 : decode cX1_orderLocations 71 = .ok (.iload 6, 2) := by decide +kernel
theorem dX1_orderLocations_73 : decode cX1_orderLocations 73 = .ok (.aload_n 2, 1) := by decide +kernel
theorem dX1_orderLocations_74 : decode cX1_orderLocations 74 = .ok (.iload 6, 2) := by decide +kernel
theorem dX1_orderLocations_76 : decode cX1_orderLocations 76 = .ok (.iconst 1, 1) := by decide +kernel
theorem dX1_orderLocations_77 : decode cX1_orderLocations 77 = .ok (.isub, 1) := by decide +kernel
theorem dX1_orderLocations_78 : decode cX1_orderLocations 78 = .ok (.invokestatic 83, 3) := by decide +kernel
theorem dX1_orderLocations_81 : decode cX1_orderLocations 81 = .ok (.invokestatic 87, 3) := by decide +kernel
theorem dX1_orderLocations_84 : decode cX1_orderLocations 84 = .ok (.iinc 6 (-1), 3) := by decide +kernel
theorem dX1_orderLocations_87 : decode cX1_orderLocations 87 = .ok (.goto (-43), 3) := by decide +kernel
theorem dX1_orderLocations_90 : decode cX1_orderLocations 90 = .ok (.aload_n 2, 1) := by decide +kernel
theorem dX1_orderLocations_91 : decode cX1_orderLocations 91 = .ok (.iload 6, 2) := by decide +kernel
theorem dX1_orderLocations_93 : decode cX1_orderLocations 93 = .ok (.iload 4, 2) := by decide +kernel
theorem dX1_orderLocations_95 : decode cX1_orderLocations 95 = .ok (.invokestatic 87, 3) := by decide +kernel
theorem dX1_orderLocations_98 : decode cX1_orderLocations 98 = .ok (.iinc 3 1, 3) := by decide +kernel
theorem dX1_orderLocations_101 : decode cX1_orderLocations 101 = .ok (.iinc 4 1, 3) := by decide +kernel
theorem dX1_orderLocations_104 : decode cX1_orderLocations 104 = .ok (.goto (-99), 3) := by decide +kernel
theorem dX1_orderLocations_107 : decode cX1_orderLocations 107 = .ok (.iload_n 3, 1) := by decide +kernel
theorem dX1_orderLocations_108 : decode cX1_orderLocations 108 = .ok (.ireturn, 1) := by decide +kernel
theorem dX2_init_0 : decode cX2_init 0 = .ok (.aload_n 0, 1) := by decide +kernel
theorem dX2_init_1 : decode cX2_init 1 = .ok (.invokespecial 3, 3) := by decide +kernel
theorem dX2_init_4 : decode cX2_init 4 = .ok (.aload_n 0, 1) := by decide +kernel
theorem dX2_init_5 : decode cX2_init 5 = .ok (.bipush 6, 2) := by decide +kernel
theorem dX2_init_7 : decode cX2_init 7 = .ok (.anewarray 9, 3) := by decide +kernel
theorem dX2_init_10 : decode cX2_init 10 = .ok (.putfield 11, 3) := by decide +kernel
theorem dX2_init_13 : decode cX2_init 13 = .ok (.iconst 0, 1) := by decide +kernel
theorem dX2_init_14 : decode cX2_init 14 = .ok (.istore_n 1, 1) := by decide +kernel
theorem dX2_init_15 : decode cX2_init 15 = .ok (.iload_n 1, 1) := by decide +kernel
theorem dX2_init_16 : decode cX2_init 16 = .ok (.bipush 6, 2) := by decide +kernel
theorem dX2_init_18 : decode cX2_init 18 = .ok (.if_icmp .ge 22, 3) := by decide +kernel
theorem dX2_init_21 : decode cX2_init 21 = .ok (.aload_n 0, 1) := by decide +kernel
theorem dX2_init_22 : decode cX2_init 22 = .ok (.getfield 11, 3) := by decide +kernel
theorem dX2_init_25 : decode cX2_init 25 = .ok (.iload_n 1, 1) := by decide +kernel
theorem dX2_init_26 : decode cX2_init 26 = .ok (.new 9, 3) := by decide +kernel
theorem dX2_init_29 : decode cX2_init 29 = .ok (.dup, 1) := by decide +kernel
theorem dX2_init_30 : decode cX2_init 30 = .ok (.invokespecial 17, 3) := by decide +kernel
theorem dX2_init_33 : decode cX2_init 33 = .ok (.aastore, 1) := by decide +kernel
theorem dX2_init_34 : decode cX2_init 34 = .ok (.iinc 1 1, 3) := by decide +kernel
theorem dX2_init_37 : decode cX2_init 37 = .ok (.goto (-22), 3) := by decide +kernel
theorem dX2_init_40 : decode cX2_init 40 = .ok (.return_, 1) := by decide +kernel
theorem dX2_push_0 : decode cX2_push 0 = .ok (.aload_n 0, 1) := by decide +kernel
theorem dX2_push_1 : decode cX2_push 1 = .ok (.aload_n 0, 1) := by decide +kernel
theorem dX2_push_2 : decode cX2_push 2 = .ok (.getfield 18, 3) := by decide +kernel
theorem dX2_push_5 : decode cX2_push 5 = .ok (.invokevirtual 22, 3) := by decide +kernel
theorem dX2_push_8 : decode cX2_push 8 = .ok (.astore_n 2, 1) := by decide +kernel
theorem dX2_push_9 : decode cX2_push 9 = .ok (.aload_n 2, 1) := by decide +kernel
theorem dX2_push_10 : decode cX2_push 10 = .ok (.ifnull 8, 3) := by decide +kernel
theorem dX2_push_13 : decode cX2_push 13 = .ok (.aload_n 2, 1) := by decide +kernel
theorem dX2_push_14 : decode cX2_push 14 = .ok (.aload_n 1, 1) := by decide +kernel
theorem dX2_push_15 : decode cX2_push 15 = .ok (.invokevirtual 26, 3) := by decide +kernel
theorem dX2_push_18 : decode cX2_push 18 = .ok (.aload_n 0, 1) := by decide +kernel
theorem dX2_push_19 : decode cX2_push 19 = .ok (.aload_n 0, 1) := by decide +kernel
theorem dX2_push_20 : decode cX2_push 20 = .ok (.getfield 18, 3) := by decide +kernel
theorem dX2_push_23 : decode cX2_push 23 = .ok (.iconst 1, 1) := by decide +kernel
theorem dX2_push_24 : decode cX2_push 24 = .ok (.iadd, 1) := by decide +kernel
theorem dX2_push_25 : decode cX2_push 25 = .ok (.bipush 6, 2) := by decide +kernel
theorem dX2_push_27 : decode cX2_push 27 = .ok (.if_icmp .ge 12, 3) := by decide +kernel
theorem dX2_push_30 : decode cX2_push 30 = .ok (.aload_n 0, 1) := by decide +kernel
theorem dX2_push_31 : decode cX2_push 31 = .ok (.getfield 18, 3) := by decide +kernel
theorem dX2_push_34 : decode cX2_push 34 = .ok (.iconst 1, 1) := by decide +kernel
theorem dX2_push_35 : decode cX2_push 35 = .ok (.iadd, 1) := by decide +kernel
theorem dX2_push_36 : decode cX2_push 36 = .ok (.goto 4, 3) := by decide +kernel
theorem dX2_push_39 : decode cX2_push 39 = .ok (.iconst 0, 1) := by decide +kernel
theorem dX2_push_40 : decode cX2_push 40 = .ok (.putfield 18, 3) := by decide +kernel
theorem dX2_push_43 : decode cX2_push 43 = .ok (.aload_n 0, 1) := by decide +kernel
theorem dX2_push_44 : decode cX2_push 44 = .ok (.bipush 6, 2) := by decide +kernel
theorem dX2_push_46 : decode cX2_push 46 = .ok (.aload_n 0, 1) := by decide +kernel
theorem dX2_push_47 : decode cX2_push 47 = .ok (.getfield 30, 3) := by decide +kernel
theorem dX2_push_50 : decode cX2_push 50 = .ok (.iconst 1, 1) := by decide +kernel
theorem dX2_push_51 : decode cX2_push 51 = .ok (.iadd, 1) := by decide +kernel
theorem dX2_push_52 : decode cX2_push 52 = .ok (.invokestatic 33, 3) := by decide +kernel
theorem dX2_push_55 : decode cX2_push 55 = .ok (.putfield 30, 3) := by decide +kernel
theorem dX2_push_58 : decode cX2_push 58 = .ok (.return_, 1) := by decide +kernel
theorem dX2_popInto_0 : decode cX2_popInto 0 = .ok (.aload_n 0, 1) := by decide +kernel
theorem dX2_popInto_1 : decode cX2_popInto 1 = .ok (.aload_n 0, 1) := by decide +kernel
theorem dX2_popInto_2 : decode cX2_popInto 2 = .ok (.getfield 18, 3) := by decide +kernel
theorem dX2_popInto_5 : decode cX2_popInto 5 = .ok (.ifCond .le 12, 3) := by decide +kernel
theorem dX2_popInto_8 : decode cX2_popInto 8 = .ok (.aload_n 0, 1) := by decide +kernel
theorem dX2_popInto_9 : decode cX2_popInto 9 = .ok (.getfield 18, 3) := by decide +kernel
theorem dX2_popInto_12 : decode cX2_popInto 12 = .ok (.iconst 1, 1) := by decide +kernel
theorem dX2_popInto_13 : decode cX2_popInto 13 = .ok (.isub, 1) := by decide +kernel
theorem dX2_popInto_14 : decode cX2_popInto 14 = .ok (.goto 4, 3) := by decide +kernel
theorem dX2_popInto_17 : decode cX2_popInto 17 = .ok (.iconst 5, 1) := by decide +kernel
theorem dX2_popInto_18 : decode cX2_popInto 18 = .ok (.putfield 18, 3) := by decide +kernel
theorem dX2_popInto_21 : decode cX2_popInto 21 = .ok (.aload_n 0, 1) := by decide +kernel
theorem dX2_popInto_22 : decode cX2_popInto 22 = .ok (.aload_n 0, 1) := by decide +kernel
theorem dX2_popInto_23 : decode cX2_popInto 23 = .ok (.getfield 18, 3) := by decide +kernel
theorem dX2_popInto_26 : decode cX2_popInto 26 = .ok (.invokevirtual 22, 3) := by decide +kernel
theorem dX2_popInto_29 : decode cX2_popInto 29 = .ok (.astore_n 2, 1) := by decide +kernel
theorem dX2_popInto_30 : decode cX2_popInto 30 = .ok (.aload_n 2, 1) := by decide +kernel
theorem dX2_popInto_31 : decode cX2_popInto 31 = .ok (.ifnull 8, 3) := by decide +kernel
theorem dX2_popInto_34 : decode cX2_popInto 34 = .ok (.aload_n 1, 1) := by decide +kernel
theorem dX2_popInto_35 : decode cX2_popInto 35 = .ok (.aload_n 2, 1) := by decide +kernel
theorem dX2_popInto_36 : decode cX2_popInto 36 = .ok (.invokevirtual 26, 3) := by decide +kernel
theorem dX2_popInto_39 : decode cX2_popInto 39 = .ok (.aload_n 0, 1) := by decide +kernel
theorem dX2_popInto_40 : decode cX2_popInto 40 = .ok (.iconst 0, 1) := by decide +kernel
theorem dX2_popInto_41 : decode cX2_popInto 41 = .ok (.aload_n 0, 1) := by decide +kernel
theorem dX2_popInto_42 : decode cX2_popInto 42 = .ok (.getfield 30, 3) := by decide +kernel
theorem dX2_popInto_45 : decode cX2_popInto 45 = .ok (.iconst 1, 1) := by decide +kernel
theorem dX2_popInto_46 : decode cX2_popInto 46 = .ok (.isub, 1) := by decide +kernel
theorem dX2_popInto_47 : decode cX2_popInto 47 = .ok (.invokestatic 39, 3) := by decide +kernel
theorem dX2_popInto_50 : decode cX2_popInto 50 = .ok (.putfield 30, 3) := by decide +kernel
theorem dX2_popInto_53 : decode cX2_popInto 53 = .ok (.return_, 1) := by decide +kernel
theorem dX2_record_0 : decode cX2_record 0 = .ok (.iload_n 1, 1) := by decide +kernel
theorem dX2_record_1 : decode cX2_record 1 = .ok (.ifCond .lt 21, 3) := by decide +kernel
theorem dX2_record_4 : decode cX2_record 4 = .ok (.iload_n 1, 1) := by decide +kernel
theorem dX2_record_5 : decode cX2_record 5 = .ok (.aload_n 0, 1) := by decide +kernel
theorem dX2_record_6 : decode cX2_record 6 = .ok (.getfield 11, 3) := by decide +kernel
theorem dX2_record_9 : decode cX2_record 9 = .ok (.arraylength, 1) := by decide +kernel
theorem dX2_record_10 : decode cX2_record 10 = .ok (.if_icmp .ge 12, 3) := by decide +kernel
theorem dX2_record_13 : decode cX2_record 13 = .ok (.aload_n 0, 1) := by decide +kernel
theorem dX2_record_14 : decode cX2_record 14 = .ok (.getfield 11, 3) := by decide +kernel
theorem dX2_record_17 : decode cX2_record 17 = .ok (.iload_n 1, 1) := by decide +kernel
theorem dX2_record_18 : decode cX2_record 18 = .ok (.aaload, 1) := by decide +kernel
theorem dX2_record_19 : decode cX2_record 19 = .ok (.goto 4, 3) := by decide +kernel
theorem dX2_record_22 : decode cX2_record 22 = .ok (.aconst_null, 1) := by decide +kernel
theorem dX2_record_23 : decode cX2_record 23 = .ok (.areturn, 1) := by decide +kernel
theorem dX3_init_0 : decode cX3_init 0 = .ok (.aload_n 0, 1) := by decide +kernel
theorem dX3_init_1 : decode cX3_init 1 = .ok (.invokespecial 3, 3) := by decide +kernel
theorem dX3_init_4 : decode cX3_init 4 = .ok (.aload_n 0, 1) := by decide +kernel
theorem dX3_init_5 : decode cX3_init 5 = .ok (.sipush 720, 3) := by decide +kernel
theorem dX3_init_8 : decode cX3_init 8 = .ok (.newarray .long, 2) := by decide +kernel
theorem dX3_init_10 : decode cX3_init 10 = .ok (.putfield 9, 3) := by decide +kernel
theorem dX3_init_13 : decode cX3_init 13 = .ok (.return_, 1) := by decide +kernel
theorem dX3_clear_0 : decode cX3_clear 0 = .ok (.aload_n 0, 1) := by decide +kernel
theorem dX3_clear_1 : decode cX3_clear 1 = .ok (.iconst 0, 1) := by decide +kernel
theorem dX3_clear_2 : decode cX3_clear 2 = .ok (.putfield 15, 3) := by decide +kernel
theorem dX3_clear_5 : decode cX3_clear 5 = .ok (.aload_n 0, 1) := by decide +kernel
theorem dX3_clear_6 : decode cX3_clear 6 = .ok (.iconst 0, 1) := by decide +kernel
theorem dX3_clear_7 : decode cX3_clear 7 = .ok (.putfield 19, 3) := by decide +kernel
theorem dX3_clear_10 : decode cX3_clear 10 = .ok (.return_, 1) := by decide +kernel
theorem dX3_node_0 : decode cX3_node 0 = .ok (.iload_n 1, 1) := by decide +kernel
theorem dX3_node_1 : decode cX3_node 1 = .ok (.ifCond .lt 21, 3) := by decide +kernel
theorem dX3_node_4 : decode cX3_node 4 = .ok (.iload_n 1, 1) := by decide +kernel
theorem dX3_node_5 : decode cX3_node 5 = .ok (.aload_n 0, 1) := by decide +kernel
theorem dX3_node_6 : decode cX3_node 6 = .ok (.getfield 9, 3) := by decide +kernel
theorem dX3_node_9 : decode cX3_node 9 = .ok (.arraylength, 1) := by decide +kernel
theorem dX3_node_10 : decode cX3_node 10 = .ok (.if_icmp .ge 12, 3) := by decide +kernel
theorem dX3_node_13 : decode cX3_node 13 = .ok (.aload_n 0, 1) := by decide +kernel
theorem dX3_node_14 : decode cX3_node 14 = .ok (.getfield 9, 3) := by decide +kernel
theorem dX3_node_17 : decode cX3_node 17 = .ok (.iload_n 1, 1) := by decide +kernel
theorem dX3_node_18 : decode cX3_node 18 = .ok (.laload, 1) := by decide +kernel
theorem dX3_node_19 : decode cX3_node 19 = .ok (.goto 4, 3) := by decide +kernel
theorem dX3_node_22 : decode cX3_node 22 = .ok (.lconst 0, 1) := by decide +kernel
theorem dX3_node_23 : decode cX3_node 23 = .ok (.lreturn, 1) := by decide +kernel
theorem dX3_setNode_0 : decode cX3_setNode 0 = .ok (.iload_n 1, 1) := by decide +kernel
theorem dX3_setNode_1 : decode cX3_setNode 1 = .ok (.ifCond .lt 19, 3) := by decide +kernel
theorem dX3_setNode_4 : decode cX3_setNode 4 = .ok (.iload_n 1, 1) := by decide +kernel
theorem dX3_setNode_5 : decode cX3_setNode 5 = .ok (.aload_n 0, 1) := by decide +kernel
theorem dX3_setNode_6 : decode cX3_setNode 6 = .ok (.getfield 9, 3) := by decide +kernel
theorem dX3_setNode_9 : decode cX3_setNode 9 = .ok (.arraylength, 1) := by decide +kernel
theorem dX3_setNode_10 : decode cX3_setNode 10 = .ok (.if_icmp .ge 10, 3) := by decide +kernel
theorem dX3_setNode_13 : decode cX3_setNode 13 = .ok (.aload_n 0, 1) := by decide +kernel
theorem dX3_setNode_14 : decode cX3_setNode 14 = .ok (.getfield 9, 3) := by decide +kernel
theorem dX3_setNode_17 : decode cX3_setNode 17 = .ok (.iload_n 1, 1) := by decide +kernel
theorem dX3_setNode_18 : decode cX3_setNode 18 = .ok (.lload_n 2, 1) := by decide +kernel
theorem dX3_setNode_19 : decode cX3_setNode 19 = .ok (.lastore, 1) := by decide +kernel
theorem dX3_setNode_20 : decode cX3_setNode 20 = .ok (.return_, 1) := by decide +kernel
theorem dX3_addLast_0 : decode cX3_addLast 0 = .ok (.aload_n 0, 1) := by decide +kernel
theorem dX3_addLast_1 : decode cX3_addLast 1 = .ok (.aload_n 0, 1) := by decide +kernel
theorem dX3_addLast_2 : decode cX3_addLast 2 = .ok (.getfield 15, 3) := by decide +kernel
theorem dX3_addLast_5 : decode cX3_addLast 5 = .ok (.lload_n 1, 1) := by decide +kernel
theorem dX3_addLast_6 : decode cX3_addLast 6 = .ok (.invokevirtual 22, 3) := by decide +kernel
theorem dX3_addLast_9 : decode cX3_addLast 9 = .ok (.aload_n 0, 1) := by decide +kernel
theorem dX3_addLast_10 : decode cX3_addLast 10 = .ok (.dup, 1) := by decide +kernel
theorem dX3_addLast_11 : decode cX3_addLast 11 = .ok (.getfield 15, 3) := by decide +kernel
theorem dX3_addLast_14 : decode cX3_addLast 14 = .ok (.iconst 1, 1) := by decide +kernel
theorem dX3_addLast_15 : decode cX3_addLast 15 = .ok (.iadd, 1) := by decide +kernel
theorem dX3_addLast_16 : decode cX3_addLast 16 = .ok (.putfield 15, 3) := by decide +kernel
theorem dX3_addLast_19 : decode cX3_addLast 19 = .ok (.return_, 1) := by decide +kernel
theorem dX3_takeLast_0 : decode cX3_takeLast 0 = .ok (.aload_n 0, 1) := by decide +kernel
theorem dX3_takeLast_1 : decode cX3_takeLast 1 = .ok (.iconst 0, 1) := by decide +kernel
theorem dX3_takeLast_2 : decode cX3_takeLast 2 = .ok (.aload_n 0, 1) := by decide +kernel
theorem dX3_takeLast_3 : decode cX3_takeLast 3 = .ok (.getfield 15, 3) := by decide +kernel
theorem dX3_takeLast_6 : decode cX3_takeLast 6 = .ok (.iconst 1, 1) := by decide +kernel
theorem dX3_takeLast_7 : decode cX3_takeLast 7 = .ok (.isub, 1) := by decide +kernel
theorem dX3_takeLast_8 : decode cX3_takeLast 8 = .ok (.invokestatic 26, 3) := by decide +kernel
theorem dX3_takeLast_11 : decode cX3_takeLast 11 = .ok (.putfield 15, 3) := by decide +kernel
theorem dX3_takeLast_14 : decode cX3_takeLast 14 = .ok (.aload_n 0, 1) := by decide +kernel
theorem dX3_takeLast_15 : decode cX3_takeLast 15 = .ok (.aload_n 0, 1) := by decide +kernel
theorem dX3_takeLast_16 : decode cX3_takeLast 16 = .ok (.getfield 15, 3) := by decide +kernel
theorem dX3_takeLast_19 : decode cX3_takeLast 19 = .ok (.invokevirtual 32, 3) := by decide +kernel
theorem dX3_takeLast_22 : decode cX3_takeLast 22 = .ok (.lreturn, 1) := by decide +kernel
theorem dX3_addOrdered_0 : decode cX3_addOrdered 0 = .ok (.aload_n 0, 1) := by decide +kernel
theorem dX3_addOrdered_1 : decode cX3_addOrdered 1 = .ok (.getfield 15, 3) := by decide +kernel
theorem dX3_addOrdered_4 : decode cX3_addOrdered 4 = .ok (.istore_n 3, 1) := by decide +kernel
theorem dX3_addOrdered_5 : decode cX3_addOrdered 5 = .ok (.iload_n 3, 1) := by decide +kernel
theorem dX3_addOrdered_6 : decode cX3_addOrdered 6 = .ok (.ifCond .le 40, 3) := by decide +kernel
theorem dX3_addOrdered_9 : decode cX3_addOrdered 9 = .ok (.aload_n 0, 1) := by decide +kernel
theorem dX3_addOrdered_10 : decode cX3_addOrdered 10 = .ok (.iload_n 3, 1) := by decide +kernel
theorem dX3_addOrdered_11 : decode cX3_addOrdered 11 = .ok (.iconst 1, 1) := by decide +kernel
theorem dX3_addOrdered_12 : decode cX3_addOrdered 12 = .ok (.isub, 1) := by decide +kernel
theorem dX3_addOrdered_13 : decode cX3_addOrdered 13 = .ok (.iconst 2, 1) := by decide +kernel
theorem dX3_addOrdered_14 : decode cX3_addOrdered 14 = .ok (.idiv, 1) := by decide +kernel
theorem dX3_addOrdered_15 : decode cX3_addOrdered 15 = .ok (.invokevirtual 32, 3) := by decide +kernel
theorem dX3_addOrdered_18 : decode cX3_addOrdered 18 = .ok (.lload_n 1, 1) := by decide +kernel
theorem dX3_addOrdered_19 : decode cX3_addOrdered 19 = .ok (.lcmp, 1) := by decide +kernel
theorem dX3_addOrdered_20 : decode cX3_addOrdered 20 = .ok (.ifCond .le 26, 3) := by decide +kernel
theorem dX3_addOrdered_23 : decode cX3_addOrdered 23 = .ok (.aload_n 0, 1) := by decide +kernel
theorem dX3_addOrdered_24 : decode cX3_addOrdered 24 = .ok (.iload_n 3, 1) := by decide +kernel
theorem dX3_addOrdered_25 : decode cX3_addOrdered 25 = .ok (.aload_n 0, 1) := by decide +kernel
theorem dX3_addOrdered_26 : decode cX3_addOrdered 26 = .ok (.iload_n 3, 1) := by decide +kernel
theorem dX3_addOrdered_27 : decode cX3_addOrdered 27 = .ok (.iconst 1, 1) := by decide +kernel
theorem dX3_addOrdered_28 : decode cX3_addOrdered 28 = .ok (.isub, 1) := by decide +kernel
theorem dX3_addOrdered_29 : decode cX3_addOrdered 29 = .ok (.iconst 2, 1) := by decide +kernel
theorem dX3_addOrdered_30 : decode cX3_addOrdered 30 = .ok (.idiv, 1) := by decide +kernel
theorem dX3_addOrdered_31 : decode cX3_addOrdered 31 = .ok (.invokevirtual 32, 3) := by decide +kernel
theorem dX3_addOrdered_34 : decode cX3_addOrdered 34 = .ok (.invokevirtual 22, 3) := by decide +kernel
theorem dX3_addOrdered_37 : decode cX3_addOrdered 37 = .ok (.iload_n 3, 1) := by decide +kernel
theorem dX3_addOrdered_38 : decode cX3_addOrdered 38 = .ok (.iconst 1, 1) := by decide +kernel
theorem dX3_addOrdered_39 : decode cX3_addOrdered 39 = .ok (.isub, 1) := by decide +kernel
theorem dX3_addOrdered_40 : decode cX3_addOrdered 40 = .ok (.iconst 2, 1) := by decide +kernel
theorem dX3_addOrdered_41 : decode cX3_addOrdered 41 = .ok (.idiv, 1) := by decide +kernel
theorem dX3_addOrdered_42 : decode cX3_addOrdered 42 = .ok (.istore_n 3, 1) := by decide +kernel
theorem dX3_addOrdered_43 : decode cX3_addOrdered 43 = .ok (.goto (-38), 3) := by decide +kernel
theorem dX3_addOrdered_46 : decode cX3_addOrdered 46 = .ok (.aload_n 0, 1) := by decide +kernel
theorem dX3_addOrdered_47 : decode cX3_addOrdered 47 = .ok (.iload_n 3, 1) := by decide +kernel
theorem dX3_addOrdered_48 : decode cX3_addOrdered 48 = .ok (.lload_n 1, 1) := by decide +kernel
theorem dX3_addOrdered_49 : decode cX3_addOrdered 49 = .ok (.invokevirtual 22, 3) := by decide +kernel
theorem dX3_addOrdered_52 : decode cX3_addOrdered 52 = .ok (.aload_n 0, 1) := by decide +kernel
theorem dX3_addOrdered_53 : decode cX3_addOrdered 53 = .ok (.dup, 1) := by decide +kernel
theorem dX3_addOrdered_54 : decode cX3_addOrdered 54 = .ok (.getfield 15, 3) := by decide +kernel
theorem dX3_addOrdered_57 : decode cX3_addOrdered 57 = .ok (.iconst 1, 1) := by decide +kernel
theorem dX3_addOrdered_58 : decode cX3_addOrdered 58 = .ok (.iadd, 1) := by decide +kernel
theorem dX3_addOrdered_59 : decode cX3_addOrdered 59 = .ok (.putfield 15, 3) := by decide +kernel
theorem dX3_addOrdered_62 : decode cX3_addOrdered 62 = .ok (.aload_n 0, 1) := by decide +kernel
theorem dX3_addOrdered_63 : decode cX3_addOrdered 63 = .ok (.aload_n 0, 1) := by decide +kernel
theorem dX3_addOrdered_64 : decode cX3_addOrdered 64 = .ok (.getfield 19, 3) := by decide +kernel
theorem dX3_addOrdered_67 : decode cX3_addOrdered 67 = .ok (.aload_n 0, 1) := by decide +kernel
theorem dX3_addOrdered_68 : decode cX3_addOrdered 68 = .ok (.getfield 15, 3) := by decide +kernel
theorem dX3_addOrdered_71 : decode cX3_addOrdered 71 = .ok (.invokestatic 26, 3) := by decide +kernel
theorem dX3_addOrdered_74 : decode cX3_addOrdered 74 = .ok (.putfield 19, 3) := by decide +kernel
theorem dX3_addOrdered_77 : decode cX3_addOrdered 77 = .ok (.return_, 1) := by decide +kernel
theorem dX3_takeLeast_0 : decode cX3_takeLeast 0 = .ok (.aload_n 0, 1) := by decide +kernel
theorem dX3_takeLeast_1 : decode cX3_takeLeast 1 = .ok (.iconst 0, 1) := by decide +kernel
theorem dX3_takeLeast_2 : decode cX3_takeLeast 2 = .ok (.invokevirtual 32, 3) := by decide +kernel
theorem dX3_takeLeast_5 : decode cX3_takeLeast 5 = .ok (.lstore_n 1, 1) := by decide +kernel
theorem dX3_takeLeast_6 : decode cX3_takeLeast 6 = .ok (.aload_n 0, 1) := by decide +kernel
theorem dX3_takeLeast_7 : decode cX3_takeLeast 7 = .ok (.invokevirtual 36, 3) := by decide +kernel
theorem dX3_takeLeast_10 : decode cX3_takeLeast 10 = .ok (.lstore_n 3, 1) := by decide +kernel
theorem dX3_takeLeast_11 : decode cX3_takeLeast 11 = .ok (.iconst 0, 1) := by decide +kernel
theorem dX3_takeLeast_12 : decode cX3_takeLeast 12 = .ok (.istore 5, 2) := by decide +kernel
theorem dX3_takeLeast_14 : decode cX3_takeLeast 14 = .ok (.iconst 0, 1) := by decide +kernel
theorem dX3_takeLeast_15 : decode cX3_takeLeast 15 = .ok (.istore 6, 2) := by decide +kernel
theorem dX3_takeLeast_17 : decode cX3_takeLeast 17 = .ok (.iload 6, 2) := by decide +kernel
theorem dX3_takeLeast_19 : decode cX3_takeLeast 19 = .ok (.sipush 720, 3) := by decide +kernel
theorem dX3_takeLeast_22 : decode cX3_takeLeast 22 = .ok (.if_icmp .ge 56, 3) := by decide +kernel
theorem dX3_takeLeast_25 : decode cX3_takeLeast 25 = .ok (.aload_n 0, 1) := by decide +kernel
theorem dX3_takeLeast_26 : decode cX3_takeLeast 26 = .ok (.iload 5, 2) := by decide +kernel
theorem dX3_takeLeast_28 : decode cX3_takeLeast 28 = .ok (.invokevirtual 40, 3) := by decide +kernel
theorem dX3_takeLeast_31 : decode cX3_takeLeast 31 = .ok (.istore 7, 2) := by decide +kernel
theorem dX3_takeLeast_33 : decode cX3_takeLeast 33 = .ok (.iload 7, 2) := by decide +kernel
theorem dX3_takeLeast_35 : decode cX3_takeLeast 35 = .ok (.aload_n 0, 1) := by decide +kernel
theorem dX3_takeLeast_36 : decode cX3_takeLeast 36 = .ok (.getfield 15, 3) := by decide +kernel
theorem dX3_takeLeast_39 : decode cX3_takeLeast 39 = .ok (.if_icmp .ge 39, 3) := by decide +kernel
theorem dX3_takeLeast_42 : decode cX3_takeLeast 42 = .ok (.aload_n 0, 1) := by decide +kernel
theorem dX3_takeLeast_43 : decode cX3_takeLeast 43 = .ok (.iload 7, 2) := by decide +kernel
theorem dX3_takeLeast_45 : decode cX3_takeLeast 45 = .ok (.invokevirtual 32, 3) := by decide +kernel
theorem dX3_takeLeast_48 : decode cX3_takeLeast 48 = .ok (.lload_n 3, 1) := by decide +kernel
theorem dX3_takeLeast_49 : decode cX3_takeLeast 49 = .ok (.lcmp, 1) := by decide +kernel
theorem dX3_takeLeast_50 : decode cX3_takeLeast 50 = .ok (.ifCond .lt 6, 3) := by decide +kernel
theorem dX3_takeLeast_53 : decode cX3_takeLeast 53 = .ok (.goto 25, 3) := by decide +kernel
theorem dX3_takeLeast_56 : decode cX3_takeLeast 56 = .ok (.aload_n 0, 1) := by decide +kernel
theorem dX3_takeLeast_57 : decode cX3_takeLeast 57 = .ok (.iload 5, 2) := by decide +kernel
theorem dX3_takeLeast_59 : decode cX3_takeLeast 59 = .ok (.aload_n 0, 1) := by decide +kernel
theorem dX3_takeLeast_60 : decode cX3_takeLeast 60 = .ok (.iload 7, 2) := by decide +kernel
theorem dX3_takeLeast_62 : decode cX3_takeLeast 62 = .ok (.invokevirtual 32, 3) := by decide +kernel
theorem dX3_takeLeast_65 : decode cX3_takeLeast 65 = .ok (.invokevirtual 22, 3) := by decide +kernel
theorem dX3_takeLeast_68 : decode cX3_takeLeast 68 = .ok (.iload 7, 2) := by decide +kernel
theorem dX3_takeLeast_70 : decode cX3_takeLeast 70 = .ok (.istore 5, 2) := by decide +kernel
theorem dX3_takeLeast_72 : decode cX3_takeLeast 72 = .ok (.iinc 6 1, 3) := by decide +kernel
theorem dX3_takeLeast_75 : decode cX3_takeLeast 75 = .ok (.goto (-58), 3) := by decide +kernel
theorem dX3_takeLeast_78 : decode cX3_takeLeast 78 = .ok (.aload_n 0, 1) := by decide +kernel
theorem dX3_takeLeast_79 : decode cX3_takeLeast 79 = .ok (.iload 5, 2) := by decide +kernel
theorem dX3_takeLeast_81 : decode cX3_takeLeast 81 = .ok (.lload_n 3, 1) := by decide +kernel
theorem dX3_takeLeast_82 : decode cX3_takeLeast 82 = .ok (.invokevirtual 22, 3) := by decide +kernel
theorem dX3_takeLeast_85 : decode cX3_takeLeast 85 = .ok (.lload_n 1, 1) := by decide +kernel
theorem dX3_takeLeast_86 : decode cX3_takeLeast 86 = .ok (.lreturn, 1) := by decide +kernel
theorem dX3_lesserChild_0 : decode cX3_lesserChild 0 = .ok (.iconst 2, 1) := by decide +kernel
theorem dX3_lesserChild_1 : decode cX3_lesserChild 1 = .ok (.iload_n 1, 1) := by decide +kernel
theorem dX3_lesserChild_2 : decode cX3_lesserChild 2 = .ok (.imul, 1) := by decide +kernel
theorem dX3_lesserChild_3 : decode cX3_lesserChild 3 = .ok (.iconst 1, 1) := by decide +kernel
theorem dX3_lesserChild_4 : decode cX3_lesserChild 4 = .ok (.iadd, 1) := by decide +kernel
theorem dX3_lesserChild_5 : decode cX3_lesserChild 5 = .ok (.istore_n 2, 1) := by decide +kernel
theorem dX3_lesserChild_6 : decode cX3_lesserChild 6 = .ok (.iload_n 2, 1) := by decide +kernel
theorem dX3_lesserChild_7 : decode cX3_lesserChild 7 = .ok (.iconst 1, 1) := by decide +kernel
theorem dX3_lesserChild_8 : decode cX3_lesserChild 8 = .ok (.iadd, 1) := by decide +kernel
theorem dX3_lesserChild_9 : decode cX3_lesserChild 9 = .ok (.aload_n 0, 1) := by decide +kernel
theorem dX3_lesserChild_10 : decode cX3_lesserChild 10 = .ok (.getfield 15, 3) := by decide +kernel
theorem dX3_lesserChild_13 : decode cX3_lesserChild 13 = .ok (.if_icmp .ge 25, 3) := by decide +kernel
theorem dX3_lesserChild_16 : decode cX3_lesserChild 16 = .ok (.aload_n 0, 1) := by decide +kernel
theorem dX3_lesserChild_17 : decode cX3_lesserChild 17 = .ok (.iload_n 2, 1) := by decide +kernel
theorem dX3_lesserChild_18 : decode cX3_lesserChild 18 = .ok (.iconst 1, 1) := by decide +kernel
theorem dX3_lesserChild_19 : decode cX3_lesserChild 19 = .ok (.iadd, 1) := by decide +kernel
theorem dX3_lesserChild_20 : decode cX3_lesserChild 20 = .ok (.invokevirtual 32, 3) := by decide +kernel
theorem dX3_lesserChild_23 : decode cX3_lesserChild 23 = .ok (.aload_n 0, 1) := by decide +kernel
theorem dX3_lesserChild_24 : decode cX3_lesserChild 24 = .ok (.iload_n 2, 1) := by decide +kernel
theorem dX3_lesserChild_25 : decode cX3_lesserChild 25 = .ok (.invokevirtual 32, 3) := by decide +kernel
theorem dX3_lesserChild_28 : decode cX3_lesserChild 28 = .ok (.lcmp, 1) := by decide +kernel
theorem dX3_lesserChild_29 : decode cX3_lesserChild 29 = .ok (.ifCond .ge 9, 3) := by decide +kernel
theorem dX3_lesserChild_32 : decode cX3_lesserChild 32 = .ok (.iload_n 2, 1) := by decide +kernel
theorem dX3_lesserChild_33 : decode cX3_lesserChild 33 = .ok (.iconst 1, 1) := by decide +kernel
theorem dX3_lesserChild_34 : decode cX3_lesserChild 34 = .ok (.iadd, 1) := by decide +kernel
theorem dX3_lesserChild_35 : decode cX3_lesserChild 35 = .ok (.goto 4, 3) := by decide +kernel
theorem dX3_lesserChild_38 : decode cX3_lesserChild 38 = .ok (.iload_n 2, 1) := by decide +kernel
theorem dX3_lesserChild_39 : decode cX3_lesserChild 39 = .ok (.ireturn, 1) := by decide +kernel
theorem dX4_init_0 : decode cX4_init 0 = .ok (.aload_n 0, 1) := by decide +kernel
theorem dX4_init_1 : decode cX4_init 1 = .ok (.invokespecial 3, 3) := by decide +kernel
theorem dX4_init_4 : decode cX4_init 4 = .ok (.aload_n 0, 1) := by decide +kernel
theorem dX4_init_5 : decode cX4_init 5 = .ok (.bipush 120, 2) := by decide +kernel
theorem dX4_init_7 : decode cX4_init 7 = .ok (.newarray .char, 2) := by decide +kernel
theorem dX4_init_9 : decode cX4_init 9 = .ok (.putfield 9, 3) := by decide +kernel
theorem dX4_init_12 : decode cX4_init 12 = .ok (.return_, 1) := by decide +kernel
theorem dX4_append_0 : decode cX4_append 0 = .ok (.aload_n 0, 1) := by decide +kernel
theorem dX4_append_1 : decode cX4_append 1 = .ok (.getfield 15, 3) := by decide +kernel
theorem dX4_append_4 : decode cX4_append 4 = .ok (.ifCond .lt 35, 3) := by decide +kernel
theorem dX4_append_7 : decode cX4_append 7 = .ok (.aload_n 0, 1) := by decide +kernel
theorem dX4_append_8 : decode cX4_append 8 = .ok (.getfield 15, 3) := by decide +kernel
theorem dX4_append_11 : decode cX4_append 11 = .ok (.aload_n 0, 1) := by decide +kernel
theorem dX4_append_12 : decode cX4_append 12 = .ok (.getfield 9, 3) := by decide +kernel
theorem dX4_append_15 : decode cX4_append 15 = .ok (.arraylength, 1) := by decide +kernel
theorem dX4_append_16 : decode cX4_append 16 = .ok (.if_icmp .ge 23, 3) := by decide +kernel
theorem dX4_append_19 : decode cX4_append 19 = .ok (.aload_n 0, 1) := by decide +kernel
theorem dX4_append_20 : decode cX4_append 20 = .ok (.getfield 9, 3) := by decide +kernel
theorem dX4_append_23 : decode cX4_append 23 = .ok (.aload_n 0, 1) := by decide +kernel
theorem dX4_append_24 : decode cX4_append 24 = .ok (.getfield 15, 3) := by decide +kernel
theorem dX4_append_27 : decode cX4_append 27 = .ok (.iload_n 1, 1) := by decide +kernel
theorem dX4_append_28 : decode cX4_append 28 = .ok (.castore, 1) := by decide +kernel
theorem dX4_append_29 : decode cX4_append 29 = .ok (.aload_n 0, 1) := by decide +kernel
theorem dX4_append_30 : decode cX4_append 30 = .ok (.dup, 1) := by decide +kernel
theorem dX4_append_31 : decode cX4_append 31 = .ok (.getfield 15, 3) := by decide +kernel
theorem dX4_append_34 : decode cX4_append 34 = .ok (.iconst 1, 1) := by decide +kernel
theorem dX4_append_35 : decode cX4_append 35 = .ok (.iadd, 1) := by decide +kernel
theorem dX4_append_36 : decode cX4_append 36 = .ok (.putfield 15, 3) := by decide +kernel
theorem dX4_append_39 : decode cX4_append 39 = .ok (.return_, 1) := by decide +kernel
theorem dX4_rewind_0 : decode cX4_rewind 0 = .ok (.aload_n 0, 1) := by decide +kernel
theorem dX4_rewind_1 : decode cX4_rewind 1 = .ok (.iconst 0, 1) := by decide +kernel
theorem dX4_rewind_2 : decode cX4_rewind 2 = .ok (.putfield 19, 3) := by decide +kernel
theorem dX4_rewind_5 : decode cX4_rewind 5 = .ok (.aload_n 0, 1) := by decide +kernel
theorem dX4_rewind_6 : decode cX4_rewind 6 = .ok (.iconst 0, 1) := by decide +kernel
theorem dX4_rewind_7 : decode cX4_rewind 7 = .ok (.putfield 22, 3) := by decide +kernel
theorem dX4_rewind_10 : decode cX4_rewind 10 = .ok (.return_, 1) := by decide +kernel
theorem dX4_firstFault_0 : decode cX4_firstFault 0 = .ok (.aload_n 0, 1) := by decide +kernel
theorem dX4_firstFault_1 : decode cX4_firstFault 1 = .ok (.invokevirtual 26, 3) := by decide +kernel
theorem dX4_firstFault_4 : decode cX4_firstFault 4 = .ok (.iconst 0, 1) := by decide +kernel
theorem dX4_firstFault_5 : decode cX4_firstFault 5 = .ok (.istore_n 1, 1) := by decide +kernel
theorem dX4_firstFault_6 : decode cX4_firstFault 6 = .ok (.iload_n 1, 1) := by decide +kernel
theorem dX4_firstFault_7 : decode cX4_firstFault 7 = .ok (.bipush 120, 2) := by decide +kernel
theorem dX4_firstFault_9 : decode cX4_firstFault 9 = .ok (.if_icmp .ge 19, 3) := by decide +kernel
theorem dX4_firstFault_12 : decode cX4_firstFault 12 = .ok (.aload_n 0, 1) := by decide +kernel
theorem dX4_firstFault_13 : decode cX4_firstFault 13 = .ok (.invokevirtual 29, 3) := by decide +kernel
theorem dX4_firstFault_16 : decode cX4_firstFault 16 = .ok (.ifCond .ne 6, 3) := by decide +kernel
theorem dX4_firstFault_19 : decode cX4_firstFault 19 = .ok (.goto 9, 3) := by decide +kernel
theorem dX4_firstFault_22 : decode cX4_firstFault 22 = .ok (.iinc 1 1, 3) := by decide +kernel
theorem dX4_firstFault_25 : decode cX4_firstFault 25 = .ok (.goto (-19), 3) := by decide +kernel
theorem dX4_firstFault_28 : decode cX4_firstFault 28 = .ok (.aload_n 0, 1) := by decide +kernel
theorem dX4_firstFault_29 : decode cX4_firstFault 29 = .ok (.getfield 22, 3) := by decide +kernel
theorem dX4_firstFault_32 : decode cX4_firstFault 32 = .ok (.ifCond .eq 10, 3) := by decide +kernel
theorem dX4_firstFault_35 : decode cX4_firstFault 35 = .ok (.aload_n 0, 1) := by decide +kernel
theorem dX4_firstFault_36 : decode cX4_firstFault 36 = .ok (.getfield 19, 3) := by decide +kernel
theorem dX4_firstFault_39 : decode cX4_firstFault 39 = .ok (.goto 4, 3) := by decide +kernel
theorem dX4_firstFault_42 : decode cX4_firstFault 42 = .ok (.iconst (-1), 1) := by decide +kernel
theorem dX4_firstFault_43 : decode cX4_firstFault 43 = .ok (.ireturn, 1) := by decide +kernel
theorem dX4_nextCommand_0 : decode cX4_nextCommand 0 = .ok (.aload_n 0, 1) := by decide +kernel
theorem dX4_nextCommand_1 : decode cX4_nextCommand 1 = .ok (.invokevirtual 33, 3) := by decide +kernel
theorem dX4_nextCommand_4 : decode cX4_nextCommand 4 = .ok (.aload_n 0, 1) := by decide +kernel
theorem dX4_nextCommand_5 : decode cX4_nextCommand 5 = .ok (.getfield 19, 3) := by decide +kernel
theorem dX4_nextCommand_8 : decode cX4_nextCommand 8 = .ok (.aload_n 0, 1) := by decide +kernel
theorem dX4_nextCommand_9 : decode cX4_nextCommand 9 = .ok (.getfield 15, 3) := by decide +kernel
theorem dX4_nextCommand_12 : decode cX4_nextCommand 12 = .ok (.if_icmp .lt 5, 3) := by decide +kernel
theorem dX4_nextCommand_15 : decode cX4_nextCommand 15 = .ok (.iconst 0, 1) := by decide +kernel
theorem dX4_nextCommand_16 : decode cX4_nextCommand 16 = .ok (.ireturn, 1) := by decide +kernel
theorem dX4_nextCommand_17 : decode cX4_nextCommand 17 = .ok (.aload_n 0, 1) := by decide +kernel
theorem dX4_nextCommand_18 : decode cX4_nextCommand 18 = .ok (.aload_n 0, 1) := by decide +kernel
theorem dX4_nextCommand_19 : decode cX4_nextCommand 19 = .ok (.invokevirtual 36, 3) := by decide +kernel
theorem dX4_nextCommand_22 : decode cX4_nextCommand 22 = .ok (.ifCond .ne 7, 3) := by decide +kernel
theorem dX4_nextCommand_25 : decode cX4_nextCommand 25 = .ok (.iconst 1, 1) := by decide +kernel
theorem dX4_nextCommand_26 : decode cX4_nextCommand 26 = .ok (.goto 4, 3) := by decide +kernel
theorem dX4_nextCommand_29 : decode cX4_nextCommand 29 = .ok (.iconst 0, 1) := by decide +kernel
theorem dX4_nextCommand_30 : decode cX4_nextCommand 30 = .ok (.putfield 22, 3) := by decide +kernel
theorem dX4_nextCommand_33 : decode cX4_nextCommand 33 = .ok (.aload_n 0, 1) := by decide +kernel
theorem dX4_nextCommand_34 : decode cX4_nextCommand 34 = .ok (.getfield 22, 3) := by decide +kernel
theorem dX4_nextCommand_37 : decode cX4_nextCommand 37 = .ok (.ifCond .ne 7, 3) := by decide +kernel
theorem dX4_nextCommand_40 : decode cX4_nextCommand 40 = .ok (.iconst 1, 1) := by decide +kernel
theorem dX4_nextCommand_41 : decode cX4_nextCommand 41 = .ok (.goto 4, 3) := by decide +kernel
theorem dX4_nextCommand_44 : decode cX4_nextCommand 44 = .ok (.iconst 0, 1) := by decide +kernel
theorem dX4_nextCommand_45 : decode cX4_nextCommand 45 = .ok (.ireturn, 1) := by decide +kernel
theorem dX4_readCommand_0 : decode cX4_readCommand 0 = .ok (.aload_n 0, 1) := by decide +kernel
theorem dX4_readCommand_1 : decode cX4_readCommand 1 = .ok (.aload_n 0, 1) := by decide +kernel
theorem dX4_readCommand_2 : decode cX4_readCommand 2 = .ok (.invokevirtual 39, 3) := by decide +kernel
theorem dX4_readCommand_5 : decode cX4_readCommand 5 = .ok (.putfield 43, 3) := by decide +kernel
theorem dX4_readCommand_8 : decode cX4_readCommand 8 = .ok (.aload_n 0, 1) := by decide +kernel
theorem dX4_readCommand_9 : decode cX4_readCommand 9 = .ok (.aload_n 0, 1) := by decide +kernel
theorem dX4_readCommand_10 : decode cX4_readCommand 10 = .ok (.getfield 43, 3) := by decide +kernel
theorem dX4_readCommand_13 : decode cX4_readCommand 13 = .ok (.iconst (-1), 1) := by decide +kernel
theorem dX4_readCommand_14 : decode cX4_readCommand 14 = .ok (.if_icmp .ne 7, 3) := by decide +kernel
theorem dX4_readCommand_17 : decode cX4_readCommand 17 = .ok (.iconst (-1), 1) := by decide +kernel
theorem dX4_readCommand_18 : decode cX4_readCommand 18 = .ok (.goto 7, 3) := by decide +kernel
theorem dX4_readCommand_21 : decode cX4_readCommand 21 = .ok (.aload_n 0, 1) := by decide +kernel
theorem dX4_readCommand_22 : decode cX4_readCommand 22 = .ok (.invokevirtual 46, 3) := by decide +kernel
theorem dX4_readCommand_25 : decode cX4_readCommand 25 = .ok (.putfield 49, 3) := by decide +kernel
theorem dX4_readCommand_28 : decode cX4_readCommand 28 = .ok (.aload_n 0, 1) := by decide +kernel
theorem dX4_readCommand_29 : decode cX4_readCommand 29 = .ok (.aload_n 0, 1) := by decide +kernel
theorem dX4_readCommand_30 : decode cX4_readCommand 30 = .ok (.getfield 49, 3) := by decide +kernel
theorem dX4_readCommand_33 : decode cX4_readCommand 33 = .ok (.iconst (-1), 1) := by decide +kernel
theorem dX4_readCommand_34 : decode cX4_readCommand 34 = .ok (.if_icmp .ne 7, 3) := by decide +kernel
theorem dX4_readCommand_37 : decode cX4_readCommand 37 = .ok (.iconst (-1), 1) := by decide +kernel
theorem dX4_readCommand_38 : decode cX4_readCommand 38 = .ok (.goto 7, 3) := by decide +kernel
theorem dX4_readCommand_41 : decode cX4_readCommand 41 = .ok (.aload_n 0, 1) := by decide +kernel
theorem dX4_readCommand_42 : decode cX4_readCommand 42 = .ok (.invokevirtual 46, 3) := by decide +kernel
theorem dX4_readCommand_45 : decode cX4_readCommand 45 = .ok (.putfield 52, 3) := by decide +kernel
theorem dX4_readCommand_48 : decode cX4_readCommand 48 = .ok (.aload_n 0, 1) := by decide +kernel
theorem dX4_readCommand_49 : decode cX4_readCommand 49 = .ok (.aload_n 0, 1) := by decide +kernel
theorem dX4_readCommand_50 : decode cX4_readCommand 50 = .ok (.getfield 52, 3) := by decide +kernel
theorem dX4_readCommand_53 : decode cX4_readCommand 53 = .ok (.iconst (-1), 1) := by decide +kernel
theorem dX4_readCommand_54 : decode cX4_readCommand 54 = .ok (.if_icmp .ne 7, 3) := by decide +kernel
theorem dX4_readCommand_57 : decode cX4_readCommand 57 = .ok (.iconst (-1), 1) := by decide +kernel
theorem dX4_readCommand_58 : decode cX4_readCommand 58 = .ok (.goto 7, 3) := by decide +kernel
theorem dX4_readCommand_61 : decode cX4_readCommand 61 = .ok (.aload_n 0, 1) := by decide +kernel
theorem dX4_readCommand_62 : decode cX4_readCommand 62 = .ok (.invokevirtual 46, 3) := by decide +kernel
theorem dX4_readCommand_65 : decode cX4_readCommand 65 = .ok (.putfield 55, 3) := by decide +kernel
theorem dX4_readCommand_68 : decode cX4_readCommand 68 = .ok (.aload_n 0, 1) := by decide +kernel
theorem dX4_readCommand_69 : decode cX4_readCommand 69 = .ok (.getfield 55, 3) := by decide +kernel
theorem dX4_readCommand_72 : decode cX4_readCommand 72 = .ok (.iconst (-1), 1) := by decide +kernel
theorem dX4_readCommand_73 : decode cX4_readCommand 73 = .ok (.if_icmp .eq 14, 3) := by decide +kernel
theorem dX4_readCommand_76 : decode cX4_readCommand 76 = .ok (.aload_n 0, 1) := by decide +kernel
theorem dX4_readCommand_77 : decode cX4_readCommand 77 = .ok (.invokevirtual 58, 3) := by decide +kernel
theorem dX4_readCommand_80 : decode cX4_readCommand 80 = .ok (.ifCond .eq 7, 3) := by decide +kernel
theorem dX4_readCommand_83 : decode cX4_readCommand 83 = .ok (.iconst 1, 1) := by decide +kernel
theorem dX4_readCommand_84 : decode cX4_readCommand 84 = .ok (.goto 4, 3) := by decide +kernel
theorem dX4_readCommand_87 : decode cX4_readCommand 87 = .ok (.iconst 0, 1) := by decide +kernel
theorem dX4_readCommand_88 : decode cX4_readCommand 88 = .ok (.ireturn, 1) := by decide +kernel
theorem dX4_readLetter_0 : decode cX4_readLetter 0 = .ok (.aload_n 0, 1) := by decide +kernel
theorem dX4_readLetter_1 : decode cX4_readLetter 1 = .ok (.invokevirtual 61, 3) := by decide +kernel
theorem dX4_readLetter_4 : decode cX4_readLetter 4 = .ok (.tableswitch 47 99 102 #[42, 37, 47, 32], 32) := by decide +kernel
theorem dX4_readLetter_36 : decode cX4_readLetter 36 = .ok (.iconst 0, 1) := by decide +kernel
theorem dX4_readLetter_37 : decode cX4_readLetter 37 = .ok (.istore_n 1, 1) := by decide +kernel
theorem dX4_readLetter_38 : decode cX4_readLetter 38 = .ok (.goto 15, 3) := by decide +kernel
theorem dX4_readLetter_41 : decode cX4_readLetter 41 = .ok (.iconst 1, 1) := by decide +kernel
theorem dX4_readLetter_42 : decode cX4_readLetter 42 = .ok (.istore_n 1, 1) := by decide +kernel
theorem dX4_readLetter_43 : decode cX4_readLetter 43 = .ok (.goto 10, 3) := by decide +kernel
theorem dX4_readLetter_46 : decode cX4_readLetter 46 = .ok (.iconst 2, 1) := by decide +kernel
theorem dX4_readLetter_47 : decode cX4_readLetter 47 = .ok (.istore_n 1, 1) := by decide +kernel
theorem dX4_readLetter_48 : decode cX4_readLetter 48 = .ok (.goto 5, 3) := by decide +kernel
theorem dX4_readLetter_51 : decode cX4_readLetter 51 = .ok (.iconst (-1), 1) := by decide +kernel
theorem dX4_readLetter_52 : decode cX4_readLetter 52 = .ok (.ireturn, 1) := by decide +kernel
theorem dX4_readLetter_53 : decode cX4_readLetter 53 = .ok (.aload_n 0, 1) := by decide +kernel
theorem dX4_readLetter_54 : decode cX4_readLetter 54 = .ok (.dup, 1) := by decide +kernel
theorem dX4_readLetter_55 : decode cX4_readLetter 55 = .ok (.getfield 19, 3) := by decide +kernel
theorem dX4_readLetter_58 : decode cX4_readLetter 58 = .ok (.iconst 1, 1) := by decide +kernel
theorem dX4_readLetter_59 : decode cX4_readLetter 59 = .ok (.iadd, 1) := by decide +kernel
theorem dX4_readLetter_60 : decode cX4_readLetter 60 = .ok (.putfield 19, 3) := by decide +kernel
theorem dX4_readLetter_63 : decode cX4_readLetter 63 = .ok (.iload_n 1, 1) := by decide +kernel
theorem dX4_readLetter_64 : decode cX4_readLetter 64 = .ok (.ireturn, 1) := by decide +kernel
theorem dX4_readNumber_0 : decode cX4_readNumber 0 = .ok (.aload_n 0, 1) := by decide +kernel
theorem dX4_readNumber_1 : decode cX4_readNumber 1 = .ok (.invokevirtual 33, 3) := by decide +kernel
theorem dX4_readNumber_4 : decode cX4_readNumber 4 = .ok (.aload_n 0, 1) := by decide +kernel
theorem dX4_readNumber_5 : decode cX4_readNumber 5 = .ok (.invokevirtual 64, 3) := by decide +kernel
theorem dX4_readNumber_8 : decode cX4_readNumber 8 = .ok (.ifCond .ne 5, 3) := by decide +kernel
theorem dX4_readNumber_11 : decode cX4_readNumber 11 = .ok (.iconst (-1), 1) := by decide +kernel
theorem dX4_readNumber_12 : decode cX4_readNumber 12 = .ok (.ireturn, 1) := by decide +kernel
theorem dX4_readNumber_13 : decode cX4_readNumber 13 = .ok (.aload_n 0, 1) := by decide +kernel
theorem dX4_readNumber_14 : decode cX4_readNumber 14 = .ok (.invokevirtual 61, 3) := by decide +kernel
theorem dX4_readNumber_17 : decode cX4_readNumber 17 = .ok (.bipush 48, 2) := by decide +kernel
theorem dX4_readNumber_19 : decode cX4_readNumber 19 = .ok (.isub, 1) := by decide +kernel
theorem dX4_readNumber_20 : decode cX4_readNumber 20 = .ok (.istore_n 1, 1) := by decide +kernel
theorem dX4_readNumber_21 : decode cX4_readNumber 21 = .ok (.aload_n 0, 1) := by decide +kernel
theorem dX4_readNumber_22 : decode cX4_readNumber 22 = .ok (.dup, 1) := by decide +kernel
theorem dX4_readNumber_23 : decode cX4_readNumber 23 = .ok (.getfield 19, 3) := by decide +kernel
theorem dX4_readNumber_26 : decode cX4_readNumber 26 = .ok (.iconst 1, 1) := by decide +kernel
theorem dX4_readNumber_27 : decode cX4_readNumber 27 = .ok (.iadd, 1) := by decide +kernel
theorem dX4_readNumber_28 : decode cX4_readNumber 28 = .ok (.putfield 19, 3) := by decide +kernel
theorem dX4_readNumber_31 : decode cX4_readNumber 31 = .ok (.aload_n 0, 1) := by decide +kernel
theorem dX4_readNumber_32 : decode cX4_readNumber 32 = .ok (.invokevirtual 64, 3) := by decide +kernel
theorem dX4_readNumber_35 : decode cX4_readNumber 35 = .ok (.ifCond .eq 26, 3) := by decide +kernel
theorem dX4_readNumber_38 : decode cX4_readNumber 38 = .ok (.bipush 10, 2) := by decide +kernel
theorem dX4_readNumber_40 : decode cX4_readNumber 40 = .ok (.iload_n 1, 1) := by decide +kernel
theorem dX4_readNumber_41 : decode cX4_readNumber 41 = .ok (.imul, 1) := by decide +kernel
theorem dX4_readNumber_42 : decode cX4_readNumber 42 = .ok (.aload_n 0, 1) := by decide +kernel
theorem dX4_readNumber_43 : decode cX4_readNumber 43 = .ok (.invokevirtual 61, 3) := by decide +kernel
theorem dX4_readNumber_46 : decode cX4_readNumber 46 = .ok (.iadd, 1) := by decide +kernel
theorem dX4_readNumber_47 : decode cX4_readNumber 47 = .ok (.bipush 48, 2) := by decide +kernel
theorem dX4_readNumber_49 : decode cX4_readNumber 49 = .ok (.isub, 1) := by decide +kernel
theorem dX4_readNumber_50 : decode cX4_readNumber 50 = .ok (.istore_n 1, 1) := by decide +kernel
theorem dX4_readNumber_51 : decode cX4_readNumber 51 = .ok (.aload_n 0, 1) := by decide +kernel
theorem dX4_readNumber_52 : decode cX4_readNumber 52 = .ok (.dup, 1) := by decide +kernel
theorem dX4_readNumber_53 : decode cX4_readNumber 53 = .ok (.getfield 19, 3) := by decide +kernel
theorem dX4_readNumber_56 : decode cX4_readNumber 56 = .ok (.iconst 1, 1) := by decide +kernel
theorem dX4_readNumber_57 : decode cX4_readNumber 57 = .ok (.iadd, 1) := by decide +kernel
theorem dX4_readNumber_58 : decode cX4_readNumber 58 = .ok (.putfield 19, 3) := by decide +kernel
theorem dX4_readNumber_61 : decode cX4_readNumber 61 = .ok (.aload_n 0, 1) := by decide +kernel
theorem dX4_readNumber_62 : decode cX4_readNumber 62 = .ok (.invokevirtual 64, 3) := by decide +kernel
theorem dX4_readNumber_65 : decode cX4_readNumber 65 = .ok (.ifCond .eq 7, 3) := by decide +kernel
theorem dX4_readNumber_68 : decode cX4_readNumber 68 = .ok (.iconst (-1), 1) := by decide +kernel
theorem dX4_readNumber_69 : decode cX4_readNumber 69 = .ok (.goto 4, 3) := by decide +kernel
theorem dX4_readNumber_72 : decode cX4_readNumber 72 = .ok (.iload_n 1, 1) := by decide +kernel
theorem dX4_readNumber_73 : decode cX4_readNumber 73 = .ok (.ireturn, 1) := by decide +kernel
theorem dX4_readEnd_0 : decode cX4_readEnd 0 = .ok (.aload_n 0, 1) := by decide +kernel
theorem dX4_readEnd_1 : decode cX4_readEnd 1 = .ok (.invokevirtual 33, 3) := by decide +kernel
theorem dX4_readEnd_4 : decode cX4_readEnd 4 = .ok (.aload_n 0, 1) := by decide +kernel
theorem dX4_readEnd_5 : decode cX4_readEnd 5 = .ok (.invokevirtual 61, 3) := by decide +kernel
theorem dX4_readEnd_8 : decode cX4_readEnd 8 = .ok (.bipush 59, 2) := by decide +kernel
theorem dX4_readEnd_10 : decode cX4_readEnd 10 = .ok (.if_icmp .eq 5, 3) := by decide +kernel
theorem dX4_readEnd_13 : decode cX4_readEnd 13 = .ok (.iconst 0, 1) := by decide +kernel
theorem dX4_readEnd_14 : decode cX4_readEnd 14 = .ok (.ireturn, 1) := by decide +kernel
theorem dX4_readEnd_15 : decode cX4_readEnd 15 = .ok (.aload_n 0, 1) := by decide +kernel
theorem dX4_readEnd_16 : decode cX4_readEnd 16 = .ok (.dup, 1) := by decide +kernel
theorem dX4_readEnd_17 : decode cX4_readEnd 17 = .ok (.getfield 19, 3) := by decide +kernel
theorem dX4_readEnd_20 : decode cX4_readEnd 20 = .ok (.iconst 1, 1) := by decide +kernel
theorem dX4_readEnd_21 : decode cX4_readEnd 21 = .ok (.iadd, 1) := by decide +kernel
theorem dX4_readEnd_22 : decode cX4_readEnd 22 = .ok (.putfield 19, 3) := by decide +kernel
theorem dX4_readEnd_25 : decode cX4_readEnd 25 = .ok (.iconst 1, 1) := by decide +kernel
theorem dX4_readEnd_26 : decode cX4_readEnd 26 = .ok (.ireturn, 1) := by decide +kernel
theorem dX4_skipSpaces_0 : decode cX4_skipSpaces 0 = .ok (.aload_n 0, 1) := by decide +kernel
theorem dX4_skipSpaces_1 : decode cX4_skipSpaces 1 = .ok (.getfield 19, 3) := by decide +kernel
theorem dX4_skipSpaces_4 : decode cX4_skipSpaces 4 = .ok (.aload_n 0, 1) := by decide +kernel
theorem dX4_skipSpaces_5 : decode cX4_skipSpaces 5 = .ok (.getfield 15, 3) := by decide +kernel
theorem dX4_skipSpaces_8 : decode cX4_skipSpaces 8 = .ok (.if_icmp .ge 25, 3) := by decide +kernel
theorem dX4_skipSpaces_11 : decode cX4_skipSpaces 11 = .ok (.aload_n 0, 1) := by decide +kernel
theorem dX4_skipSpaces_12 : decode cX4_skipSpaces 12 = .ok (.invokevirtual 61, 3) := by decide +kernel
theorem dX4_skipSpaces_15 : decode cX4_skipSpaces 15 = .ok (.bipush 32, 2) := by decide +kernel
theorem dX4_skipSpaces_17 : decode cX4_skipSpaces 17 = .ok (.if_icmp .ne 16, 3) := by decide +kernel
theorem dX4_skipSpaces_20 : decode cX4_skipSpaces 20 = .ok (.aload_n 0, 1) := by decide +kernel
theorem dX4_skipSpaces_21 : decode cX4_skipSpaces 21 = .ok (.dup, 1) := by decide +kernel
theorem dX4_skipSpaces_22 : decode cX4_skipSpaces 22 = .ok (.getfield 19, 3) := by decide +kernel
theorem dX4_skipSpaces_25 : decode cX4_skipSpaces 25 = .ok (.iconst 1, 1) := by decide +kernel
theorem dX4_skipSpaces_26 : decode cX4_skipSpaces 26 = .ok (.iadd, 1) := by decide +kernel
theorem dX4_skipSpaces_27 : decode cX4_skipSpaces 27 = .ok (.putfield 19, 3) := by decide +kernel
theorem dX4_skipSpaces_30 : decode cX4_skipSpaces 30 = .ok (.goto (-30), 3) := by decide +kernel
theorem dX4_skipSpaces_33 : decode cX4_skipSpaces 33 = .ok (.return_, 1) := by decide +kernel
theorem dX4_isDigitHere_0 : decode cX4_isDigitHere 0 = .ok (.aload_n 0, 1) := by decide +kernel
theorem dX4_isDigitHere_1 : decode cX4_isDigitHere 1 = .ok (.invokevirtual 61, 3) := by decide +kernel
theorem dX4_isDigitHere_4 : decode cX4_isDigitHere 4 = .ok (.bipush 48, 2) := by decide +kernel
theorem dX4_isDigitHere_6 : decode cX4_isDigitHere 6 = .ok (.if_icmp .lt 16, 3) := by decide +kernel
theorem dX4_isDigitHere_9 : decode cX4_isDigitHere 9 = .ok (.aload_n 0, 1) := by decide +kernel
theorem dX4_isDigitHere_10 : decode cX4_isDigitHere 10 = .ok (.invokevirtual 61, 3) := by decide +kernel
theorem dX4_isDigitHere_13 : decode cX4_isDigitHere 13 = .ok (.bipush 57, 2) := by decide +kernel
theorem dX4_isDigitHere_15 : decode cX4_isDigitHere 15 = .ok (.if_icmp .gt 7, 3) := by decide +kernel
theorem dX4_isDigitHere_18 : decode cX4_isDigitHere 18 = .ok (.iconst 1, 1) := by decide +kernel
theorem dX4_isDigitHere_19 : decode cX4_isDigitHere 19 = .ok (.goto 4, 3) := by decide +kernel
theorem dX4_isDigitHere_22 : decode cX4_isDigitHere 22 = .ok (.iconst 0, 1) := by decide +kernel
theorem dX4_isDigitHere_23 : decode cX4_isDigitHere 23 = .ok (.ireturn, 1) := by decide +kernel
theorem dX4_here_0 : decode cX4_here 0 = .ok (.aload_n 0, 1) := by decide +kernel
theorem dX4_here_1 : decode cX4_here 1 = .ok (.getfield 19, 3) := by decide +kernel
theorem dX4_here_4 : decode cX4_here 4 = .ok (.ifCond .lt 38, 3) := by decide +kernel
theorem dX4_here_7 : decode cX4_here 7 = .ok (.aload_n 0, 1) := by decide +kernel
theorem dX4_here_8 : decode cX4_here 8 = .ok (.getfield 19, 3) := by decide +kernel
theorem dX4_here_11 : decode cX4_here 11 = .ok (.aload_n 0, 1) := by decide +kernel
theorem dX4_here_12 : decode cX4_here 12 = .ok (.getfield 15, 3) := by decide +kernel
theorem dX4_here_15 : decode cX4_here 15 = .ok (.if_icmp .ge 27, 3) := by decide +kernel
theorem dX4_here_18 : decode cX4_here 18 = .ok (.aload_n 0, 1) := by decide +kernel
theorem dX4_here_19 : decode cX4_here 19 = .ok (.getfield 19, 3) := by decide +kernel
theorem dX4_here_22 : decode cX4_here 22 = .ok (.aload_n 0, 1) := by decide +kernel
theorem dX4_here_23 : decode cX4_here 23 = .ok (.getfield 9, 3) := by decide +kernel
theorem dX4_here_26 : decode cX4_here 26 = .ok (.arraylength, 1) := by decide +kernel
theorem dX4_here_27 : decode cX4_here 27 = .ok (.if_icmp .ge 15, 3) := by decide +kernel
theorem dX4_here_30 : decode cX4_here 30 = .ok (.aload_n 0, 1) := by decide +kernel
theorem dX4_here_31 : decode cX4_here 31 = .ok (.getfield 9, 3) := by decide +kernel
theorem dX4_here_34 : decode cX4_here 34 = .ok (.aload_n 0, 1) := by decide +kernel
theorem dX4_here_35 : decode cX4_here 35 = .ok (.getfield 19, 3) := by decide +kernel
theorem dX4_here_38 : decode cX4_here 38 = .ok (.caload, 1) := by decide +kernel
theorem dX4_here_39 : decode cX4_here 39 = .ok (.goto 4, 3) := by decide +kernel
theorem dX4_here_42 : decode cX4_here 42 = .ok (.iconst 0, 1) := by decide +kernel
theorem dX4_here_43 : decode cX4_here 43 = .ok (.ireturn, 1) := by decide +kernel
theorem dX5_init_0 : decode cX5_init 0 = .ok (.aload_n 0, 1) := by decide +kernel
theorem dX5_init_1 : decode cX5_init 1 = .ok (.invokespecial 3, 3) := by decide +kernel
theorem dX5_init_4 : decode cX5_init 4 = .ok (.aload_n 0, 1) := by decide +kernel
theorem dX5_init_5 : decode cX5_init 5 = .ok (.bipush 7, 2) := by decide +kernel
theorem dX5_init_7 : decode cX5_init 7 = .ok (.newarray .int, 2) := by decide +kernel
theorem dX5_init_9 : decode cX5_init 9 = .ok (.putfield 9, 3) := by decide +kernel
theorem dX5_init_12 : decode cX5_init 12 = .ok (.aload_n 0, 1) := by decide +kernel
theorem dX5_init_13 : decode cX5_init 13 = .ok (.new 15, 3) := by decide +kernel
theorem dX5_init_16 : decode cX5_init 16 = .ok (.dup, 1) := by decide +kernel
theorem dX5_init_17 : decode cX5_init 17 = .ok (.invokespecial 17, 3) := by decide +kernel
theorem dX5_init_20 : decode cX5_init 20 = .ok (.putfield 18, 3) := by decide +kernel
theorem dX5_init_23 : decode cX5_init 23 = .ok (.aload_n 0, 1) := by decide +kernel
theorem dX5_init_24 : decode cX5_init 24 = .ok (.new 22, 3) := by decide +kernel
theorem dX5_init_27 : decode cX5_init 27 = .ok (.dup, 1) := by decide +kernel
theorem dX5_init_28 : decode cX5_init 28 = .ok (.invokespecial 24, 3) := by decide +kernel
theorem dX5_init_31 : decode cX5_init 31 = .ok (.putfield 25, 3) := by decide +kernel
theorem dX5_init_34 : decode cX5_init 34 = .ok (.aload_n 0, 1) := by decide +kernel
theorem dX5_init_35 : decode cX5_init 35 = .ok (.new 29, 3) := by decide +kernel
theorem dX5_init_38 : decode cX5_init 38 = .ok (.dup, 1) := by decide +kernel
theorem dX5_init_39 : decode cX5_init 39 = .ok (.invokespecial 31, 3) := by decide +kernel
theorem dX5_init_42 : decode cX5_init 42 = .ok (.putfield 32, 3) := by decide +kernel
theorem dX5_init_45 : decode cX5_init 45 = .ok (.aload_n 0, 1) := by decide +kernel
theorem dX5_init_46 : decode cX5_init 46 = .ok (.bipush 6, 2) := by decide +kernel
theorem dX5_init_48 : decode cX5_init 48 = .ok (.newarray .int, 2) := by decide +kernel
theorem dX5_init_50 : decode cX5_init 50 = .ok (.putfield 36, 3) := by decide +kernel
theorem dX5_init_53 : decode cX5_init 53 = .ok (.aload_n 0, 1) := by decide +kernel
theorem dX5_init_54 : decode cX5_init 54 = .ok (.bipush 6, 2) := by decide +kernel
theorem dX5_init_56 : decode cX5_init 56 = .ok (.newarray .int, 2) := by decide +kernel
theorem dX5_init_58 : decode cX5_init 58 = .ok (.putfield 39, 3) := by decide +kernel
theorem dX5_init_61 : decode cX5_init 61 = .ok (.return_, 1) := by decide +kernel
theorem dX5_result_0 : decode cX5_result 0 = .ok (.aload_n 0, 1) := by decide +kernel
theorem dX5_result_1 : decode cX5_result 1 = .ok (.getfield 42, 3) := by decide +kernel
theorem dX5_result_4 : decode cX5_result 4 = .ok (.ifCond .ne 5, 3) := by decide +kernel
theorem dX5_result_7 : decode cX5_result 7 = .ok (.iconst (-1), 1) := by decide +kernel
theorem dX5_result_8 : decode cX5_result 8 = .ok (.ireturn, 1) := by decide +kernel
theorem dX5_result_9 : decode cX5_result 9 = .ok (.iload_n 1, 1) := by decide +kernel
theorem dX5_result_10 : decode cX5_result 10 = .ok (.tableswitch 68 0 5 #[38, 43, 48, 53, 58, 63], 38) := by decide +kernel
theorem dX5_result_48 : decode cX5_result 48 = .ok (.aload_n 0, 1) := by decide +kernel
theorem dX5_result_49 : decode cX5_result 49 = .ok (.getfield 46, 3) := by decide +kernel
theorem dX5_result_52 : decode cX5_result 52 = .ok (.ireturn, 1) := by decide +kernel
theorem dX5_result_53 : decode cX5_result 53 = .ok (.aload_n 0, 1) := by decide +kernel
theorem dX5_result_54 : decode cX5_result 54 = .ok (.getfield 50, 3) := by decide +kernel
theorem dX5_result_57 : decode cX5_result 57 = .ok (.ireturn, 1) := by decide +kernel
theorem dX5_result_58 : decode cX5_result 58 = .ok (.aload_n 0, 1) := by decide +kernel
theorem dX5_result_59 : decode cX5_result 59 = .ok (.getfield 53, 3) := by decide +kernel
theorem dX5_result_62 : decode cX5_result 62 = .ok (.ireturn, 1) := by decide +kernel
theorem dX5_result_63 : decode cX5_result 63 = .ok (.aload_n 0, 1) := by decide +kernel
theorem dX5_result_64 : decode cX5_result 64 = .ok (.getfield 56, 3) := by decide +kernel
theorem dX5_result_67 : decode cX5_result 67 = .ok (.ireturn, 1) := by decide +kernel
theorem dX5_result_68 : decode cX5_result 68 = .ok (.aload_n 0, 1) := by decide +kernel
theorem dX5_result_69 : decode cX5_result 69 = .ok (.getfield 59, 3) := by decide +kernel
theorem dX5_result_72 : decode cX5_result 72 = .ok (.ireturn, 1) := by decide +kernel
theorem dX5_result_73 : decode cX5_result 73 = .ok (.aload_n 0, 1) := by decide +kernel
theorem dX5_result_74 : decode cX5_result 74 = .ok (.getfield 62, 3) := by decide +kernel
theorem dX5_result_77 : decode cX5_result 77 = .ok (.ireturn, 1) := by decide +kernel
theorem dX5_result_78 : decode cX5_result 78 = .ok (.aload_n 0, 1) := by decide +kernel
theorem dX5_result_79 : decode cX5_result 79 = .ok (.getfield 65, 3) := by decide +kernel
theorem dX5_result_82 : decode cX5_result 82 = .ok (.ireturn, 1) := by decide +kernel
theorem dX5_make_0 : decode cX5_make 0 = .ok (.aload_n 0, 1) := by decide +kernel
theorem dX5_make_1 : decode cX5_make 1 = .ok (.aload_n 1, 1) := by decide +kernel
theorem dX5_make_2 : decode cX5_make 2 = .ok (.iload_n 2, 1) := by decide +kernel
theorem dX5_make_3 : decode cX5_make 3 = .ok (.iload_n 3, 1) := by decide +kernel
theorem dX5_make_4 : decode cX5_make 4 = .ok (.invokevirtual 68, 3) := by decide +kernel
theorem dX5_make_7 : decode cX5_make 7 = .ok (.aload_n 0, 1) := by decide +kernel
theorem dX5_make_8 : decode cX5_make 8 = .ok (.aload_n 1, 1) := by decide +kernel
theorem dX5_make_9 : decode cX5_make 9 = .ok (.invokevirtual 72, 3) := by decide +kernel
theorem dX5_make_12 : decode cX5_make 12 = .ok (.iconst 0, 1) := by decide +kernel
theorem dX5_make_13 : decode cX5_make 13 = .ok (.istore 4, 2) := by decide +kernel
theorem dX5_make_15 : decode cX5_make 15 = .ok (.iload 4, 2) := by decide +kernel
theorem dX5_make_17 : decode cX5_make 17 = .ok (.sipush 1957, 3) := by decide +kernel
theorem dX5_make_20 : decode cX5_make 20 = .ok (.if_icmp .ge 60, 3) := by decide +kernel
theorem dX5_make_23 : decode cX5_make 23 = .ok (.aload_n 0, 1) := by decide +kernel
theorem dX5_make_24 : decode cX5_make 24 = .ok (.getfield 18, 3) := by decide +kernel
theorem dX5_make_27 : decode cX5_make 27 = .ok (.getfield 76, 3) := by decide +kernel
theorem dX5_make_30 : decode cX5_make 30 = .ok (.ifCond .le 50, 3) := by decide +kernel
theorem dX5_make_33 : decode cX5_make 33 = .ok (.aload_n 0, 1) := by decide +kernel
theorem dX5_make_34 : decode cX5_make 34 = .ok (.aload_n 0, 1) := by decide +kernel
theorem dX5_make_35 : decode cX5_make 35 = .ok (.getfield 79, 3) := by decide +kernel
theorem dX5_make_38 : decode cX5_make 38 = .ok (.ifCond .eq 13, 3) := by decide +kernel
theorem dX5_make_41 : decode cX5_make 41 = .ok (.aload_n 0, 1) := by decide +kernel
theorem dX5_make_42 : decode cX5_make 42 = .ok (.getfield 18, 3) := by decide +kernel
theorem dX5_make_45 : decode cX5_make 45 = .ok (.invokevirtual 82, 3) := by decide +kernel
theorem dX5_make_48 : decode cX5_make 48 = .ok (.goto 10, 3) := by decide +kernel
theorem dX5_make_51 : decode cX5_make 51 = .ok (.aload_n 0, 1) := by decide +kernel
theorem dX5_make_52 : decode cX5_make 52 = .ok (.getfield 18, 3) := by decide +kernel
theorem dX5_make_55 : decode cX5_make 55 = .ok (.invokevirtual 86, 3) := by decide +kernel
theorem dX5_make_58 : decode cX5_make 58 = .ok (.invokevirtual 89, 3) := by decide +kernel
theorem dX5_make_61 : decode cX5_make 61 = .ok (.aload_n 0, 1) := by decide +kernel
theorem dX5_make_62 : decode cX5_make 62 = .ok (.aload_n 1, 1) := by decide +kernel
theorem dX5_make_63 : decode cX5_make 63 = .ok (.invokevirtual 93, 3) := by decide +kernel
theorem dX5_make_66 : decode cX5_make 66 = .ok (.ifCond .eq 8, 3) := by decide +kernel
theorem dX5_make_69 : decode cX5_make 69 = .ok (.aload_n 0, 1) := by decide +kernel
theorem dX5_make_70 : decode cX5_make 70 = .ok (.aload_n 1, 1) := by decide +kernel
theorem dX5_make_71 : decode cX5_make 71 = .ok (.invokevirtual 97, 3) := by decide +kernel
theorem dX5_make_74 : decode cX5_make 74 = .ok (.iinc 4 1, 3) := by decide +kernel
theorem dX5_make_77 : decode cX5_make 77 = .ok (.goto (-62), 3) := by decide +kernel
theorem dX5_make_80 : decode cX5_make 80 = .ok (.aload_n 0, 1) := by decide +kernel
theorem dX5_make_81 : decode cX5_make 81 = .ok (.aload_n 0, 1) := by decide +kernel
theorem dX5_make_82 : decode cX5_make 82 = .ok (.getfield 18, 3) := by decide +kernel
theorem dX5_make_85 : decode cX5_make 85 = .ok (.getfield 100, 3) := by decide +kernel
theorem dX5_make_88 : decode cX5_make 88 = .ok (.putfield 62, 3) := by decide +kernel
theorem dX5_make_91 : decode cX5_make 91 = .ok (.return_, 1) := by decide +kernel
theorem dX5_begin_0 : decode cX5_begin 0 = .ok (.aload_n 0, 1) := by decide +kernel
theorem dX5_begin_1 : decode cX5_begin 1 = .ok (.iconst 1, 1) := by decide +kernel
theorem dX5_begin_2 : decode cX5_begin 2 = .ok (.putfield 42, 3) := by decide +kernel
theorem dX5_begin_5 : decode cX5_begin 5 = .ok (.aload_n 0, 1) := by decide +kernel
theorem dX5_begin_6 : decode cX5_begin 6 = .ok (.iload_n 2, 1) := by decide +kernel
theorem dX5_begin_7 : decode cX5_begin 7 = .ok (.putfield 79, 3) := by decide +kernel
theorem dX5_begin_10 : decode cX5_begin 10 = .ok (.aload_n 0, 1) := by decide +kernel
theorem dX5_begin_11 : decode cX5_begin 11 = .ok (.iload_n 3, 1) := by decide +kernel
theorem dX5_begin_12 : decode cX5_begin 12 = .ok (.putfield 103, 3) := by decide +kernel
theorem dX5_begin_15 : decode cX5_begin 15 = .ok (.aload_n 0, 1) := by decide +kernel
theorem dX5_begin_16 : decode cX5_begin 16 = .ok (.aload_n 1, 1) := by decide +kernel
theorem dX5_begin_17 : decode cX5_begin 17 = .ok (.getfield 106, 3) := by decide +kernel
theorem dX5_begin_20 : decode cX5_begin 20 = .ok (.putfield 65, 3) := by decide +kernel
theorem dX5_begin_23 : decode cX5_begin 23 = .ok (.aload_n 0, 1) := by decide +kernel
theorem dX5_begin_24 : decode cX5_begin 24 = .ok (.ldc 111, 2) := by decide +kernel
theorem dX5_begin_26 : decode cX5_begin 26 = .ok (.putfield 46, 3) := by decide +kernel
theorem dX5_begin_29 : decode cX5_begin 29 = .ok (.aload_n 0, 1) := by decide +kernel
theorem dX5_begin_30 : decode cX5_begin 30 = .ok (.iconst (-1), 1) := by decide +kernel
theorem dX5_begin_31 : decode cX5_begin 31 = .ok (.putfield 50, 3) := by decide +kernel
theorem dX5_begin_34 : decode cX5_begin 34 = .ok (.aload_n 0, 1) := by decide +kernel
theorem dX5_begin_35 : decode cX5_begin 35 = .ok (.iconst 0, 1) := by decide +kernel
theorem dX5_begin_36 : decode cX5_begin 36 = .ok (.putfield 53, 3) := by decide +kernel
theorem dX5_begin_39 : decode cX5_begin 39 = .ok (.aload_n 0, 1) := by decide +kernel
theorem dX5_begin_40 : decode cX5_begin 40 = .ok (.iconst 0, 1) := by decide +kernel
theorem dX5_begin_41 : decode cX5_begin 41 = .ok (.putfield 56, 3) := by decide +kernel
theorem dX5_begin_44 : decode cX5_begin 44 = .ok (.aload_n 0, 1) := by decide +kernel
theorem dX5_begin_45 : decode cX5_begin 45 = .ok (.iconst 0, 1) := by decide +kernel
theorem dX5_begin_46 : decode cX5_begin 46 = .ok (.putfield 59, 3) := by decide +kernel
theorem dX5_begin_49 : decode cX5_begin 49 = .ok (.aload_n 0, 1) := by decide +kernel
theorem dX5_begin_50 : decode cX5_begin 50 = .ok (.iconst 0, 1) := by decide +kernel
theorem dX5_begin_51 : decode cX5_begin 51 = .ok (.putfield 112, 3) := by decide +kernel
theorem dX5_begin_54 : decode cX5_begin 54 = .ok (.aload_n 0, 1) := by decide +kernel
theorem dX5_begin_55 : decode cX5_begin 55 = .ok (.getfield 18, 3) := by decide +kernel
theorem dX5_begin_58 : decode cX5_begin 58 = .ok (.invokevirtual 115, 3) := by decide +kernel
theorem dX5_begin_61 : decode cX5_begin 61 = .ok (.iconst 0, 1) := by decide +kernel
theorem dX5_begin_62 : decode cX5_begin 62 = .ok (.istore 4, 2) := by decide +kernel
theorem dX5_begin_64 : decode cX5_begin 64 = .ok (.iload 4, 2) := by decide +kernel
theorem dX5_begin_66 : decode cX5_begin 66 = .ok (.bipush 6, 2) := by decide +kernel
theorem dX5_begin_68 : decode cX5_begin 68 = .ok (.if_icmp .gt 17, 3) := by decide +kernel
theorem dX5_begin_71 : decode cX5_begin 71 = .ok (.aload_n 0, 1) := by decide +kernel
theorem dX5_begin_72 : decode cX5_begin 72 = .ok (.getfield 9, 3) := by decide +kernel
theorem dX5_begin_75 : decode cX5_begin 75 = .ok (.iload 4, 2) := by decide +kernel
theorem dX5_begin_77 : decode cX5_begin 77 = .ok (.iconst 0, 1) := by decide +kernel
theorem dX5_begin_78 : decode cX5_begin 78 = .ok (.iastore, 1) := by decide +kernel
theorem dX5_begin_79 : decode cX5_begin 79 = .ok (.iinc 4 1, 3) := by decide +kernel
theorem dX5_begin_82 : decode cX5_begin 82 = .ok (.goto (-18), 3) := by decide +kernel
theorem dX5_begin_85 : decode cX5_begin 85 = .ok (.aload_n 1, 1) := by decide +kernel
theorem dX5_begin_86 : decode cX5_begin 86 = .ok (.getfield 118, 3) := by decide +kernel
theorem dX5_begin_89 : decode cX5_begin 89 = .ok (.iconst 0, 1) := by decide +kernel
theorem dX5_begin_90 : decode cX5_begin 90 = .ok (.aload_n 0, 1) := by decide +kernel
theorem dX5_begin_91 : decode cX5_begin 91 = .ok (.getfield 36, 3) := by decide +kernel
theorem dX5_begin_94 : decode cX5_begin 94 = .ok (.iconst 0, 1) := by decide +kernel
theorem dX5_begin_95 : decode cX5_begin 95 = .ok (.bipush 6, 2) := by decide +kernel
theorem dX5_begin_97 : decode cX5_begin 97 = .ok (.invokestatic 119, 3) := by decide +kernel
theorem dX5_begin_100 : decode cX5_begin 100 = .ok (.return_, 1) := by decide +kernel
theorem dX5_admit_0 : decode cX5_admit 0 = .ok (.aload_n 0, 1) := by decide +kernel
theorem dX5_admit_1 : decode cX5_admit 1 = .ok (.getfield 79, 3) := by decide +kernel
theorem dX5_admit_4 : decode cX5_admit 4 = .ok (.ifCond .ne 15, 3) := by decide +kernel
theorem dX5_admit_7 : decode cX5_admit 7 = .ok (.aload_n 0, 1) := by decide +kernel
theorem dX5_admit_8 : decode cX5_admit 8 = .ok (.getfield 18, 3) := by decide +kernel
theorem dX5_admit_11 : decode cX5_admit 11 = .ok (.aload_n 0, 1) := by decide +kernel
theorem dX5_admit_12 : decode cX5_admit 12 = .ok (.invokevirtual 125, 3) := by decide +kernel
theorem dX5_admit_15 : decode cX5_admit 15 = .ok (.invokevirtual 128, 3) := by decide +kernel
theorem dX5_admit_18 : decode cX5_admit 18 = .ok (.return_, 1) := by decide +kernel
theorem dX5_admit_19 : decode cX5_admit 19 = .ok (.aload_n 0, 1) := by decide +kernel
theorem dX5_admit_20 : decode cX5_admit 20 = .ok (.getfield 25, 3) := by decide +kernel
theorem dX5_admit_23 : decode cX5_admit 23 = .ok (.aload_n 1, 1) := by decide +kernel
theorem dX5_admit_24 : decode cX5_admit 24 = .ok (.aload_n 0, 1) := by decide +kernel
theorem dX5_admit_25 : decode cX5_admit 25 = .ok (.getfield 36, 3) := by decide +kernel
theorem dX5_admit_28 : decode cX5_admit 28 = .ok (.invokevirtual 131, 3) := by decide +kernel
theorem dX5_admit_31 : decode cX5_admit 31 = .ok (.aload_n 0, 1) := by decide +kernel
theorem dX5_admit_32 : decode cX5_admit 32 = .ok (.getfield 25, 3) := by decide +kernel
theorem dX5_admit_35 : decode cX5_admit 35 = .ok (.invokevirtual 135, 3) := by decide +kernel
theorem dX5_admit_38 : decode cX5_admit 38 = .ok (.i2l, 1) := by decide +kernel
theorem dX5_admit_39 : decode cX5_admit 39 = .ok (.lstore_n 2, 1) := by decide +kernel
theorem dX5_admit_40 : decode cX5_admit 40 = .ok (.aload_n 0, 1) := by decide +kernel
theorem dX5_admit_41 : decode cX5_admit 41 = .ok (.getfield 18, 3) := by decide +kernel
theorem dX5_admit_44 : decode cX5_admit 44 = .ok (.lload_n 2, 1) := by decide +kernel
theorem dX5_admit_45 : decode cX5_admit 45 = .ok (.bipush 32, 2) := by decide +kernel
theorem dX5_admit_47 : decode cX5_admit 47 = .ok (.lshl, 1) := by decide +kernel
theorem dX5_admit_48 : decode cX5_admit 48 = .ok (.aload_n 0, 1) := by decide +kernel
theorem dX5_admit_49 : decode cX5_admit 49 = .ok (.getfield 25, 3) := by decide +kernel
theorem dX5_admit_52 : decode cX5_admit 52 = .ok (.getfield 139, 3) := by decide +kernel
theorem dX5_admit_55 : decode cX5_admit 55 = .ok (.i2l, 1) := by decide +kernel
theorem dX5_admit_56 : decode cX5_admit 56 = .ok (.bipush 29, 2) := by decide +kernel
theorem dX5_admit_58 : decode cX5_admit 58 = .ok (.lshl, 1) := by decide +kernel
theorem dX5_admit_59 : decode cX5_admit 59 = .ok (.lor, 1) := by decide +kernel
theorem dX5_admit_60 : decode cX5_admit 60 = .ok (.aload_n 0, 1) := by decide +kernel
theorem dX5_admit_61 : decode cX5_admit 61 = .ok (.getfield 112, 3) := by decide +kernel
theorem dX5_admit_64 : decode cX5_admit 64 = .ok (.i2l, 1) := by decide +kernel
theorem dX5_admit_65 : decode cX5_admit 65 = .ok (.bipush 18, 2) := by decide +kernel
theorem dX5_admit_67 : decode cX5_admit 67 = .ok (.lshl, 1) := by decide +kernel
theorem dX5_admit_68 : decode cX5_admit 68 = .ok (.lor, 1) := by decide +kernel
theorem dX5_admit_69 : decode cX5_admit 69 = .ok (.aload_n 0, 1) := by decide +kernel
theorem dX5_admit_70 : decode cX5_admit 70 = .ok (.invokevirtual 125, 3) := by decide +kernel
theorem dX5_admit_73 : decode cX5_admit 73 = .ok (.lor, 1) := by decide +kernel
theorem dX5_admit_74 : decode cX5_admit 74 = .ok (.invokevirtual 142, 3) := by decide +kernel
theorem dX5_admit_77 : decode cX5_admit 77 = .ok (.aload_n 0, 1) := by decide +kernel
theorem dX5_admit_78 : decode cX5_admit 78 = .ok (.dup, 1) := by decide +kernel
theorem dX5_admit_79 : decode cX5_admit 79 = .ok (.getfield 112, 3) := by decide +kernel
theorem dX5_admit_82 : decode cX5_admit 82 = .ok (.iconst 1, 1) := by decide +kernel
theorem dX5_admit_83 : decode cX5_admit 83 = .ok (.iadd, 1) := by decide +kernel
theorem dX5_admit_84 : decode cX5_admit 84 = .ok (.putfield 112, 3) := by decide +kernel
theorem dX5_admit_87 : decode cX5_admit 87 = .ok (.return_, 1) := by decide +kernel
theorem dX5_pack_0 : decode cX5_pack 0 = .ok (.lconst 0, 1) := by decide +kernel
theorem dX5_pack_1 : decode cX5_pack 1 = .ok (.lstore_n 1, 1) := by decide +kernel
theorem dX5_pack_2 : decode cX5_pack 2 = .ok (.iconst 0, 1) := by decide +kernel
theorem dX5_pack_3 : decode cX5_pack 3 = .ok (.istore_n 3, 1) := by decide +kernel
theorem dX5_pack_4 : decode cX5_pack 4 = .ok (.iload_n 3, 1) := by decide +kernel
theorem dX5_pack_5 : decode cX5_pack 5 = .ok (.bipush 6, 2) := by decide +kernel
theorem dX5_pack_7 : decode cX5_pack 7 = .ok (.if_icmp .ge 43, 3) := by decide +kernel
theorem dX5_pack_10 : decode cX5_pack 10 = .ok (.aload_n 0, 1) := by decide +kernel
theorem dX5_pack_11 : decode cX5_pack 11 = .ok (.getfield 36, 3) := by decide +kernel
theorem dX5_pack_14 : decode cX5_pack 14 = .ok (.iload_n 3, 1) := by decide +kernel
theorem dX5_pack_15 : decode cX5_pack 15 = .ok (.iaload, 1) := by decide +kernel
theorem dX5_pack_16 : decode cX5_pack 16 = .ok (.iconst (-1), 1) := by decide +kernel
theorem dX5_pack_17 : decode cX5_pack 17 = .ok (.if_icmp .ne 9, 3) := by decide +kernel
theorem dX5_pack_20 : decode cX5_pack 20 = .ok (.ldc2_w 145, 3) := by decide +kernel
theorem dX5_pack_23 : decode cX5_pack 23 = .ok (.goto 10, 3) := by decide +kernel
theorem dX5_pack_26 : decode cX5_pack 26 = .ok (.aload_n 0, 1) := by decide +kernel
theorem dX5_pack_27 : decode cX5_pack 27 = .ok (.getfield 36, 3) := by decide +kernel
theorem dX5_pack_30 : decode cX5_pack 30 = .ok (.iload_n 3, 1) := by decide +kernel
theorem dX5_pack_31 : decode cX5_pack 31 = .ok (.iaload, 1) := by decide +kernel
theorem dX5_pack_32 : decode cX5_pack 32 = .ok (.i2l, 1) := by decide +kernel
theorem dX5_pack_33 : decode cX5_pack 33 = .ok (.lstore 4, 2) := by decide +kernel
theorem dX5_pack_35 : decode cX5_pack 35 = .ok (.lload_n 1, 1) := by decide +kernel
theorem dX5_pack_36 : decode cX5_pack 36 = .ok (.lload 4, 2) := by decide +kernel
theorem dX5_pack_38 : decode cX5_pack 38 = .ok (.iconst 3, 1) := by decide +kernel
theorem dX5_pack_39 : decode cX5_pack 39 = .ok (.iload_n 3, 1) := by decide +kernel
theorem dX5_pack_40 : decode cX5_pack 40 = .ok (.imul, 1) := by decide +kernel
theorem dX5_pack_41 : decode cX5_pack 41 = .ok (.lshl, 1) := by decide +kernel
theorem dX5_pack_42 : decode cX5_pack 42 = .ok (.lor, 1) := by decide +kernel
theorem dX5_pack_43 : decode cX5_pack 43 = .ok (.lstore_n 1, 1) := by decide +kernel
theorem dX5_pack_44 : decode cX5_pack 44 = .ok (.iinc 3 1, 3) := by decide +kernel
theorem dX5_pack_47 : decode cX5_pack 47 = .ok (.goto (-43), 3) := by decide +kernel
theorem dX5_pack_50 : decode cX5_pack 50 = .ok (.lload_n 1, 1) := by decide +kernel
theorem dX5_pack_51 : decode cX5_pack 51 = .ok (.lreturn, 1) := by decide +kernel
theorem dX5_unpack_0 : decode cX5_unpack 0 = .ok (.iconst 0, 1) := by decide +kernel
theorem dX5_unpack_1 : decode cX5_unpack 1 = .ok (.istore_n 3, 1) := by decide +kernel
theorem dX5_unpack_2 : decode cX5_unpack 2 = .ok (.iload_n 3, 1) := by decide +kernel
theorem dX5_unpack_3 : decode cX5_unpack 3 = .ok (.bipush 6, 2) := by decide +kernel
theorem dX5_unpack_5 : decode cX5_unpack 5 = .ok (.if_icmp .ge 40, 3) := by decide +kernel
theorem dX5_unpack_8 : decode cX5_unpack 8 = .ok (.lload_n 1, 1) := by decide +kernel
theorem dX5_unpack_9 : decode cX5_unpack 9 = .ok (.iconst 3, 1) := by decide +kernel
theorem dX5_unpack_10 : decode cX5_unpack 10 = .ok (.iload_n 3, 1) := by decide +kernel
theorem dX5_unpack_11 : decode cX5_unpack 11 = .ok (.imul, 1) := by decide +kernel
theorem dX5_unpack_12 : decode cX5_unpack 12 = .ok (.lshr, 1) := by decide +kernel
theorem dX5_unpack_13 : decode cX5_unpack 13 = .ok (.ldc2_w 145, 3) := by decide +kernel
theorem dX5_unpack_16 : decode cX5_unpack 16 = .ok (.land, 1) := by decide +kernel
theorem dX5_unpack_17 : decode cX5_unpack 17 = .ok (.l2i, 1) := by decide +kernel
theorem dX5_unpack_18 : decode cX5_unpack 18 = .ok (.istore 4, 2) := by decide +kernel
theorem dX5_unpack_20 : decode cX5_unpack 20 = .ok (.aload_n 0, 1) := by decide +kernel
theorem dX5_unpack_21 : decode cX5_unpack 21 = .ok (.getfield 36, 3) := by decide +kernel
theorem dX5_unpack_24 : decode cX5_unpack 24 = .ok (.iload_n 3, 1) := by decide +kernel
theorem dX5_unpack_25 : decode cX5_unpack 25 = .ok (.iload 4, 2) := by decide +kernel
theorem dX5_unpack_27 : decode cX5_unpack 27 = .ok (.bipush 7, 2) := by decide +kernel
theorem dX5_unpack_29 : decode cX5_unpack 29 = .ok (.if_icmp .ne 7, 3) := by decide +kernel
theorem dX5_unpack_32 : decode cX5_unpack 32 = .ok (.iconst (-1), 1) := by decide +kernel
theorem dX5_unpack_33 : decode cX5_unpack 33 = .ok (.goto 5, 3) := by decide +kernel
theorem dX5_unpack_36 : decode cX5_unpack 36 = .ok (.iload 4, 2) := by decide +kernel
theorem dX5_unpack_38 : decode cX5_unpack 38 = .ok (.iastore, 1) := by decide +kernel
theorem dX5_unpack_39 : decode cX5_unpack 39 = .ok (.iinc 3 1, 3) := by decide +kernel
theorem dX5_unpack_42 : decode cX5_unpack 42 = .ok (.goto (-40), 3) := by decide +kernel
theorem dX5_unpack_45 : decode cX5_unpack 45 = .ok (.return_, 1) := by decide +kernel
theorem dX5_visit_0 : decode cX5_visit 0 = .ok (.aload_n 0, 1) := by decide +kernel
theorem dX5_visit_1 : decode cX5_visit 1 = .ok (.getfield 25, 3) := by decide +kernel
theorem dX5_visit_4 : decode cX5_visit 4 = .ok (.aload_n 1, 1) := by decide +kernel
theorem dX5_visit_5 : decode cX5_visit 5 = .ok (.aload_n 0, 1) := by decide +kernel
theorem dX5_visit_6 : decode cX5_visit 6 = .ok (.getfield 36, 3) := by decide +kernel
theorem dX5_visit_9 : decode cX5_visit 9 = .ok (.invokevirtual 131, 3) := by decide +kernel
theorem dX5_visit_12 : decode cX5_visit 12 = .ok (.aload_n 0, 1) := by decide +kernel
theorem dX5_visit_13 : decode cX5_visit 13 = .ok (.getfield 25, 3) := by decide +kernel
theorem dX5_visit_16 : decode cX5_visit 16 = .ok (.invokevirtual 135, 3) := by decide +kernel
theorem dX5_visit_19 : decode cX5_visit 19 = .ok (.istore_n 2, 1) := by decide +kernel
theorem dX5_visit_20 : decode cX5_visit 20 = .ok (.aload_n 1, 1) := by decide +kernel
theorem dX5_visit_21 : decode cX5_visit 21 = .ok (.getfield 106, 3) := by decide +kernel
theorem dX5_visit_24 : decode cX5_visit 24 = .ok (.aload_n 0, 1) := by decide +kernel
theorem dX5_visit_25 : decode cX5_visit 25 = .ok (.getfield 25, 3) := by decide +kernel
theorem dX5_visit_28 : decode cX5_visit 28 = .ok (.getfield 139, 3) := by decide +kernel
theorem dX5_visit_31 : decode cX5_visit 31 = .ok (.isub, 1) := by decide +kernel
theorem dX5_visit_32 : decode cX5_visit 32 = .ok (.istore_n 3, 1) := by decide +kernel
theorem dX5_visit_33 : decode cX5_visit 33 = .ok (.aload_n 0, 1) := by decide +kernel
theorem dX5_visit_34 : decode cX5_visit 34 = .ok (.dup, 1) := by decide +kernel
theorem dX5_visit_35 : decode cX5_visit 35 = .ok (.getfield 53, 3) := by decide +kernel
theorem dX5_visit_38 : decode cX5_visit 38 = .ok (.iconst 1, 1) := by decide +kernel
theorem dX5_visit_39 : decode cX5_visit 39 = .ok (.iadd, 1) := by decide +kernel
theorem dX5_visit_40 : decode cX5_visit 40 = .ok (.putfield 53, 3) := by decide +kernel
theorem dX5_visit_43 : decode cX5_visit 43 = .ok (.aload_n 0, 1) := by decide +kernel
theorem dX5_visit_44 : decode cX5_visit 44 = .ok (.getfield 9, 3) := by decide +kernel
theorem dX5_visit_47 : decode cX5_visit 47 = .ok (.iload_n 3, 1) := by decide +kernel
theorem dX5_visit_48 : decode cX5_visit 48 = .ok (.aload_n 0, 1) := by decide +kernel
theorem dX5_visit_49 : decode cX5_visit 49 = .ok (.getfield 9, 3) := by decide +kernel
theorem dX5_visit_52 : decode cX5_visit 52 = .ok (.iload_n 3, 1) := by decide +kernel
theorem dX5_visit_53 : decode cX5_visit 53 = .ok (.invokestatic 147, 3) := by decide +kernel
theorem dX5_visit_56 : decode cX5_visit 56 = .ok (.iconst 1, 1) := by decide +kernel
theorem dX5_visit_57 : decode cX5_visit 57 = .ok (.iadd, 1) := by decide +kernel
theorem dX5_visit_58 : decode cX5_visit 58 = .ok (.invokestatic 151, 3) := by decide +kernel
theorem dX5_visit_61 : decode cX5_visit 61 = .ok (.iload_n 2, 1) := by decide +kernel
theorem dX5_visit_62 : decode cX5_visit 62 = .ok (.aload_n 0, 1) := by decide +kernel
theorem dX5_visit_63 : decode cX5_visit 63 = .ok (.getfield 46, 3) := by decide +kernel
theorem dX5_visit_66 : decode cX5_visit 66 = .ok (.if_icmp .lt 15, 3) := by decide +kernel
theorem dX5_visit_69 : decode cX5_visit 69 = .ok (.aload_n 0, 1) := by decide +kernel
theorem dX5_visit_70 : decode cX5_visit 70 = .ok (.dup, 1) := by decide +kernel
theorem dX5_visit_71 : decode cX5_visit 71 = .ok (.getfield 56, 3) := by decide +kernel
theorem dX5_visit_74 : decode cX5_visit 74 = .ok (.iconst 1, 1) := by decide +kernel
theorem dX5_visit_75 : decode cX5_visit 75 = .ok (.iadd, 1) := by decide +kernel
theorem dX5_visit_76 : decode cX5_visit 76 = .ok (.putfield 56, 3) := by decide +kernel
theorem dX5_visit_79 : decode cX5_visit 79 = .ok (.iconst 0, 1) := by decide +kernel
theorem dX5_visit_80 : decode cX5_visit 80 = .ok (.ireturn, 1) := by decide +kernel
theorem dX5_visit_81 : decode cX5_visit 81 = .ok (.aload_n 0, 1) := by decide +kernel
theorem dX5_visit_82 : decode cX5_visit 82 = .ok (.getfield 25, 3) := by decide +kernel
theorem dX5_visit_85 : decode cX5_visit 85 = .ok (.getfield 139, 3) := by decide +kernel
theorem dX5_visit_88 : decode cX5_visit 88 = .ok (.ifCond .le 5, 3) := by decide +kernel
theorem dX5_visit_91 : decode cX5_visit 91 = .ok (.iconst 1, 1) := by decide +kernel
theorem dX5_visit_92 : decode cX5_visit 92 = .ok (.ireturn, 1) := by decide +kernel
theorem dX5_visit_93 : decode cX5_visit 93 = .ok (.aload_n 0, 1) := by decide +kernel
theorem dX5_visit_94 : decode cX5_visit 94 = .ok (.iload_n 2, 1) := by decide +kernel
theorem dX5_visit_95 : decode cX5_visit 95 = .ok (.putfield 46, 3) := by decide +kernel
theorem dX5_visit_98 : decode cX5_visit 98 = .ok (.aload_n 0, 1) := by decide +kernel
theorem dX5_visit_99 : decode cX5_visit 99 = .ok (.aload_n 0, 1) := by decide +kernel
theorem dX5_visit_100 : decode cX5_visit 100 = .ok (.getfield 36, 3) := by decide +kernel
theorem dX5_visit_103 : decode cX5_visit 103 = .ok (.aload_n 1, 1) := by decide +kernel
theorem dX5_visit_104 : decode cX5_visit 104 = .ok (.getfield 106, 3) := by decide +kernel
theorem dX5_visit_107 : decode cX5_visit 107 = .ok (.invokestatic 155, 3) := by decide +kernel
theorem dX5_visit_110 : decode cX5_visit 110 = .ok (.putfield 50, 3) := by decide +kernel
theorem dX5_visit_113 : decode cX5_visit 113 = .ok (.aload_n 0, 1) := by decide +kernel
theorem dX5_visit_114 : decode cX5_visit 114 = .ok (.dup, 1) := by decide +kernel
theorem dX5_visit_115 : decode cX5_visit 115 = .ok (.getfield 59, 3) := by decide +kernel
theorem dX5_visit_118 : decode cX5_visit 118 = .ok (.iconst 1, 1) := by decide +kernel
theorem dX5_visit_119 : decode cX5_visit 119 = .ok (.iadd, 1) := by decide +kernel
theorem dX5_visit_120 : decode cX5_visit 120 = .ok (.putfield 59, 3) := by decide +kernel
theorem dX5_visit_123 : decode cX5_visit 123 = .ok (.iconst 0, 1) := by decide +kernel
theorem dX5_visit_124 : decode cX5_visit 124 = .ok (.ireturn, 1) := by decide +kernel
theorem dX5_expand_0 : decode cX5_expand 0 = .ok (.aload_n 0, 1) := by decide +kernel
theorem dX5_expand_1 : decode cX5_expand 1 = .ok (.getfield 25, 3) := by decide +kernel
theorem dX5_expand_4 : decode cX5_expand 4 = .ok (.invokevirtual 158, 3) := by decide +kernel
theorem dX5_expand_7 : decode cX5_expand 7 = .ok (.istore_n 2, 1) := by decide +kernel
theorem dX5_expand_8 : decode cX5_expand 8 = .ok (.aload_n 0, 1) := by decide +kernel
theorem dX5_expand_9 : decode cX5_expand 9 = .ok (.getfield 25, 3) := by decide +kernel
theorem dX5_expand_12 : decode cX5_expand 12 = .ok (.iload_n 2, 1) := by decide +kernel
theorem dX5_expand_13 : decode cX5_expand 13 = .ok (.aload_n 0, 1) := by decide +kernel
theorem dX5_expand_14 : decode cX5_expand 14 = .ok (.getfield 39, 3) := by decide +kernel
theorem dX5_expand_17 : decode cX5_expand 17 = .ok (.invokevirtual 161, 3) := by decide +kernel
theorem dX5_expand_20 : decode cX5_expand 20 = .ok (.istore_n 3, 1) := by decide +kernel
theorem dX5_expand_21 : decode cX5_expand 21 = .ok (.aload_n 0, 1) := by decide +kernel
theorem dX5_expand_22 : decode cX5_expand 22 = .ok (.getfield 103, 3) := by decide +kernel
theorem dX5_expand_25 : decode cX5_expand 25 = .ok (.ifCond .eq 21, 3) := by decide +kernel
theorem dX5_expand_28 : decode cX5_expand 28 = .ok (.aload_n 0, 1) := by decide +kernel
theorem dX5_expand_29 : decode cX5_expand 29 = .ok (.getfield 32, 3) := by decide +kernel
theorem dX5_expand_32 : decode cX5_expand 32 = .ok (.aload_n 1, 1) := by decide +kernel
theorem dX5_expand_33 : decode cX5_expand 33 = .ok (.aload_n 0, 1) := by decide +kernel
theorem dX5_expand_34 : decode cX5_expand 34 = .ok (.getfield 36, 3) := by decide +kernel
theorem dX5_expand_37 : decode cX5_expand 37 = .ok (.invokevirtual 165, 3) := by decide +kernel
theorem dX5_expand_40 : decode cX5_expand 40 = .ok (.aload_n 0, 1) := by decide +kernel
theorem dX5_expand_41 : decode cX5_expand 41 = .ok (.iload_n 3, 1) := by decide +kernel
theorem dX5_expand_42 : decode cX5_expand 42 = .ok (.invokevirtual 166, 3) := by decide +kernel
theorem dX5_expand_45 : decode cX5_expand 45 = .ok (.istore_n 3, 1) := by decide +kernel
theorem dX5_expand_46 : decode cX5_expand 46 = .ok (.iconst 0, 1) := by decide +kernel
theorem dX5_expand_47 : decode cX5_expand 47 = .ok (.istore 4, 2) := by decide +kernel
theorem dX5_expand_49 : decode cX5_expand 49 = .ok (.iload 4, 2) := by decide +kernel
theorem dX5_expand_51 : decode cX5_expand 51 = .ok (.iload_n 3, 1) := by decide +kernel
theorem dX5_expand_52 : decode cX5_expand 52 = .ok (.if_icmp .ge 51, 3) := by decide +kernel
theorem dX5_expand_55 : decode cX5_expand 55 = .ok (.aload_n 0, 1) := by decide +kernel
theorem dX5_expand_56 : decode cX5_expand 56 = .ok (.getfield 39, 3) := by decide +kernel
theorem dX5_expand_59 : decode cX5_expand 59 = .ok (.aload_n 0, 1) := by decide +kernel
theorem dX5_expand_60 : decode cX5_expand 60 = .ok (.getfield 79, 3) := by decide +kernel
theorem dX5_expand_63 : decode cX5_expand 63 = .ok (.ifCond .eq 8, 3) := by decide +kernel
theorem dX5_expand_66 : decode cX5_expand 66 = .ok (.iload 4, 2) := by decide +kernel
theorem dX5_expand_68 : decode cX5_expand 68 = .ok (.goto 9, 3) := by decide +kernel
theorem dX5_expand_71 : decode cX5_expand 71 = .ok (.iload_n 3, 1) := by decide +kernel
theorem dX5_expand_72 : decode cX5_expand 72 = .ok (.iconst 1, 1) := by decide +kernel
theorem dX5_expand_73 : decode cX5_expand 73 = .ok (.isub, 1) := by decide +kernel
theorem dX5_expand_74 : decode cX5_expand 74 = .ok (.iload 4, 2) := by decide +kernel
theorem dX5_expand_76 : decode cX5_expand 76 = .ok (.isub, 1) := by decide +kernel
theorem dX5_expand_77 : decode cX5_expand 77 = .ok (.invokestatic 147, 3) := by decide +kernel
theorem dX5_expand_80 : decode cX5_expand 80 = .ok (.istore 5, 2) := by decide +kernel
theorem dX5_expand_82 : decode cX5_expand 82 = .ok (.aload_n 0, 1) := by decide +kernel
theorem dX5_expand_83 : decode cX5_expand 83 = .ok (.getfield 36, 3) := by decide +kernel
theorem dX5_expand_86 : decode cX5_expand 86 = .ok (.iload_n 2, 1) := by decide +kernel
theorem dX5_expand_87 : decode cX5_expand 87 = .ok (.iload 5, 2) := by decide +kernel
theorem dX5_expand_89 : decode cX5_expand 89 = .ok (.invokestatic 151, 3) := by decide +kernel
theorem dX5_expand_92 : decode cX5_expand 92 = .ok (.aload_n 0, 1) := by decide +kernel
theorem dX5_expand_93 : decode cX5_expand 93 = .ok (.aload_n 1, 1) := by decide +kernel
theorem dX5_expand_94 : decode cX5_expand 94 = .ok (.invokevirtual 72, 3) := by decide +kernel
theorem dX5_expand_97 : decode cX5_expand 97 = .ok (.iinc 4 1, 3) := by decide +kernel
theorem dX5_expand_100 : decode cX5_expand 100 = .ok (.goto (-51), 3) := by decide +kernel
theorem dX5_expand_103 : decode cX5_expand 103 = .ok (.aload_n 0, 1) := by decide +kernel
theorem dX5_expand_104 : decode cX5_expand 104 = .ok (.getfield 36, 3) := by decide +kernel
theorem dX5_expand_107 : decode cX5_expand 107 = .ok (.iload_n 2, 1) := by decide +kernel
theorem dX5_expand_108 : decode cX5_expand 108 = .ok (.iconst (-1), 1) := by decide +kernel
theorem dX5_expand_109 : decode cX5_expand 109 = .ok (.invokestatic 151, 3) := by decide +kernel
theorem dX5_expand_112 : decode cX5_expand 112 = .ok (.return_, 1) := by decide +kernel
theorem dX5_keepRepresentatives_0 : decode cX5_keepRepresentatives 0 = .ok (.iconst 0, 1) := by decide +kernel
theorem dX5_keepRepresentatives_1 : decode cX5_keepRepresentatives 1 = .ok (.istore_n 2, 1) := by decide +kernel
theorem dX5_keepRepresentatives_2 : decode cX5_keepRepresentatives 2 = .ok (.iconst 0, 1) := by decide +kernel
theorem dX5_keepRepresentatives_3 : decode cX5_keepRepresentatives 3 = .ok (.istore_n 3, 1) := by decide +kernel
theorem dX5_keepRepresentatives_4 : decode cX5_keepRepresentatives 4 = .ok (.iload_n 3, 1) := by decide +kernel
theorem dX5_keepRepresentatives_5 : decode cX5_keepRepresentatives 5 = .ok (.iload_n 1, 1) := by decide +kernel
theorem dX5_keepRepresentatives_6 : decode cX5_keepRepresentatives 6 = .ok (.if_icmp .ge 49, 3) := by decide +kernel
theorem dX5_keepRepresentatives_9 : decode cX5_keepRepresentatives 9 = .ok (.aload_n 0, 1) := by decide +kernel
theorem dX5_keepRepresentatives_10 : decode cX5_keepRepresentatives 10 = .ok (.getfield 39, 3) := by decide +kernel
theorem dX5_keepRepresentatives_13 : decode cX5_keepRepresentatives 13 = .ok (.iload_n 3, 1) := by decide +kernel
theorem dX5_keepRepresentatives_14 : decode cX5_keepRepresentatives 14 = .ok (.invokestatic 147, 3) := by decide +kernel
theorem dX5_keepRepresentatives_17 : decode cX5_keepRepresentatives 17 = .ok (.istore 4, 2) := by decide +kernel
theorem dX5_keepRepresentatives_19 : decode cX5_keepRepresentatives 19 = .ok (.aload_n 0, 1) := by decide +kernel
theorem dX5_keepRepresentatives_20 : decode cX5_keepRepresentatives 20 = .ok (.getfield 32, 3) := by decide +kernel
theorem dX5_keepRepresentatives_23 : decode cX5_keepRepresentatives 23 = .ok (.getfield 170, 3) := by decide +kernel
theorem dX5_keepRepresentatives_26 : decode cX5_keepRepresentatives 26 = .ok (.iload 4, 2) := by decide +kernel
theorem dX5_keepRepresentatives_28 : decode cX5_keepRepresentatives 28 = .ok (.invokestatic 147, 3) := by decide +kernel
theorem dX5_keepRepresentatives_31 : decode cX5_keepRepresentatives 31 = .ok (.iload 4, 2) := by decide +kernel
theorem dX5_keepRepresentatives_33 : decode cX5_keepRepresentatives 33 = .ok (.if_icmp .ne 16, 3) := by decide +kernel
theorem dX5_keepRepresentatives_36 : decode cX5_keepRepresentatives 36 = .ok (.aload_n 0, 1) := by decide +kernel
theorem dX5_keepRepresentatives_37 : decode cX5_keepRepresentatives 37 = .ok (.getfield 39, 3) := by decide +kernel
theorem dX5_keepRepresentatives_40 : decode cX5_keepRepresentatives 40 = .ok (.iload_n 2, 1) := by decide +kernel
theorem dX5_keepRepresentatives_41 : decode cX5_keepRepresentatives 41 = .ok (.iload 4, 2) := by decide +kernel
theorem dX5_keepRepresentatives_43 : decode cX5_keepRepresentatives 43 = .ok (.invokestatic 151, 3) := by decide +kernel
theorem dX5_keepRepresentatives_46 : decode cX5_keepRepresentatives 46 = .ok (.iinc 2 1, 3) := by decide +kernel
theorem dX5_keepRepresentatives_49 : decode cX5_keepRepresentatives 49 = .ok (.iinc 3 1, 3) := by decide +kernel
theorem dX5_keepRepresentatives_52 : decode cX5_keepRepresentatives 52 = .ok (.goto (-48), 3) := by decide +kernel
theorem dX5_keepRepresentatives_55 : decode cX5_keepRepresentatives 55 = .ok (.iload_n 2, 1) := by decide +kernel
theorem dX5_keepRepresentatives_56 : decode cX5_keepRepresentatives 56 = .ok (.ireturn, 1) := by decide +kernel
theorem dX6_init_0 : decode cX6_init 0 = .ok (.aload_n 0, 1) := by decide +kernel
theorem dX6_init_1 : decode cX6_init 1 = .ok (.invokespecial 3, 3) := by decide +kernel
theorem dX6_init_4 : decode cX6_init 4 = .ok (.aload_n 0, 1) := by decide +kernel
theorem dX6_init_5 : decode cX6_init 5 = .ok (.bipush 36, 2) := by decide +kernel
theorem dX6_init_7 : decode cX6_init 7 = .ok (.newarray .int, 2) := by decide +kernel
theorem dX6_init_9 : decode cX6_init 9 = .ok (.putfield 9, 3) := by decide +kernel
theorem dX6_init_12 : decode cX6_init 12 = .ok (.aload_n 0, 1) := by decide +kernel
theorem dX6_init_13 : decode cX6_init 13 = .ok (.bipush 36, 2) := by decide +kernel
theorem dX6_init_15 : decode cX6_init 15 = .ok (.newarray .int, 2) := by decide +kernel
theorem dX6_init_17 : decode cX6_init 17 = .ok (.putfield 15, 3) := by decide +kernel
theorem dX6_init_20 : decode cX6_init 20 = .ok (.aload_n 0, 1) := by decide +kernel
theorem dX6_init_21 : decode cX6_init 21 = .ok (.bipush 36, 2) := by decide +kernel
theorem dX6_init_23 : decode cX6_init 23 = .ok (.newarray .int, 2) := by decide +kernel
theorem dX6_init_25 : decode cX6_init 25 = .ok (.putfield 18, 3) := by decide +kernel
theorem dX6_init_28 : decode cX6_init 28 = .ok (.aload_n 0, 1) := by decide +kernel
theorem dX6_init_29 : decode cX6_init 29 = .ok (.bipush 6, 2) := by decide +kernel
theorem dX6_init_31 : decode cX6_init 31 = .ok (.newarray .int, 2) := by decide +kernel
theorem dX6_init_33 : decode cX6_init 33 = .ok (.putfield 21, 3) := by decide +kernel
theorem dX6_init_36 : decode cX6_init 36 = .ok (.aload_n 0, 1) := by decide +kernel
theorem dX6_init_37 : decode cX6_init 37 = .ok (.bipush 6, 2) := by decide +kernel
theorem dX6_init_39 : decode cX6_init 39 = .ok (.newarray .int, 2) := by decide +kernel
theorem dX6_init_41 : decode cX6_init 41 = .ok (.putfield 24, 3) := by decide +kernel
theorem dX6_init_44 : decode cX6_init 44 = .ok (.aload_n 0, 1) := by decide +kernel
theorem dX6_init_45 : decode cX6_init 45 = .ok (.iconst 3, 1) := by decide +kernel
theorem dX6_init_46 : decode cX6_init 46 = .ok (.invokevirtual 27, 3) := by decide +kernel
theorem dX6_init_49 : decode cX6_init 49 = .ok (.return_, 1) := by decide +kernel
theorem dX6_reset_0 : decode cX6_reset 0 = .ok (.aload_n 0, 1) := by decide +kernel
theorem dX6_reset_1 : decode cX6_reset 1 = .ok (.iload_n 1, 1) := by decide +kernel
theorem dX6_reset_2 : decode cX6_reset 2 = .ok (.putfield 31, 3) := by decide +kernel
theorem dX6_reset_5 : decode cX6_reset 5 = .ok (.iconst 0, 1) := by decide +kernel
theorem dX6_reset_6 : decode cX6_reset 6 = .ok (.istore_n 2, 1) := by decide +kernel
theorem dX6_reset_7 : decode cX6_reset 7 = .ok (.iload_n 2, 1) := by decide +kernel
theorem dX6_reset_8 : decode cX6_reset 8 = .ok (.bipush 36, 2) := by decide +kernel
theorem dX6_reset_10 : decode cX6_reset 10 = .ok (.if_icmp .ge 30, 3) := by decide +kernel
theorem dX6_reset_13 : decode cX6_reset 13 = .ok (.aload_n 0, 1) := by decide +kernel
theorem dX6_reset_14 : decode cX6_reset 14 = .ok (.getfield 9, 3) := by decide +kernel
theorem dX6_reset_17 : decode cX6_reset 17 = .ok (.iload_n 2, 1) := by decide +kernel
theorem dX6_reset_18 : decode cX6_reset 18 = .ok (.iconst 0, 1) := by decide +kernel
theorem dX6_reset_19 : decode cX6_reset 19 = .ok (.iastore, 1) := by decide +kernel
theorem dX6_reset_20 : decode cX6_reset 20 = .ok (.aload_n 0, 1) := by decide +kernel
theorem dX6_reset_21 : decode cX6_reset 21 = .ok (.getfield 15, 3) := by decide +kernel
theorem dX6_reset_24 : decode cX6_reset 24 = .ok (.iload_n 2, 1) := by decide +kernel
theorem dX6_reset_25 : decode cX6_reset 25 = .ok (.iconst 0, 1) := by decide +kernel
theorem dX6_reset_26 : decode cX6_reset 26 = .ok (.iastore, 1) := by decide +kernel
theorem dX6_reset_27 : decode cX6_reset 27 = .ok (.aload_n 0, 1) := by decide +kernel
theorem dX6_reset_28 : decode cX6_reset 28 = .ok (.getfield 18, 3) := by decide +kernel
theorem dX6_reset_31 : decode cX6_reset 31 = .ok (.iload_n 2, 1) := by decide +kernel
theorem dX6_reset_32 : decode cX6_reset 32 = .ok (.iconst 0, 1) := by decide +kernel
theorem dX6_reset_33 : decode cX6_reset 33 = .ok (.iastore, 1) := by decide +kernel
theorem dX6_reset_34 : decode cX6_reset 34 = .ok (.iinc 2 1, 3) := by decide +kernel
theorem dX6_reset_37 : decode cX6_reset 37 = .ok (.goto (-30), 3) := by decide +kernel
theorem dX6_reset_40 : decode cX6_reset 40 = .ok (.iconst 0, 1) := by decide +kernel
theorem dX6_reset_41 : decode cX6_reset 41 = .ok (.istore_n 2, 1) := by decide +kernel
theorem dX6_reset_42 : decode cX6_reset 42 = .ok (.iload_n 2, 1) := by decide +kernel
theorem dX6_reset_43 : decode cX6_reset 43 = .ok (.bipush 6, 2) := by decide +kernel
theorem dX6_reset_45 : decode cX6_reset 45 = .ok (.if_icmp .ge 23, 3) := by decide +kernel
theorem dX6_reset_48 : decode cX6_reset 48 = .ok (.aload_n 0, 1) := by decide +kernel
theorem dX6_reset_49 : decode cX6_reset 49 = .ok (.getfield 21, 3) := by decide +kernel
theorem dX6_reset_52 : decode cX6_reset 52 = .ok (.iload_n 2, 1) := by decide +kernel
theorem dX6_reset_53 : decode cX6_reset 53 = .ok (.iload_n 2, 1) := by decide +kernel
theorem dX6_reset_54 : decode cX6_reset 54 = .ok (.iastore, 1) := by decide +kernel
theorem dX6_reset_55 : decode cX6_reset 55 = .ok (.aload_n 0, 1) := by decide +kernel
theorem dX6_reset_56 : decode cX6_reset 56 = .ok (.getfield 24, 3) := by decide +kernel
theorem dX6_reset_59 : decode cX6_reset 59 = .ok (.iload_n 2, 1) := by decide +kernel
theorem dX6_reset_60 : decode cX6_reset 60 = .ok (.iconst (-1), 1) := by decide +kernel
theorem dX6_reset_61 : decode cX6_reset 61 = .ok (.iastore, 1) := by decide +kernel
theorem dX6_reset_62 : decode cX6_reset 62 = .ok (.iinc 2 1, 3) := by decide +kernel
theorem dX6_reset_65 : decode cX6_reset 65 = .ok (.goto (-23), 3) := by decide +kernel
theorem dX6_reset_68 : decode cX6_reset 68 = .ok (.return_, 1) := by decide +kernel
theorem dX6_copyFrom_0 : decode cX6_copyFrom 0 = .ok (.aload_n 0, 1) := by decide +kernel
theorem dX6_copyFrom_1 : decode cX6_copyFrom 1 = .ok (.aload_n 1, 1) := by decide +kernel
theorem dX6_copyFrom_2 : decode cX6_copyFrom 2 = .ok (.getfield 31, 3) := by decide +kernel
theorem dX6_copyFrom_5 : decode cX6_copyFrom 5 = .ok (.putfield 31, 3) := by decide +kernel
theorem dX6_copyFrom_8 : decode cX6_copyFrom 8 = .ok (.aload_n 1, 1) := by decide +kernel
theorem dX6_copyFrom_9 : decode cX6_copyFrom 9 = .ok (.getfield 9, 3) := by decide +kernel
theorem dX6_copyFrom_12 : decode cX6_copyFrom 12 = .ok (.iconst 0, 1) := by decide +kernel
theorem dX6_copyFrom_13 : decode cX6_copyFrom 13 = .ok (.aload_n 0, 1) := by decide +kernel
theorem dX6_copyFrom_14 : decode cX6_copyFrom 14 = .ok (.getfield 9, 3) := by decide +kernel
theorem dX6_copyFrom_17 : decode cX6_copyFrom 17 = .ok (.iconst 0, 1) := by decide +kernel
theorem dX6_copyFrom_18 : decode cX6_copyFrom 18 = .ok (.bipush 36, 2) := by decide +kernel
theorem dX6_copyFrom_20 : decode cX6_copyFrom 20 = .ok (.invokestatic 35, 3) := by decide +kernel
theorem dX6_copyFrom_23 : decode cX6_copyFrom 23 = .ok (.aload_n 1, 1) := by decide +kernel
theorem dX6_copyFrom_24 : decode cX6_copyFrom 24 = .ok (.getfield 15, 3) := by decide +kernel
theorem dX6_copyFrom_27 : decode cX6_copyFrom 27 = .ok (.iconst 0, 1) := by decide +kernel
theorem dX6_copyFrom_28 : decode cX6_copyFrom 28 = .ok (.aload_n 0, 1) := by decide +kernel
theorem dX6_copyFrom_29 : decode cX6_copyFrom 29 = .ok (.getfield 15, 3) := by decide +kernel
theorem dX6_copyFrom_32 : decode cX6_copyFrom 32 = .ok (.iconst 0, 1) := by decide +kernel
theorem dX6_copyFrom_33 : decode cX6_copyFrom 33 = .ok (.bipush 36, 2) := by decide +kernel
theorem dX6_copyFrom_35 : decode cX6_copyFrom 35 = .ok (.invokestatic 35, 3) := by decide +kernel
theorem dX6_copyFrom_38 : decode cX6_copyFrom 38 = .ok (.aload_n 1, 1) := by decide +kernel
theorem dX6_copyFrom_39 : decode cX6_copyFrom 39 = .ok (.getfield 18, 3) := by decide +kernel
theorem dX6_copyFrom_42 : decode cX6_copyFrom 42 = .ok (.iconst 0, 1) := by decide +kernel
theorem dX6_copyFrom_43 : decode cX6_copyFrom 43 = .ok (.aload_n 0, 1) := by decide +kernel
theorem dX6_copyFrom_44 : decode cX6_copyFrom 44 = .ok (.getfield 18, 3) := by decide +kernel
theorem dX6_copyFrom_47 : decode cX6_copyFrom 47 = .ok (.iconst 0, 1) := by decide +kernel
theorem dX6_copyFrom_48 : decode cX6_copyFrom 48 = .ok (.bipush 36, 2) := by decide +kernel
theorem dX6_copyFrom_50 : decode cX6_copyFrom 50 = .ok (.invokestatic 35, 3) := by decide +kernel
theorem dX6_copyFrom_53 : decode cX6_copyFrom 53 = .ok (.aload_n 1, 1) := by decide +kernel
theorem dX6_copyFrom_54 : decode cX6_copyFrom 54 = .ok (.getfield 21, 3) := by decide +kernel
theorem dX6_copyFrom_57 : decode cX6_copyFrom 57 = .ok (.iconst 0, 1) := by decide +kernel
theorem dX6_copyFrom_58 : decode cX6_copyFrom 58 = .ok (.aload_n 0, 1) := by decide +kernel
theorem dX6_copyFrom_59 : decode cX6_copyFrom 59 = .ok (.getfield 21, 3) := by decide +kernel
theorem dX6_copyFrom_62 : decode cX6_copyFrom 62 = .ok (.iconst 0, 1) := by decide +kernel
theorem dX6_copyFrom_63 : decode cX6_copyFrom 63 = .ok (.bipush 6, 2) := by decide +kernel
theorem dX6_copyFrom_65 : decode cX6_copyFrom 65 = .ok (.invokestatic 35, 3) := by decide +kernel
theorem dX6_copyFrom_68 : decode cX6_copyFrom 68 = .ok (.aload_n 1, 1) := by decide +kernel
theorem dX6_copyFrom_69 : decode cX6_copyFrom 69 = .ok (.getfield 24, 3) := by decide +kernel
theorem dX6_copyFrom_72 : decode cX6_copyFrom 72 = .ok (.iconst 0, 1) := by decide +kernel
theorem dX6_copyFrom_73 : decode cX6_copyFrom 73 = .ok (.aload_n 0, 1) := by decide +kernel
theorem dX6_copyFrom_74 : decode cX6_copyFrom 74 = .ok (.getfield 24, 3) := by decide +kernel
theorem dX6_copyFrom_77 : decode cX6_copyFrom 77 = .ok (.iconst 0, 1) := by decide +kernel
theorem dX6_copyFrom_78 : decode cX6_copyFrom 78 = .ok (.bipush 6, 2) := by decide +kernel
theorem dX6_copyFrom_80 : decode cX6_copyFrom 80 = .ok (.invokestatic 35, 3) := by decide +kernel
theorem dX6_copyFrom_83 : decode cX6_copyFrom 83 = .ok (.return_, 1) := by decide +kernel
theorem dX6_tableOf_0 : decode cX6_tableOf 0 = .ok (.iload_n 1, 1) := by decide +kernel
theorem dX6_tableOf_1 : decode cX6_tableOf 1 = .ok (.ifCond .ne 8, 3) := by decide +kernel
theorem dX6_tableOf_4 : decode cX6_tableOf 4 = .ok (.aload_n 0, 1) := by decide +kernel
theorem dX6_tableOf_5 : decode cX6_tableOf 5 = .ok (.getfield 9, 3) := by decide +kernel
theorem dX6_tableOf_8 : decode cX6_tableOf 8 = .ok (.areturn, 1) := by decide +kernel
theorem dX6_tableOf_9 : decode cX6_tableOf 9 = .ok (.iload_n 1, 1) := by decide +kernel
theorem dX6_tableOf_10 : decode cX6_tableOf 10 = .ok (.iconst 1, 1) := by decide +kernel
theorem dX6_tableOf_11 : decode cX6_tableOf 11 = .ok (.if_icmp .ne 10, 3) := by decide +kernel
theorem dX6_tableOf_14 : decode cX6_tableOf 14 = .ok (.aload_n 0, 1) := by decide +kernel
theorem dX6_tableOf_15 : decode cX6_tableOf 15 = .ok (.getfield 15, 3) := by decide +kernel
theorem dX6_tableOf_18 : decode cX6_tableOf 18 = .ok (.goto 7, 3) := by decide +kernel
theorem dX6_tableOf_21 : decode cX6_tableOf 21 = .ok (.aload_n 0, 1) := by decide +kernel
theorem dX6_tableOf_22 : decode cX6_tableOf 22 = .ok (.getfield 18, 3) := by decide +kernel
theorem dX6_tableOf_25 : decode cX6_tableOf 25 = .ok (.areturn, 1) := by decide +kernel
theorem dX6_scatter_0 : decode cX6_scatter 0 = .ok (.iconst 1, 1) := by decide +kernel
theorem dX6_scatter_1 : decode cX6_scatter 1 = .ok (.iload_n 3, 1) := by decide +kernel
theorem dX6_scatter_2 : decode cX6_scatter 2 = .ok (.iconst 1, 1) := by decide +kernel
theorem dX6_scatter_3 : decode cX6_scatter 3 = .ok (.iadd, 1) := by decide +kernel
theorem dX6_scatter_4 : decode cX6_scatter 4 = .ok (.invokestatic 41, 3) := by decide +kernel
theorem dX6_scatter_7 : decode cX6_scatter 7 = .ok (.istore 4, 2) := by decide +kernel
theorem dX6_scatter_9 : decode cX6_scatter 9 = .ok (.iload_n 2, 1) := by decide +kernel
theorem dX6_scatter_10 : decode cX6_scatter 10 = .ok (.i2l, 1) := by decide +kernel
theorem dX6_scatter_11 : decode cX6_scatter 11 = .ok (.lstore 5, 2) := by decide +kernel
theorem dX6_scatter_13 : decode cX6_scatter 13 = .ok (.iconst 0, 1) := by decide +kernel
theorem dX6_scatter_14 : decode cX6_scatter 14 = .ok (.istore 7, 2) := by decide +kernel
theorem dX6_scatter_16 : decode cX6_scatter 16 = .ok (.iload 7, 2) := by decide +kernel
theorem dX6_scatter_18 : decode cX6_scatter 18 = .ok (.aload_n 0, 1) := by decide +kernel
theorem dX6_scatter_19 : decode cX6_scatter 19 = .ok (.getfield 31, 3) := by decide +kernel
theorem dX6_scatter_22 : decode cX6_scatter 22 = .ok (.if_icmp .ge 61, 3) := by decide +kernel
theorem dX6_scatter_25 : decode cX6_scatter 25 = .ok (.iconst 0, 1) := by decide +kernel
theorem dX6_scatter_26 : decode cX6_scatter 26 = .ok (.istore 8, 2) := by decide +kernel
theorem dX6_scatter_28 : decode cX6_scatter 28 = .ok (.iload 8, 2) := by decide +kernel
theorem dX6_scatter_30 : decode cX6_scatter 30 = .ok (.aload_n 0, 1) := by decide +kernel
theorem dX6_scatter_31 : decode cX6_scatter 31 = .ok (.getfield 31, 3) := by decide +kernel
theorem dX6_scatter_34 : decode cX6_scatter 34 = .ok (.if_icmp .ge 43, 3) := by decide +kernel
theorem dX6_scatter_37 : decode cX6_scatter 37 = .ok (.ldc2_w 47, 3) := by decide +kernel
theorem dX6_scatter_40 : decode cX6_scatter 40 = .ok (.lload 5, 2) := by decide +kernel
theorem dX6_scatter_42 : decode cX6_scatter 42 = .ok (.lmul, 1) := by decide +kernel
theorem dX6_scatter_43 : decode cX6_scatter 43 = .ok (.ldc2_w 49, 3) := by decide +kernel
theorem dX6_scatter_46 : decode cX6_scatter 46 = .ok (.ladd, 1) := by decide +kernel
theorem dX6_scatter_47 : decode cX6_scatter 47 = .ok (.ldc2_w 51, 3) := by decide +kernel
theorem dX6_scatter_50 : decode cX6_scatter 50 = .ok (.land, 1) := by decide +kernel
theorem dX6_scatter_51 : decode cX6_scatter 51 = .ok (.lstore 5, 2) := by decide +kernel
theorem dX6_scatter_53 : decode cX6_scatter 53 = .ok (.aload_n 1, 1) := by decide +kernel
theorem dX6_scatter_54 : decode cX6_scatter 54 = .ok (.iload 7, 2) := by decide +kernel
theorem dX6_scatter_56 : decode cX6_scatter 56 = .ok (.iload 8, 2) := by decide +kernel
theorem dX6_scatter_58 : decode cX6_scatter 58 = .ok (.lload 5, 2) := by decide +kernel
theorem dX6_scatter_60 : decode cX6_scatter 60 = .ok (.bipush 16, 2) := by decide +kernel
theorem dX6_scatter_62 : decode cX6_scatter 62 = .ok (.lshr, 1) := by decide +kernel
theorem dX6_scatter_63 : decode cX6_scatter 63 = .ok (.iload 4, 2) := by decide +kernel
theorem dX6_scatter_65 : decode cX6_scatter 65 = .ok (.i2l, 1) := by decide +kernel
theorem dX6_scatter_66 : decode cX6_scatter 66 = .ok (.lrem, 1) := by decide +kernel
theorem dX6_scatter_67 : decode cX6_scatter 67 = .ok (.l2i, 1) := by decide +kernel
theorem dX6_scatter_68 : decode cX6_scatter 68 = .ok (.invokestatic 53, 3) := by decide +kernel
theorem dX6_scatter_71 : decode cX6_scatter 71 = .ok (.iinc 8 1, 3) := by decide +kernel
theorem dX6_scatter_74 : decode cX6_scatter 74 = .ok (.goto (-46), 3) := by decide +kernel
theorem dX6_scatter_77 : decode cX6_scatter 77 = .ok (.iinc 7 1, 3) := by decide +kernel
theorem dX6_scatter_80 : decode cX6_scatter 80 = .ok (.goto (-64), 3) := by decide +kernel
theorem dX6_scatter_83 : decode cX6_scatter 83 = .ok (.return_, 1) := by decide +kernel
theorem dX6_mirror_0 : decode cX6_mirror 0 = .ok (.iconst 0, 1) := by decide +kernel
theorem dX6_mirror_1 : decode cX6_mirror 1 = .ok (.istore_n 2, 1) := by decide +kernel
theorem dX6_mirror_2 : decode cX6_mirror 2 = .ok (.iload_n 2, 1) := by decide +kernel
theorem dX6_mirror_3 : decode cX6_mirror 3 = .ok (.aload_n 0, 1) := by decide +kernel
theorem dX6_mirror_4 : decode cX6_mirror 4 = .ok (.getfield 31, 3) := by decide +kernel
theorem dX6_mirror_7 : decode cX6_mirror 7 = .ok (.if_icmp .ge 41, 3) := by decide +kernel
theorem dX6_mirror_10 : decode cX6_mirror 10 = .ok (.aload_n 1, 1) := by decide +kernel
theorem dX6_mirror_11 : decode cX6_mirror 11 = .ok (.iload_n 2, 1) := by decide +kernel
theorem dX6_mirror_12 : decode cX6_mirror 12 = .ok (.iload_n 2, 1) := by decide +kernel
theorem dX6_mirror_13 : decode cX6_mirror 13 = .ok (.iconst 0, 1) := by decide +kernel
theorem dX6_mirror_14 : decode cX6_mirror 14 = .ok (.invokestatic 53, 3) := by decide +kernel
theorem dX6_mirror_17 : decode cX6_mirror 17 = .ok (.iconst 0, 1) := by decide +kernel
theorem dX6_mirror_18 : decode cX6_mirror 18 = .ok (.istore_n 3, 1) := by decide +kernel
theorem dX6_mirror_19 : decode cX6_mirror 19 = .ok (.iload_n 3, 1) := by decide +kernel
theorem dX6_mirror_20 : decode cX6_mirror 20 = .ok (.iload_n 2, 1) := by decide +kernel
theorem dX6_mirror_21 : decode cX6_mirror 21 = .ok (.if_icmp .ge 21, 3) := by decide +kernel
theorem dX6_mirror_24 : decode cX6_mirror 24 = .ok (.aload_n 1, 1) := by decide +kernel
theorem dX6_mirror_25 : decode cX6_mirror 25 = .ok (.iload_n 2, 1) := by decide +kernel
theorem dX6_mirror_26 : decode cX6_mirror 26 = .ok (.iload_n 3, 1) := by decide +kernel
theorem dX6_mirror_27 : decode cX6_mirror 27 = .ok (.aload_n 1, 1) := by decide +kernel
theorem dX6_mirror_28 : decode cX6_mirror 28 = .ok (.iload_n 3, 1) := by decide +kernel
theorem dX6_mirror_29 : decode cX6_mirror 29 = .ok (.iload_n 2, 1) := by decide +kernel
theorem dX6_mirror_30 : decode cX6_mirror 30 = .ok (.invokestatic 57, 3) := by decide +kernel
theorem dX6_mirror_33 : decode cX6_mirror 33 = .ok (.invokestatic 53, 3) := by decide +kernel
theorem dX6_mirror_36 : decode cX6_mirror 36 = .ok (.iinc 3 1, 3) := by decide +kernel
theorem dX6_mirror_39 : decode cX6_mirror 39 = .ok (.goto (-20), 3) := by decide +kernel
theorem dX6_mirror_42 : decode cX6_mirror 42 = .ok (.iinc 2 1, 3) := by decide +kernel
theorem dX6_mirror_45 : decode cX6_mirror 45 = .ok (.goto (-43), 3) := by decide +kernel
theorem dX6_mirror_48 : decode cX6_mirror 48 = .ok (.return_, 1) := by decide +kernel
theorem dX6_sumOf_0 : decode cX6_sumOf 0 = .ok (.iconst 0, 1) := by decide +kernel
theorem dX6_sumOf_1 : decode cX6_sumOf 1 = .ok (.istore_n 2, 1) := by decide +kernel
theorem dX6_sumOf_2 : decode cX6_sumOf 2 = .ok (.iconst 0, 1) := by decide +kernel
theorem dX6_sumOf_3 : decode cX6_sumOf 3 = .ok (.istore_n 3, 1) := by decide +kernel
theorem dX6_sumOf_4 : decode cX6_sumOf 4 = .ok (.iload_n 3, 1) := by decide +kernel
theorem dX6_sumOf_5 : decode cX6_sumOf 5 = .ok (.aload_n 0, 1) := by decide +kernel
theorem dX6_sumOf_6 : decode cX6_sumOf 6 = .ok (.getfield 31, 3) := by decide +kernel
theorem dX6_sumOf_9 : decode cX6_sumOf 9 = .ok (.if_icmp .ge 37, 3) := by decide +kernel
theorem dX6_sumOf_12 : decode cX6_sumOf 12 = .ok (.iconst 0, 1) := by decide +kernel
theorem dX6_sumOf_13 : decode cX6_sumOf 13 = .ok (.istore 4, 2) := by decide +kernel
theorem dX6_sumOf_15 : decode cX6_sumOf 15 = .ok (.iload 4, 2) := by decide +kernel
theorem dX6_sumOf_17 : decode cX6_sumOf 17 = .ok (.aload_n 0, 1) := by decide +kernel
theorem dX6_sumOf_18 : decode cX6_sumOf 18 = .ok (.getfield 31, 3) := by decide +kernel
theorem dX6_sumOf_21 : decode cX6_sumOf 21 = .ok (.if_icmp .ge 19, 3) := by decide +kernel
theorem dX6_sumOf_24 : decode cX6_sumOf 24 = .ok (.iload_n 2, 1) := by decide +kernel
theorem dX6_sumOf_25 : decode cX6_sumOf 25 = .ok (.aload_n 1, 1) := by decide +kernel
theorem dX6_sumOf_26 : decode cX6_sumOf 26 = .ok (.iload_n 3, 1) := by decide +kernel
theorem dX6_sumOf_27 : decode cX6_sumOf 27 = .ok (.iload 4, 2) := by decide +kernel
theorem dX6_sumOf_29 : decode cX6_sumOf 29 = .ok (.invokestatic 57, 3) := by decide +kernel
theorem dX6_sumOf_32 : decode cX6_sumOf 32 = .ok (.iadd, 1) := by decide +kernel
theorem dX6_sumOf_33 : decode cX6_sumOf 33 = .ok (.istore_n 2, 1) := by decide +kernel
theorem dX6_sumOf_34 : decode cX6_sumOf 34 = .ok (.iinc 4 1, 3) := by decide +kernel
theorem dX6_sumOf_37 : decode cX6_sumOf 37 = .ok (.goto (-22), 3) := by decide +kernel
theorem dX6_sumOf_40 : decode cX6_sumOf 40 = .ok (.iinc 3 1, 3) := by decide +kernel
theorem dX6_sumOf_43 : decode cX6_sumOf 43 = .ok (.goto (-39), 3) := by decide +kernel
theorem dX6_sumOf_46 : decode cX6_sumOf 46 = .ok (.iload_n 2, 1) := by decide +kernel
theorem dX6_sumOf_47 : decode cX6_sumOf 47 = .ok (.ireturn, 1) := by decide +kernel
theorem dX6_costOf_0 : decode cX6_costOf 0 = .ok (.aload_n 0, 1) := by decide +kernel
theorem dX6_costOf_1 : decode cX6_costOf 1 = .ok (.aload_n 1, 1) := by decide +kernel
theorem dX6_costOf_2 : decode cX6_costOf 2 = .ok (.invokevirtual 61, 3) := by decide +kernel
theorem dX6_costOf_5 : decode cX6_costOf 5 = .ok (.ireturn, 1) := by decide +kernel
theorem dX6_partCost_0 : decode cX6_partCost 0 = .ok (.iconst 0, 1) := by decide +kernel
theorem dX6_partCost_1 : decode cX6_partCost 1 = .ok (.istore_n 2, 1) := by decide +kernel
theorem dX6_partCost_2 : decode cX6_partCost 2 = .ok (.iconst 0, 1) := by decide +kernel
theorem dX6_partCost_3 : decode cX6_partCost 3 = .ok (.istore_n 3, 1) := by decide +kernel
theorem dX6_partCost_4 : decode cX6_partCost 4 = .ok (.iload_n 3, 1) := by decide +kernel
theorem dX6_partCost_5 : decode cX6_partCost 5 = .ok (.aload_n 0, 1) := by decide +kernel
theorem dX6_partCost_6 : decode cX6_partCost 6 = .ok (.getfield 31, 3) := by decide +kernel
theorem dX6_partCost_9 : decode cX6_partCost 9 = .ok (.if_icmp .ge 95, 3) := by decide +kernel
theorem dX6_partCost_12 : decode cX6_partCost 12 = .ok (.aload_n 1, 1) := by decide +kernel
theorem dX6_partCost_13 : decode cX6_partCost 13 = .ok (.iload_n 3, 1) := by decide +kernel
theorem dX6_partCost_14 : decode cX6_partCost 14 = .ok (.invokestatic 65, 3) := by decide +kernel
theorem dX6_partCost_17 : decode cX6_partCost 17 = .ok (.istore 4, 2) := by decide +kernel
theorem dX6_partCost_19 : decode cX6_partCost 19 = .ok (.iload 4, 2) := by decide +kernel
theorem dX6_partCost_21 : decode cX6_partCost 21 = .ok (.iconst (-1), 1) := by decide +kernel
theorem dX6_partCost_22 : decode cX6_partCost 22 = .ok (.if_icmp .ne 6, 3) := by decide +kernel
theorem dX6_partCost_25 : decode cX6_partCost 25 = .ok (.goto 73, 3) := by decide +kernel
theorem dX6_partCost_28 : decode cX6_partCost 28 = .ok (.iload_n 2, 1) := by decide +kernel
theorem dX6_partCost_29 : decode cX6_partCost 29 = .ok (.aload_n 0, 1) := by decide +kernel
theorem dX6_partCost_30 : decode cX6_partCost 30 = .ok (.getfield 18, 3) := by decide +kernel
theorem dX6_partCost_33 : decode cX6_partCost 33 = .ok (.iload_n 3, 1) := by decide +kernel
theorem dX6_partCost_34 : decode cX6_partCost 34 = .ok (.iload 4, 2) := by decide +kernel
theorem dX6_partCost_36 : decode cX6_partCost 36 = .ok (.invokestatic 57, 3) := by decide +kernel
theorem dX6_partCost_39 : decode cX6_partCost 39 = .ok (.iadd, 1) := by decide +kernel
theorem dX6_partCost_40 : decode cX6_partCost 40 = .ok (.istore_n 2, 1) := by decide +kernel
theorem dX6_partCost_41 : decode cX6_partCost 41 = .ok (.iconst 0, 1) := by decide +kernel
theorem dX6_partCost_42 : decode cX6_partCost 42 = .ok (.istore 5, 2) := by decide +kernel
theorem dX6_partCost_44 : decode cX6_partCost 44 = .ok (.iload 5, 2) := by decide +kernel
theorem dX6_partCost_46 : decode cX6_partCost 46 = .ok (.aload_n 0, 1) := by decide +kernel
theorem dX6_partCost_47 : decode cX6_partCost 47 = .ok (.getfield 31, 3) := by decide +kernel
theorem dX6_partCost_50 : decode cX6_partCost 50 = .ok (.if_icmp .ge 48, 3) := by decide +kernel
theorem dX6_partCost_53 : decode cX6_partCost 53 = .ok (.aload_n 1, 1) := by decide +kernel
theorem dX6_partCost_54 : decode cX6_partCost 54 = .ok (.iload 5, 2) := by decide +kernel
theorem dX6_partCost_56 : decode cX6_partCost 56 = .ok (.invokestatic 65, 3) := by decide +kernel
theorem dX6_partCost_59 : decode cX6_partCost 59 = .ok (.istore 6, 2) := by decide +kernel
theorem dX6_partCost_61 : decode cX6_partCost 61 = .ok (.iload 6, 2) := by decide +kernel
theorem dX6_partCost_63 : decode cX6_partCost 63 = .ok (.iconst (-1), 1) := by decide +kernel
theorem dX6_partCost_64 : decode cX6_partCost 64 = .ok (.if_icmp .eq 28, 3) := by decide +kernel
theorem dX6_partCost_67 : decode cX6_partCost 67 = .ok (.iload_n 2, 1) := by decide +kernel
theorem dX6_partCost_68 : decode cX6_partCost 68 = .ok (.aload_n 0, 1) := by decide +kernel
theorem dX6_partCost_69 : decode cX6_partCost 69 = .ok (.getfield 9, 3) := by decide +kernel
theorem dX6_partCost_72 : decode cX6_partCost 72 = .ok (.iload_n 3, 1) := by decide +kernel
theorem dX6_partCost_73 : decode cX6_partCost 73 = .ok (.iload 5, 2) := by decide +kernel
theorem dX6_partCost_75 : decode cX6_partCost 75 = .ok (.invokestatic 57, 3) := by decide +kernel
theorem dX6_partCost_78 : decode cX6_partCost 78 = .ok (.aload_n 0, 1) := by decide +kernel
theorem dX6_partCost_79 : decode cX6_partCost 79 = .ok (.getfield 15, 3) := by decide +kernel
theorem dX6_partCost_82 : decode cX6_partCost 82 = .ok (.iload 4, 2) := by decide +kernel
theorem dX6_partCost_84 : decode cX6_partCost 84 = .ok (.iload 6, 2) := by decide +kernel
theorem dX6_partCost_86 : decode cX6_partCost 86 = .ok (.invokestatic 57, 3) := by decide +kernel
theorem dX6_partCost_89 : decode cX6_partCost 89 = .ok (.imul, 1) := by decide +kernel
theorem dX6_partCost_90 : decode cX6_partCost 90 = .ok (.iadd, 1) := by decide +kernel
theorem dX6_partCost_91 : decode cX6_partCost 91 = .ok (.istore_n 2, 1) := by decide +kernel
theorem dX6_partCost_92 : decode cX6_partCost 92 = .ok (.iinc 5 1, 3) := by decide +kernel
theorem dX6_partCost_95 : decode cX6_partCost 95 = .ok (.goto (-51), 3) := by decide +kernel
theorem dX6_partCost_98 : decode cX6_partCost 98 = .ok (.iinc 3 1, 3) := by decide +kernel
theorem dX6_partCost_101 : decode cX6_partCost 101 = .ok (.goto (-97), 3) := by decide +kernel
theorem dX6_partCost_104 : decode cX6_partCost 104 = .ok (.iload_n 2, 1) := by decide +kernel
theorem dX6_partCost_105 : decode cX6_partCost 105 = .ok (.ireturn, 1) := by decide +kernel
theorem dX6_gainOf_0 : decode cX6_gainOf 0 = .ok (.iload_n 2, 1) := by decide +kernel
theorem dX6_gainOf_1 : decode cX6_gainOf 1 = .ok (.iload_n 3, 1) := by decide +kernel
theorem dX6_gainOf_2 : decode cX6_gainOf 2 = .ok (.if_icmp .ne 5, 3) := by decide +kernel
theorem dX6_gainOf_5 : decode cX6_gainOf 5 = .ok (.iconst 0, 1) := by decide +kernel
theorem dX6_gainOf_6 : decode cX6_gainOf 6 = .ok (.ireturn, 1) := by decide +kernel
theorem dX6_gainOf_7 : decode cX6_gainOf 7 = .ok (.aload_n 1, 1) := by decide +kernel
theorem dX6_gainOf_8 : decode cX6_gainOf 8 = .ok (.iload_n 2, 1) := by decide +kernel
theorem dX6_gainOf_9 : decode cX6_gainOf 9 = .ok (.invokestatic 65, 3) := by decide +kernel
theorem dX6_gainOf_12 : decode cX6_gainOf 12 = .ok (.istore 4, 2) := by decide +kernel
theorem dX6_gainOf_14 : decode cX6_gainOf 14 = .ok (.aload_n 1, 1) := by decide +kernel
theorem dX6_gainOf_15 : decode cX6_gainOf 15 = .ok (.iload_n 3, 1) := by decide +kernel
theorem dX6_gainOf_16 : decode cX6_gainOf 16 = .ok (.invokestatic 65, 3) := by decide +kernel
theorem dX6_gainOf_19 : decode cX6_gainOf 19 = .ok (.istore 5, 2) := by decide +kernel
theorem dX6_gainOf_21 : decode cX6_gainOf 21 = .ok (.aload_n 0, 1) := by decide +kernel
theorem dX6_gainOf_22 : decode cX6_gainOf 22 = .ok (.getfield 18, 3) := by decide +kernel
theorem dX6_gainOf_25 : decode cX6_gainOf 25 = .ok (.iload_n 2, 1) := by decide +kernel
theorem dX6_gainOf_26 : decode cX6_gainOf 26 = .ok (.iload 4, 2) := by decide +kernel
theorem dX6_gainOf_28 : decode cX6_gainOf 28 = .ok (.invokestatic 57, 3) := by decide +kernel
theorem dX6_gainOf_31 : decode cX6_gainOf 31 = .ok (.aload_n 0, 1) := by decide +kernel
theorem dX6_gainOf_32 : decode cX6_gainOf 32 = .ok (.getfield 18, 3) := by decide +kernel
theorem dX6_gainOf_35 : decode cX6_gainOf 35 = .ok (.iload_n 3, 1) := by decide +kernel
theorem dX6_gainOf_36 : decode cX6_gainOf 36 = .ok (.iload 5, 2) := by decide +kernel
theorem dX6_gainOf_38 : decode cX6_gainOf 38 = .ok (.invokestatic 57, 3) := by decide +kernel
theorem dX6_gainOf_41 : decode cX6_gainOf 41 = .ok (.iadd, 1) := by decide +kernel
theorem dX6_gainOf_42 : decode cX6_gainOf 42 = .ok (.aload_n 0, 1) := by decide +kernel
theorem dX6_gainOf_43 : decode cX6_gainOf 43 = .ok (.getfield 18, 3) := by decide +kernel
theorem dX6_gainOf_46 : decode cX6_gainOf 46 = .ok (.iload_n 2, 1) := by decide +kernel
theorem dX6_gainOf_47 : decode cX6_gainOf 47 = .ok (.iload 5, 2) := by decide +kernel
theorem dX6_gainOf_49 : decode cX6_gainOf 49 = .ok (.invokestatic 57, 3) := by decide +kernel
theorem dX6_gainOf_52 : decode cX6_gainOf 52 = .ok (.isub, 1) := by decide +kernel
theorem dX6_gainOf_53 : decode cX6_gainOf 53 = .ok (.aload_n 0, 1) := by decide +kernel
theorem dX6_gainOf_54 : decode cX6_gainOf 54 = .ok (.getfield 18, 3) := by decide +kernel
theorem dX6_gainOf_57 : decode cX6_gainOf 57 = .ok (.iload_n 3, 1) := by decide +kernel
theorem dX6_gainOf_58 : decode cX6_gainOf 58 = .ok (.iload 4, 2) := by decide +kernel
theorem dX6_gainOf_60 : decode cX6_gainOf 60 = .ok (.invokestatic 57, 3) := by decide +kernel
theorem dX6_gainOf_63 : decode cX6_gainOf 63 = .ok (.isub, 1) := by decide +kernel
theorem dX6_gainOf_64 : decode cX6_gainOf 64 = .ok (.istore 6, 2) := by decide +kernel
theorem dX6_gainOf_66 : decode cX6_gainOf 66 = .ok (.iload 6, 2) := by decide +kernel
theorem dX6_gainOf_68 : decode cX6_gainOf 68 = .ok (.aload_n 0, 1) := by decide +kernel
theorem dX6_gainOf_69 : decode cX6_gainOf 69 = .ok (.getfield 9, 3) := by decide +kernel
theorem dX6_gainOf_72 : decode cX6_gainOf 72 = .ok (.iload_n 2, 1) := by decide +kernel
theorem dX6_gainOf_73 : decode cX6_gainOf 73 = .ok (.iload_n 2, 1) := by decide +kernel
theorem dX6_gainOf_74 : decode cX6_gainOf 74 = .ok (.invokestatic 57, 3) := by decide +kernel
theorem dX6_gainOf_77 : decode cX6_gainOf 77 = .ok (.aload_n 0, 1) := by decide +kernel
theorem dX6_gainOf_78 : decode cX6_gainOf 78 = .ok (.getfield 9, 3) := by decide +kernel
theorem dX6_gainOf_81 : decode cX6_gainOf 81 = .ok (.iload_n 3, 1) := by decide +kernel
theorem dX6_gainOf_82 : decode cX6_gainOf 82 = .ok (.iload_n 3, 1) := by decide +kernel
theorem dX6_gainOf_83 : decode cX6_gainOf 83 = .ok (.invokestatic 57, 3) := by decide +kernel
theorem dX6_gainOf_86 : decode cX6_gainOf 86 = .ok (.isub, 1) := by decide +kernel
theorem dX6_gainOf_87 : decode cX6_gainOf 87 = .ok (.aload_n 0, 1) := by decide +kernel
theorem dX6_gainOf_88 : decode cX6_gainOf 88 = .ok (.getfield 15, 3) := by decide +kernel
theorem dX6_gainOf_91 : decode cX6_gainOf 91 = .ok (.iload 4, 2) := by decide +kernel
theorem dX6_gainOf_93 : decode cX6_gainOf 93 = .ok (.iload 4, 2) := by decide +kernel
theorem dX6_gainOf_95 : decode cX6_gainOf 95 = .ok (.invokestatic 57, 3) := by decide +kernel
theorem dX6_gainOf_98 : decode cX6_gainOf 98 = .ok (.aload_n 0, 1) := by decide +kernel
theorem dX6_gainOf_99 : decode cX6_gainOf 99 = .ok (.getfield 15, 3) := by decide +kernel
theorem dX6_gainOf_102 : decode cX6_gainOf 102 = .ok (.iload 5, 2) := by decide +kernel
theorem dX6_gainOf_104 : decode cX6_gainOf 104 = .ok (.iload 5, 2) := by decide +kernel
theorem dX6_gainOf_106 : decode cX6_gainOf 106 = .ok (.invokestatic 57, 3) := by decide +kernel
theorem dX6_gainOf_109 : decode cX6_gainOf 109 = .ok (.isub, 1) := by decide +kernel
theorem dX6_gainOf_110 : decode cX6_gainOf 110 = .ok (.imul, 1) := by decide +kernel
theorem dX6_gainOf_111 : decode cX6_gainOf 111 = .ok (.iadd, 1) := by decide +kernel
theorem dX6_gainOf_112 : decode cX6_gainOf 112 = .ok (.istore 6, 2) := by decide +kernel
theorem dX6_gainOf_114 : decode cX6_gainOf 114 = .ok (.iload 6, 2) := by decide +kernel
theorem dX6_gainOf_116 : decode cX6_gainOf 116 = .ok (.aload_n 0, 1) := by decide +kernel
theorem dX6_gainOf_117 : decode cX6_gainOf 117 = .ok (.getfield 9, 3) := by decide +kernel
theorem dX6_gainOf_120 : decode cX6_gainOf 120 = .ok (.iload_n 2, 1) := by decide +kernel
theorem dX6_gainOf_121 : decode cX6_gainOf 121 = .ok (.iload_n 3, 1) := by decide +kernel
theorem dX6_gainOf_122 : decode cX6_gainOf 122 = .ok (.invokestatic 57, 3) := by decide +kernel
theorem dX6_gainOf_125 : decode cX6_gainOf 125 = .ok (.aload_n 0, 1) := by decide +kernel
theorem dX6_gainOf_126 : decode cX6_gainOf 126 = .ok (.getfield 9, 3) := by decide +kernel
theorem dX6_gainOf_129 : decode cX6_gainOf 129 = .ok (.iload_n 3, 1) := by decide +kernel
theorem dX6_gainOf_130 : decode cX6_gainOf 130 = .ok (.iload_n 2, 1) := by decide +kernel
theorem dX6_gainOf_131 : decode cX6_gainOf 131 = .ok (.invokestatic 57, 3) := by decide +kernel
theorem dX6_gainOf_134 : decode cX6_gainOf 134 = .ok (.isub, 1) := by decide +kernel
theorem dX6_gainOf_135 : decode cX6_gainOf 135 = .ok (.aload_n 0, 1) := by decide +kernel
theorem dX6_gainOf_136 : decode cX6_gainOf 136 = .ok (.getfield 15, 3) := by decide +kernel
theorem dX6_gainOf_139 : decode cX6_gainOf 139 = .ok (.iload 4, 2) := by decide +kernel
theorem dX6_gainOf_141 : decode cX6_gainOf 141 = .ok (.iload 5, 2) := by decide +kernel
theorem dX6_gainOf_143 : decode cX6_gainOf 143 = .ok (.invokestatic 57, 3) := by decide +kernel
theorem dX6_gainOf_146 : decode cX6_gainOf 146 = .ok (.aload_n 0, 1) := by decide +kernel
theorem dX6_gainOf_147 : decode cX6_gainOf 147 = .ok (.getfield 15, 3) := by decide +kernel
theorem dX6_gainOf_150 : decode cX6_gainOf 150 = .ok (.iload 5, 2) := by decide +kernel
theorem dX6_gainOf_152 : decode cX6_gainOf 152 = .ok (.iload 4, 2) := by decide +kernel
theorem dX6_gainOf_154 : decode cX6_gainOf 154 = .ok (.invokestatic 57, 3) := by decide +kernel
theorem dX6_gainOf_157 : decode cX6_gainOf 157 = .ok (.isub, 1) := by decide +kernel
theorem dX6_gainOf_158 : decode cX6_gainOf 158 = .ok (.imul, 1) := by decide +kernel
theorem dX6_gainOf_159 : decode cX6_gainOf 159 = .ok (.iadd, 1) := by decide +kernel
theorem dX6_gainOf_160 : decode cX6_gainOf 160 = .ok (.istore 6, 2) := by decide +kernel
theorem dX6_gainOf_162 : decode cX6_gainOf 162 = .ok (.iconst 0, 1) := by decide +kernel
theorem dX6_gainOf_163 : decode cX6_gainOf 163 = .ok (.istore 7, 2) := by decide +kernel
theorem dX6_gainOf_165 : decode cX6_gainOf 165 = .ok (.iload 7, 2) := by decide +kernel
theorem dX6_gainOf_167 : decode cX6_gainOf 167 = .ok (.aload_n 0, 1) := by decide +kernel
theorem dX6_gainOf_168 : decode cX6_gainOf 168 = .ok (.getfield 31, 3) := by decide +kernel
theorem dX6_gainOf_171 : decode cX6_gainOf 171 = .ok (.if_icmp .ge 129, 3) := by decide +kernel
theorem dX6_gainOf_174 : decode cX6_gainOf 174 = .ok (.iload 7, 2) := by decide +kernel
theorem dX6_gainOf_176 : decode cX6_gainOf 176 = .ok (.iload_n 2, 1) := by decide +kernel
theorem dX6_gainOf_177 : decode cX6_gainOf 177 = .ok (.if_icmp .eq 117, 3) := by decide +kernel
theorem dX6_gainOf_180 : decode cX6_gainOf 180 = .ok (.iload 7, 2) := by decide +kernel
theorem dX6_gainOf_182 : decode cX6_gainOf 182 = .ok (.iload_n 3, 1) := by decide +kernel
theorem dX6_gainOf_183 : decode cX6_gainOf 183 = .ok (.if_icmp .eq 111, 3) := by decide +kernel
theorem dX6_gainOf_186 : decode cX6_gainOf 186 = .ok (.aload_n 1, 1) := by decide +kernel
theorem dX6_gainOf_187 : decode cX6_gainOf 187 = .ok (.iload 7, 2) := by decide +kernel
theorem dX6_gainOf_189 : decode cX6_gainOf 189 = .ok (.invokestatic 65, 3) := by decide +kernel
theorem dX6_gainOf_192 : decode cX6_gainOf 192 = .ok (.istore 8, 2) := by decide +kernel
theorem dX6_gainOf_194 : decode cX6_gainOf 194 = .ok (.iload 6, 2) := by decide +kernel
theorem dX6_gainOf_196 : decode cX6_gainOf 196 = .ok (.aload_n 0, 1) := by decide +kernel
theorem dX6_gainOf_197 : decode cX6_gainOf 197 = .ok (.getfield 9, 3) := by decide +kernel
theorem dX6_gainOf_200 : decode cX6_gainOf 200 = .ok (.iload_n 2, 1) := by decide +kernel
theorem dX6_gainOf_201 : decode cX6_gainOf 201 = .ok (.iload 7, 2) := by decide +kernel
theorem dX6_gainOf_203 : decode cX6_gainOf 203 = .ok (.invokestatic 57, 3) := by decide +kernel
theorem dX6_gainOf_206 : decode cX6_gainOf 206 = .ok (.aload_n 0, 1) := by decide +kernel
theorem dX6_gainOf_207 : decode cX6_gainOf 207 = .ok (.getfield 9, 3) := by decide +kernel
theorem dX6_gainOf_210 : decode cX6_gainOf 210 = .ok (.iload_n 3, 1) := by decide +kernel
theorem dX6_gainOf_211 : decode cX6_gainOf 211 = .ok (.iload 7, 2) := by decide +kernel
theorem dX6_gainOf_213 : decode cX6_gainOf 213 = .ok (.invokestatic 57, 3) := by decide +kernel
theorem dX6_gainOf_216 : decode cX6_gainOf 216 = .ok (.isub, 1) := by decide +kernel
theorem dX6_gainOf_217 : decode cX6_gainOf 217 = .ok (.aload_n 0, 1) := by decide +kernel
theorem dX6_gainOf_218 : decode cX6_gainOf 218 = .ok (.getfield 15, 3) := by decide +kernel
theorem dX6_gainOf_221 : decode cX6_gainOf 221 = .ok (.iload 4, 2) := by decide +kernel
theorem dX6_gainOf_223 : decode cX6_gainOf 223 = .ok (.iload 8, 2) := by decide +kernel
theorem dX6_gainOf_225 : decode cX6_gainOf 225 = .ok (.invokestatic 57, 3) := by decide +kernel
theorem dX6_gainOf_228 : decode cX6_gainOf 228 = .ok (.aload_n 0, 1) := by decide +kernel
theorem dX6_gainOf_229 : decode cX6_gainOf 229 = .ok (.getfield 15, 3) := by decide +kernel
theorem dX6_gainOf_232 : decode cX6_gainOf 232 = .ok (.iload 5, 2) := by decide +kernel
theorem dX6_gainOf_234 : decode cX6_gainOf 234 = .ok (.iload 8, 2) := by decide +kernel
theorem dX6_gainOf_236 : decode cX6_gainOf 236 = .ok (.invokestatic 57, 3) := by decide +kernel
theorem dX6_gainOf_239 : decode cX6_gainOf 239 = .ok (.isub, 1) := by decide +kernel
theorem dX6_gainOf_240 : decode cX6_gainOf 240 = .ok (.imul, 1) := by decide +kernel
theorem dX6_gainOf_241 : decode cX6_gainOf 241 = .ok (.iadd, 1) := by decide +kernel
theorem dX6_gainOf_242 : decode cX6_gainOf 242 = .ok (.istore 6, 2) := by decide +kernel
theorem dX6_gainOf_244 : decode cX6_gainOf 244 = .ok (.iload 6, 2) := by decide +kernel
theorem dX6_gainOf_246 : decode cX6_gainOf 246 = .ok (.aload_n 0, 1) := by decide +kernel
theorem dX6_gainOf_247 : decode cX6_gainOf 247 = .ok (.getfield 9, 3) := by decide +kernel
theorem dX6_gainOf_250 : decode cX6_gainOf 250 = .ok (.iload 7, 2) := by decide +kernel
theorem dX6_gainOf_252 : decode cX6_gainOf 252 = .ok (.iload_n 2, 1) := by decide +kernel
theorem dX6_gainOf_253 : decode cX6_gainOf 253 = .ok (.invokestatic 57, 3) := by decide +kernel
theorem dX6_gainOf_256 : decode cX6_gainOf 256 = .ok (.aload_n 0, 1) := by decide +kernel
theorem dX6_gainOf_257 : decode cX6_gainOf 257 = .ok (.getfield 9, 3) := by decide +kernel
theorem dX6_gainOf_260 : decode cX6_gainOf 260 = .ok (.iload 7, 2) := by decide +kernel
theorem dX6_gainOf_262 : decode cX6_gainOf 262 = .ok (.iload_n 3, 1) := by decide +kernel
theorem dX6_gainOf_263 : decode cX6_gainOf 263 = .ok (.invokestatic 57, 3) := by decide +kernel
theorem dX6_gainOf_266 : decode cX6_gainOf 266 = .ok (.isub, 1) := by decide +kernel
theorem dX6_gainOf_267 : decode cX6_gainOf 267 = .ok (.aload_n 0, 1) := by decide +kernel
theorem dX6_gainOf_268 : decode cX6_gainOf 268 = .ok (.getfield 15, 3) := by decide +kernel
theorem dX6_gainOf_271 : decode cX6_gainOf 271 = .ok (.iload 8, 2) := by decide +kernel
theorem dX6_gainOf_273 : decode cX6_gainOf 273 = .ok (.iload 4, 2) := by decide +kernel
theorem dX6_gainOf_275 : decode cX6_gainOf 275 = .ok (.invokestatic 57, 3) := by decide +kernel
theorem dX6_gainOf_278 : decode cX6_gainOf 278 = .ok (.aload_n 0, 1) := by decide +kernel
theorem dX6_gainOf_279 : decode cX6_gainOf 279 = .ok (.getfield 15, 3) := by decide +kernel
theorem dX6_gainOf_282 : decode cX6_gainOf 282 = .ok (.iload 8, 2) := by decide +kernel
theorem dX6_gainOf_284 : decode cX6_gainOf 284 = .ok (.iload 5, 2) := by decide +kernel
theorem dX6_gainOf_286 : decode cX6_gainOf 286 = .ok (.invokestatic 57, 3) := by decide +kernel
theorem dX6_gainOf_289 : decode cX6_gainOf 289 = .ok (.isub, 1) := by decide +kernel
theorem dX6_gainOf_290 : decode cX6_gainOf 290 = .ok (.imul, 1) := by decide +kernel
theorem dX6_gainOf_291 : decode cX6_gainOf 291 = .ok (.iadd, 1) := by decide +kernel
theorem dX6_gainOf_292 : decode cX6_gainOf 292 = .ok (.istore 6, 2) := by decide +kernel
theorem dX6_gainOf_294 : decode cX6_gainOf 294 = .ok (.iinc 7 1, 3) := by decide +kernel
theorem dX6_gainOf_297 : decode cX6_gainOf 297 = .ok (.goto (-132), 3) := by decide +kernel
theorem dX6_gainOf_300 : decode cX6_gainOf 300 = .ok (.iload 6, 2) := by decide +kernel
theorem dX6_gainOf_302 : decode cX6_gainOf 302 = .ok (.ireturn, 1) := by decide +kernel
theorem dX6_isFree_0 : decode cX6_isFree 0 = .ok (.aload_n 0, 1) := by decide +kernel
theorem dX6_isFree_1 : decode cX6_isFree 1 = .ok (.getfield 24, 3) := by decide +kernel
theorem dX6_isFree_4 : decode cX6_isFree 4 = .ok (.iload_n 1, 1) := by decide +kernel
theorem dX6_isFree_5 : decode cX6_isFree 5 = .ok (.invokestatic 65, 3) := by decide +kernel
theorem dX6_isFree_8 : decode cX6_isFree 8 = .ok (.iconst (-1), 1) := by decide +kernel
theorem dX6_isFree_9 : decode cX6_isFree 9 = .ok (.if_icmp .ne 7, 3) := by decide +kernel
theorem dX6_isFree_12 : decode cX6_isFree 12 = .ok (.iconst 1, 1) := by decide +kernel
theorem dX6_isFree_13 : decode cX6_isFree 13 = .ok (.goto 4, 3) := by decide +kernel
theorem dX6_isFree_16 : decode cX6_isFree 16 = .ok (.iconst 0, 1) := by decide +kernel
theorem dX6_isFree_17 : decode cX6_isFree 17 = .ok (.ireturn, 1) := by decide +kernel
theorem dX6_freeCount_0 : decode cX6_freeCount 0 = .ok (.iconst 0, 1) := by decide +kernel
theorem dX6_freeCount_1 : decode cX6_freeCount 1 = .ok (.istore_n 1, 1) := by decide +kernel
theorem dX6_freeCount_2 : decode cX6_freeCount 2 = .ok (.iconst 0, 1) := by decide +kernel
theorem dX6_freeCount_3 : decode cX6_freeCount 3 = .ok (.istore_n 2, 1) := by decide +kernel
theorem dX6_freeCount_4 : decode cX6_freeCount 4 = .ok (.iload_n 2, 1) := by decide +kernel
theorem dX6_freeCount_5 : decode cX6_freeCount 5 = .ok (.aload_n 0, 1) := by decide +kernel
theorem dX6_freeCount_6 : decode cX6_freeCount 6 = .ok (.getfield 31, 3) := by decide +kernel
theorem dX6_freeCount_9 : decode cX6_freeCount 9 = .ok (.if_icmp .ge 20, 3) := by decide +kernel
theorem dX6_freeCount_12 : decode cX6_freeCount 12 = .ok (.aload_n 0, 1) := by decide +kernel
theorem dX6_freeCount_13 : decode cX6_freeCount 13 = .ok (.iload_n 2, 1) := by decide +kernel
theorem dX6_freeCount_14 : decode cX6_freeCount 14 = .ok (.invokevirtual 69, 3) := by decide +kernel
theorem dX6_freeCount_17 : decode cX6_freeCount 17 = .ok (.ifCond .eq 6, 3) := by decide +kernel
theorem dX6_freeCount_20 : decode cX6_freeCount 20 = .ok (.iinc 1 1, 3) := by decide +kernel
theorem dX6_freeCount_23 : decode cX6_freeCount 23 = .ok (.iinc 2 1, 3) := by decide +kernel
theorem dX6_freeCount_26 : decode cX6_freeCount 26 = .ok (.goto (-22), 3) := by decide +kernel
theorem dX6_freeCount_29 : decode cX6_freeCount 29 = .ok (.iload_n 1, 1) := by decide +kernel
theorem dX6_freeCount_30 : decode cX6_freeCount 30 = .ok (.ireturn, 1) := by decide +kernel
theorem dX6_bestPair_0 : decode cX6_bestPair 0 = .ok (.iconst (-1), 1) := by decide +kernel
theorem dX6_bestPair_1 : decode cX6_bestPair 1 = .ok (.istore_n 1, 1) := by decide +kernel
theorem dX6_bestPair_2 : decode cX6_bestPair 2 = .ok (.iconst 0, 1) := by decide +kernel
theorem dX6_bestPair_3 : decode cX6_bestPair 3 = .ok (.istore_n 2, 1) := by decide +kernel
theorem dX6_bestPair_4 : decode cX6_bestPair 4 = .ok (.iconst 0, 1) := by decide +kernel
theorem dX6_bestPair_5 : decode cX6_bestPair 5 = .ok (.istore_n 3, 1) := by decide +kernel
theorem dX6_bestPair_6 : decode cX6_bestPair 6 = .ok (.iload_n 3, 1) := by decide +kernel
theorem dX6_bestPair_7 : decode cX6_bestPair 7 = .ok (.aload_n 0, 1) := by decide +kernel
theorem dX6_bestPair_8 : decode cX6_bestPair 8 = .ok (.getfield 31, 3) := by decide +kernel
theorem dX6_bestPair_11 : decode cX6_bestPair 11 = .ok (.if_icmp .ge 84, 3) := by decide +kernel
theorem dX6_bestPair_14 : decode cX6_bestPair 14 = .ok (.iload_n 3, 1) := by decide +kernel
theorem dX6_bestPair_15 : decode cX6_bestPair 15 = .ok (.iconst 1, 1) := by decide +kernel
theorem dX6_bestPair_16 : decode cX6_bestPair 16 = .ok (.iadd, 1) := by decide +kernel
theorem dX6_bestPair_17 : decode cX6_bestPair 17 = .ok (.istore 4, 2) := by decide +kernel
theorem dX6_bestPair_19 : decode cX6_bestPair 19 = .ok (.iload 4, 2) := by decide +kernel
theorem dX6_bestPair_21 : decode cX6_bestPair 21 = .ok (.aload_n 0, 1) := by decide +kernel
theorem dX6_bestPair_22 : decode cX6_bestPair 22 = .ok (.getfield 31, 3) := by decide +kernel
theorem dX6_bestPair_25 : decode cX6_bestPair 25 = .ok (.if_icmp .ge 64, 3) := by decide +kernel
theorem dX6_bestPair_28 : decode cX6_bestPair 28 = .ok (.aload_n 0, 1) := by decide +kernel
theorem dX6_bestPair_29 : decode cX6_bestPair 29 = .ok (.iload_n 3, 1) := by decide +kernel
theorem dX6_bestPair_30 : decode cX6_bestPair 30 = .ok (.invokevirtual 69, 3) := by decide +kernel
theorem dX6_bestPair_33 : decode cX6_bestPair 33 = .ok (.ifCond .eq 50, 3) := by decide +kernel
theorem dX6_bestPair_36 : decode cX6_bestPair 36 = .ok (.aload_n 0, 1) := by decide +kernel
theorem dX6_bestPair_37 : decode cX6_bestPair 37 = .ok (.iload 4, 2) := by decide +kernel
theorem dX6_bestPair_39 : decode cX6_bestPair 39 = .ok (.invokevirtual 69, 3) := by decide +kernel
theorem dX6_bestPair_42 : decode cX6_bestPair 42 = .ok (.ifCond .ne 6, 3) := by decide +kernel
theorem dX6_bestPair_45 : decode cX6_bestPair 45 = .ok (.goto 38, 3) := by decide +kernel
theorem dX6_bestPair_48 : decode cX6_bestPair 48 = .ok (.aload_n 0, 1) := by decide +kernel
theorem dX6_bestPair_49 : decode cX6_bestPair 49 = .ok (.aload_n 0, 1) := by decide +kernel
theorem dX6_bestPair_50 : decode cX6_bestPair 50 = .ok (.getfield 21, 3) := by decide +kernel
theorem dX6_bestPair_53 : decode cX6_bestPair 53 = .ok (.iload_n 3, 1) := by decide +kernel
theorem dX6_bestPair_54 : decode cX6_bestPair 54 = .ok (.iload 4, 2) := by decide +kernel
theorem dX6_bestPair_56 : decode cX6_bestPair 56 = .ok (.invokevirtual 73, 3) := by decide +kernel
theorem dX6_bestPair_59 : decode cX6_bestPair 59 = .ok (.istore 5, 2) := by decide +kernel
theorem dX6_bestPair_61 : decode cX6_bestPair 61 = .ok (.iload_n 1, 1) := by decide +kernel
theorem dX6_bestPair_62 : decode cX6_bestPair 62 = .ok (.iconst (-1), 1) := by decide +kernel
theorem dX6_bestPair_63 : decode cX6_bestPair 63 = .ok (.if_icmp .eq 9, 3) := by decide +kernel
theorem dX6_bestPair_66 : decode cX6_bestPair 66 = .ok (.iload 5, 2) := by decide +kernel
theorem dX6_bestPair_68 : decode cX6_bestPair 68 = .ok (.iload_n 2, 1) := by decide +kernel
theorem dX6_bestPair_69 : decode cX6_bestPair 69 = .ok (.if_icmp .le 14, 3) := by decide +kernel
theorem dX6_bestPair_72 : decode cX6_bestPair 72 = .ok (.bipush 10, 2) := by decide +kernel
theorem dX6_bestPair_74 : decode cX6_bestPair 74 = .ok (.iload_n 3, 1) := by decide +kernel
theorem dX6_bestPair_75 : decode cX6_bestPair 75 = .ok (.imul, 1) := by decide +kernel
theorem dX6_bestPair_76 : decode cX6_bestPair 76 = .ok (.iload 4, 2) := by decide +kernel
theorem dX6_bestPair_78 : decode cX6_bestPair 78 = .ok (.iadd, 1) := by decide +kernel
theorem dX6_bestPair_79 : decode cX6_bestPair 79 = .ok (.istore_n 1, 1) := by decide +kernel
theorem dX6_bestPair_80 : decode cX6_bestPair 80 = .ok (.iload 5, 2) := by decide +kernel
theorem dX6_bestPair_82 : decode cX6_bestPair 82 = .ok (.istore_n 2, 1) := by decide +kernel
theorem dX6_bestPair_83 : decode cX6_bestPair 83 = .ok (.iinc 4 1, 3) := by decide +kernel
theorem dX6_bestPair_86 : decode cX6_bestPair 86 = .ok (.goto (-67), 3) := by decide +kernel
theorem dX6_bestPair_89 : decode cX6_bestPair 89 = .ok (.iinc 3 1, 3) := by decide +kernel
theorem dX6_bestPair_92 : decode cX6_bestPair 92 = .ok (.goto (-86), 3) := by decide +kernel
theorem dX6_bestPair_95 : decode cX6_bestPair 95 = .ok (.iload_n 1, 1) := by decide +kernel
theorem dX6_bestPair_96 : decode cX6_bestPair 96 = .ok (.ireturn, 1) := by decide +kernel
theorem dX6_agrees_0 : decode cX6_agrees 0 = .ok (.iconst 0, 1) := by decide +kernel
theorem dX6_agrees_1 : decode cX6_agrees 1 = .ok (.istore_n 2, 1) := by decide +kernel
theorem dX6_agrees_2 : decode cX6_agrees 2 = .ok (.iload_n 2, 1) := by decide +kernel
theorem dX6_agrees_3 : decode cX6_agrees 3 = .ok (.aload_n 0, 1) := by decide +kernel
theorem dX6_agrees_4 : decode cX6_agrees 4 = .ok (.getfield 31, 3) := by decide +kernel
theorem dX6_agrees_7 : decode cX6_agrees 7 = .ok (.if_icmp .ge 35, 3) := by decide +kernel
theorem dX6_agrees_10 : decode cX6_agrees 10 = .ok (.aload_n 0, 1) := by decide +kernel
theorem dX6_agrees_11 : decode cX6_agrees 11 = .ok (.iload_n 2, 1) := by decide +kernel
theorem dX6_agrees_12 : decode cX6_agrees 12 = .ok (.invokevirtual 69, 3) := by decide +kernel
theorem dX6_agrees_15 : decode cX6_agrees 15 = .ok (.ifCond .ne 21, 3) := by decide +kernel
theorem dX6_agrees_18 : decode cX6_agrees 18 = .ok (.aload_n 0, 1) := by decide +kernel
theorem dX6_agrees_19 : decode cX6_agrees 19 = .ok (.getfield 24, 3) := by decide +kernel
theorem dX6_agrees_22 : decode cX6_agrees 22 = .ok (.iload_n 2, 1) := by decide +kernel
theorem dX6_agrees_23 : decode cX6_agrees 23 = .ok (.invokestatic 65, 3) := by decide +kernel
theorem dX6_agrees_26 : decode cX6_agrees 26 = .ok (.aload_n 1, 1) := by decide +kernel
theorem dX6_agrees_27 : decode cX6_agrees 27 = .ok (.iload_n 2, 1) := by decide +kernel
theorem dX6_agrees_28 : decode cX6_agrees 28 = .ok (.invokestatic 65, 3) := by decide +kernel
theorem dX6_agrees_31 : decode cX6_agrees 31 = .ok (.if_icmp .eq 5, 3) := by decide +kernel
theorem dX6_agrees_34 : decode cX6_agrees 34 = .ok (.iconst 0, 1) := by decide +kernel
theorem dX6_agrees_35 : decode cX6_agrees 35 = .ok (.ireturn, 1) := by decide +kernel
theorem dX6_agrees_36 : decode cX6_agrees 36 = .ok (.iinc 2 1, 3) := by decide +kernel
theorem dX6_agrees_39 : decode cX6_agrees 39 = .ok (.goto (-37), 3) := by decide +kernel
theorem dX6_agrees_42 : decode cX6_agrees 42 = .ok (.iconst 1, 1) := by decide +kernel
theorem dX6_agrees_43 : decode cX6_agrees 43 = .ok (.ireturn, 1) := by decide +kernel
theorem dX6_isLocalOptimum_0 : decode cX6_isLocalOptimum 0 = .ok (.iconst 0, 1) := by decide +kernel
theorem dX6_isLocalOptimum_1 : decode cX6_isLocalOptimum 1 = .ok (.istore_n 2, 1) := by decide +kernel
theorem dX6_isLocalOptimum_2 : decode cX6_isLocalOptimum 2 = .ok (.iload_n 2, 1) := by decide +kernel
theorem dX6_isLocalOptimum_3 : decode cX6_isLocalOptimum 3 = .ok (.aload_n 0, 1) := by decide +kernel
theorem dX6_isLocalOptimum_4 : decode cX6_isLocalOptimum 4 = .ok (.getfield 31, 3) := by decide +kernel
theorem dX6_isLocalOptimum_7 : decode cX6_isLocalOptimum 7 = .ok (.if_icmp .ge 55, 3) := by decide +kernel
theorem dX6_isLocalOptimum_10 : decode cX6_isLocalOptimum 10 = .ok (.iload_n 2, 1) := by decide +kernel
theorem dX6_isLocalOptimum_11 : decode cX6_isLocalOptimum 11 = .ok (.iconst 1, 1) := by decide +kernel
theorem dX6_isLocalOptimum_12 : decode cX6_isLocalOptimum 12 = .ok (.iadd, 1) := by decide +kernel
theorem dX6_isLocalOptimum_13 : decode cX6_isLocalOptimum 13 = .ok (.istore_n 3, 1) := by decide +kernel
theorem dX6_isLocalOptimum_14 : decode cX6_isLocalOptimum 14 = .ok (.iload_n 3, 1) := by decide +kernel
theorem dX6_isLocalOptimum_15 : decode cX6_isLocalOptimum 15 = .ok (.aload_n 0, 1) := by decide +kernel
theorem dX6_isLocalOptimum_16 : decode cX6_isLocalOptimum 16 = .ok (.getfield 31, 3) := by decide +kernel
theorem dX6_isLocalOptimum_19 : decode cX6_isLocalOptimum 19 = .ok (.if_icmp .ge 37, 3) := by decide +kernel
theorem dX6_isLocalOptimum_22 : decode cX6_isLocalOptimum 22 = .ok (.aload_n 0, 1) := by decide +kernel
theorem dX6_isLocalOptimum_23 : decode cX6_isLocalOptimum 23 = .ok (.iload_n 2, 1) := by decide +kernel
theorem dX6_isLocalOptimum_24 : decode cX6_isLocalOptimum 24 = .ok (.invokevirtual 69, 3) := by decide +kernel
theorem dX6_isLocalOptimum_27 : decode cX6_isLocalOptimum 27 = .ok (.ifCond .eq 23, 3) := by decide +kernel
theorem dX6_isLocalOptimum_30 : decode cX6_isLocalOptimum 30 = .ok (.aload_n 0, 1) := by decide +kernel
theorem dX6_isLocalOptimum_31 : decode cX6_isLocalOptimum 31 = .ok (.iload_n 3, 1) := by decide +kernel
theorem dX6_isLocalOptimum_32 : decode cX6_isLocalOptimum 32 = .ok (.invokevirtual 69, 3) := by decide +kernel
theorem dX6_isLocalOptimum_35 : decode cX6_isLocalOptimum 35 = .ok (.ifCond .eq 15, 3) := by decide +kernel
theorem dX6_isLocalOptimum_38 : decode cX6_isLocalOptimum 38 = .ok (.aload_n 0, 1) := by decide +kernel
theorem dX6_isLocalOptimum_39 : decode cX6_isLocalOptimum 39 = .ok (.aload_n 1, 1) := by decide +kernel
theorem dX6_isLocalOptimum_40 : decode cX6_isLocalOptimum 40 = .ok (.iload_n 2, 1) := by decide +kernel
theorem dX6_isLocalOptimum_41 : decode cX6_isLocalOptimum 41 = .ok (.iload_n 3, 1) := by decide +kernel
theorem dX6_isLocalOptimum_42 : decode cX6_isLocalOptimum 42 = .ok (.invokevirtual 73, 3) := by decide +kernel
theorem dX6_isLocalOptimum_45 : decode cX6_isLocalOptimum 45 = .ok (.ifCond .le 5, 3) := by decide +kernel
theorem dX6_isLocalOptimum_48 : decode cX6_isLocalOptimum 48 = .ok (.iconst 0, 1) := by decide +kernel
theorem dX6_isLocalOptimum_49 : decode cX6_isLocalOptimum 49 = .ok (.ireturn, 1) := by decide +kernel
theorem dX6_isLocalOptimum_50 : decode cX6_isLocalOptimum 50 = .ok (.iinc 3 1, 3) := by decide +kernel
theorem dX6_isLocalOptimum_53 : decode cX6_isLocalOptimum 53 = .ok (.goto (-39), 3) := by decide +kernel
theorem dX6_isLocalOptimum_56 : decode cX6_isLocalOptimum 56 = .ok (.iinc 2 1, 3) := by decide +kernel
theorem dX6_isLocalOptimum_59 : decode cX6_isLocalOptimum 59 = .ok (.goto (-57), 3) := by decide +kernel
theorem dX6_isLocalOptimum_62 : decode cX6_isLocalOptimum 62 = .ok (.iconst 1, 1) := by decide +kernel
theorem dX6_isLocalOptimum_63 : decode cX6_isLocalOptimum 63 = .ok (.ireturn, 1) := by decide +kernel
theorem dX7_init_0 : decode cX7_init 0 = .ok (.aload_n 0, 1) := by decide +kernel
theorem dX7_init_1 : decode cX7_init 1 = .ok (.invokespecial 3, 3) := by decide +kernel
theorem dX7_init_4 : decode cX7_init 4 = .ok (.aload_n 0, 1) := by decide +kernel
theorem dX7_init_5 : decode cX7_init 5 = .ok (.bipush 6, 2) := by decide +kernel
theorem dX7_init_7 : decode cX7_init 7 = .ok (.newarray .int, 2) := by decide +kernel
theorem dX7_init_9 : decode cX7_init 9 = .ok (.putfield 9, 3) := by decide +kernel
theorem dX7_init_12 : decode cX7_init 12 = .ok (.aload_n 0, 1) := by decide +kernel
theorem dX7_init_13 : decode cX7_init 13 = .ok (.bipush 6, 2) := by decide +kernel
theorem dX7_init_15 : decode cX7_init 15 = .ok (.newarray .int, 2) := by decide +kernel
theorem dX7_init_17 : decode cX7_init 17 = .ok (.putfield 15, 3) := by decide +kernel
theorem dX7_init_20 : decode cX7_init 20 = .ok (.return_, 1) := by decide +kernel
theorem dX7_load_0 : decode cX7_load 0 = .ok (.aload_n 0, 1) := by decide +kernel
theorem dX7_load_1 : decode cX7_load 1 = .ok (.aload_n 1, 1) := by decide +kernel
theorem dX7_load_2 : decode cX7_load 2 = .ok (.getfield 18, 3) := by decide +kernel
theorem dX7_load_5 : decode cX7_load 5 = .ok (.putfield 24, 3) := by decide +kernel
theorem dX7_load_8 : decode cX7_load 8 = .ok (.aload_n 0, 1) := by decide +kernel
theorem dX7_load_9 : decode cX7_load 9 = .ok (.iconst 0, 1) := by decide +kernel
theorem dX7_load_10 : decode cX7_load 10 = .ok (.putfield 25, 3) := by decide +kernel
theorem dX7_load_13 : decode cX7_load 13 = .ok (.aload_n 0, 1) := by decide +kernel
theorem dX7_load_14 : decode cX7_load 14 = .ok (.aload_n 2, 1) := by decide +kernel
theorem dX7_load_15 : decode cX7_load 15 = .ok (.invokestatic 28, 3) := by decide +kernel
theorem dX7_load_18 : decode cX7_load 18 = .ok (.putfield 32, 3) := by decide +kernel
theorem dX7_load_21 : decode cX7_load 21 = .ok (.iconst 0, 1) := by decide +kernel
theorem dX7_load_22 : decode cX7_load 22 = .ok (.istore_n 3, 1) := by decide +kernel
theorem dX7_load_23 : decode cX7_load 23 = .ok (.iload_n 3, 1) := by decide +kernel
theorem dX7_load_24 : decode cX7_load 24 = .ok (.bipush 6, 2) := by decide +kernel
theorem dX7_load_26 : decode cX7_load 26 = .ok (.if_icmp .ge 23, 3) := by decide +kernel
theorem dX7_load_29 : decode cX7_load 29 = .ok (.aload_n 0, 1) := by decide +kernel
theorem dX7_load_30 : decode cX7_load 30 = .ok (.getfield 9, 3) := by decide +kernel
theorem dX7_load_33 : decode cX7_load 33 = .ok (.iload_n 3, 1) := by decide +kernel
theorem dX7_load_34 : decode cX7_load 34 = .ok (.iload_n 3, 1) := by decide +kernel
theorem dX7_load_35 : decode cX7_load 35 = .ok (.iastore, 1) := by decide +kernel
theorem dX7_load_36 : decode cX7_load 36 = .ok (.aload_n 0, 1) := by decide +kernel
theorem dX7_load_37 : decode cX7_load 37 = .ok (.getfield 15, 3) := by decide +kernel
theorem dX7_load_40 : decode cX7_load 40 = .ok (.iload_n 3, 1) := by decide +kernel
theorem dX7_load_41 : decode cX7_load 41 = .ok (.iconst (-1), 1) := by decide +kernel
theorem dX7_load_42 : decode cX7_load 42 = .ok (.iastore, 1) := by decide +kernel
theorem dX7_load_43 : decode cX7_load 43 = .ok (.iinc 3 1, 3) := by decide +kernel
theorem dX7_load_46 : decode cX7_load 46 = .ok (.goto (-23), 3) := by decide +kernel
theorem dX7_load_49 : decode cX7_load 49 = .ok (.iconst 0, 1) := by decide +kernel
theorem dX7_load_50 : decode cX7_load 50 = .ok (.istore_n 3, 1) := by decide +kernel
theorem dX7_load_51 : decode cX7_load 51 = .ok (.iconst 0, 1) := by decide +kernel
theorem dX7_load_52 : decode cX7_load 52 = .ok (.istore 4, 2) := by decide +kernel
theorem dX7_load_54 : decode cX7_load 54 = .ok (.iload 4, 2) := by decide +kernel
theorem dX7_load_56 : decode cX7_load 56 = .ok (.ldc 35, 2) := by decide +kernel
theorem dX7_load_58 : decode cX7_load 58 = .ok (.if_icmp .ge 73, 3) := by decide +kernel
theorem dX7_load_61 : decode cX7_load 61 = .ok (.iload_n 3, 1) := by decide +kernel
theorem dX7_load_62 : decode cX7_load 62 = .ok (.ifCond .lt 69, 3) := by decide +kernel
theorem dX7_load_65 : decode cX7_load 65 = .ok (.aload_n 0, 1) := by decide +kernel
theorem dX7_load_66 : decode cX7_load 66 = .ok (.aload_n 1, 1) := by decide +kernel
theorem dX7_load_67 : decode cX7_load 67 = .ok (.iload_n 3, 1) := by decide +kernel
theorem dX7_load_68 : decode cX7_load 68 = .ok (.aload_n 0, 1) := by decide +kernel
theorem dX7_load_69 : decode cX7_load 69 = .ok (.getfield 15, 3) := by decide +kernel
theorem dX7_load_72 : decode cX7_load 72 = .ok (.iload_n 3, 1) := by decide +kernel
theorem dX7_load_73 : decode cX7_load 73 = .ok (.invokestatic 36, 3) := by decide +kernel
theorem dX7_load_76 : decode cX7_load 76 = .ok (.iconst 1, 1) := by decide +kernel
theorem dX7_load_77 : decode cX7_load 77 = .ok (.iadd, 1) := by decide +kernel
theorem dX7_load_78 : decode cX7_load 78 = .ok (.invokevirtual 40, 3) := by decide +kernel
theorem dX7_load_81 : decode cX7_load 81 = .ok (.istore 5, 2) := by decide +kernel
theorem dX7_load_83 : decode cX7_load 83 = .ok (.aload_n 0, 1) := by decide +kernel
theorem dX7_load_84 : decode cX7_load 84 = .ok (.getfield 15, 3) := by decide +kernel
theorem dX7_load_87 : decode cX7_load 87 = .ok (.iload_n 3, 1) := by decide +kernel
theorem dX7_load_88 : decode cX7_load 88 = .ok (.iload 5, 2) := by decide +kernel
theorem dX7_load_90 : decode cX7_load 90 = .ok (.invokestatic 44, 3) := by decide +kernel
theorem dX7_load_93 : decode cX7_load 93 = .ok (.iload 5, 2) := by decide +kernel
theorem dX7_load_95 : decode cX7_load 95 = .ok (.iconst (-1), 1) := by decide +kernel
theorem dX7_load_96 : decode cX7_load 96 = .ok (.if_icmp .ne 9, 3) := by decide +kernel
theorem dX7_load_99 : decode cX7_load 99 = .ok (.iinc 3 (-1), 3) := by decide +kernel
theorem dX7_load_102 : decode cX7_load 102 = .ok (.goto 23, 3) := by decide +kernel
theorem dX7_load_105 : decode cX7_load 105 = .ok (.iload_n 3, 1) := by decide +kernel
theorem dX7_load_106 : decode cX7_load 106 = .ok (.aload_n 0, 1) := by decide +kernel
theorem dX7_load_107 : decode cX7_load 107 = .ok (.getfield 24, 3) := by decide +kernel
theorem dX7_load_110 : decode cX7_load 110 = .ok (.iconst 1, 1) := by decide +kernel
theorem dX7_load_111 : decode cX7_load 111 = .ok (.isub, 1) := by decide +kernel
theorem dX7_load_112 : decode cX7_load 112 = .ok (.if_icmp .ne 10, 3) := by decide +kernel
theorem dX7_load_115 : decode cX7_load 115 = .ok (.aload_n 0, 1) := by decide +kernel
theorem dX7_load_116 : decode cX7_load 116 = .ok (.invokevirtual 48, 3) := by decide +kernel
theorem dX7_load_119 : decode cX7_load 119 = .ok (.goto 6, 3) := by decide +kernel
theorem dX7_load_122 : decode cX7_load 122 = .ok (.iinc 3 1, 3) := by decide +kernel
theorem dX7_load_125 : decode cX7_load 125 = .ok (.iinc 4 1, 3) := by decide +kernel
theorem dX7_load_128 : decode cX7_load 128 = .ok (.goto (-74), 3) := by decide +kernel
theorem dX7_load_131 : decode cX7_load 131 = .ok (.return_, 1) := by decide +kernel
theorem dX7_nextImage_0 : decode cX7_nextImage 0 = .ok (.iconst 0, 1) := by decide +kernel
theorem dX7_nextImage_1 : decode cX7_nextImage 1 = .ok (.iload_n 3, 1) := by decide +kernel
theorem dX7_nextImage_2 : decode cX7_nextImage 2 = .ok (.invokestatic 51, 3) := by decide +kernel
theorem dX7_nextImage_5 : decode cX7_nextImage 5 = .ok (.istore 4, 2) := by decide +kernel
theorem dX7_nextImage_7 : decode cX7_nextImage 7 = .ok (.iload 4, 2) := by decide +kernel
theorem dX7_nextImage_9 : decode cX7_nextImage 9 = .ok (.aload_n 0, 1) := by decide +kernel
theorem dX7_nextImage_10 : decode cX7_nextImage 10 = .ok (.getfield 24, 3) := by decide +kernel
theorem dX7_nextImage_13 : decode cX7_nextImage 13 = .ok (.if_icmp .ge 23, 3) := by decide +kernel
theorem dX7_nextImage_16 : decode cX7_nextImage 16 = .ok (.aload_n 0, 1) := by decide +kernel
theorem dX7_nextImage_17 : decode cX7_nextImage 17 = .ok (.aload_n 1, 1) := by decide +kernel
theorem dX7_nextImage_18 : decode cX7_nextImage 18 = .ok (.iload_n 2, 1) := by decide +kernel
theorem dX7_nextImage_19 : decode cX7_nextImage 19 = .ok (.iload 4, 2) := by decide +kernel
theorem dX7_nextImage_21 : decode cX7_nextImage 21 = .ok (.invokevirtual 57, 3) := by decide +kernel
theorem dX7_nextImage_24 : decode cX7_nextImage 24 = .ok (.ifCond .eq 6, 3) := by decide +kernel
theorem dX7_nextImage_27 : decode cX7_nextImage 27 = .ok (.iload 4, 2) := by decide +kernel
theorem dX7_nextImage_29 : decode cX7_nextImage 29 = .ok (.ireturn, 1) := by decide +kernel
theorem dX7_nextImage_30 : decode cX7_nextImage 30 = .ok (.iinc 4 1, 3) := by decide +kernel
theorem dX7_nextImage_33 : decode cX7_nextImage 33 = .ok (.goto (-26), 3) := by decide +kernel
theorem dX7_nextImage_36 : decode cX7_nextImage 36 = .ok (.iconst (-1), 1) := by decide +kernel
theorem dX7_nextImage_37 : decode cX7_nextImage 37 = .ok (.ireturn, 1) := by decide +kernel
theorem dX7_suits_0 : decode cX7_suits 0 = .ok (.iload_n 2, 1) := by decide +kernel
theorem dX7_suits_1 : decode cX7_suits 1 = .ok (.iload_n 3, 1) := by decide +kernel
theorem dX7_suits_2 : decode cX7_suits 2 = .ok (.if_icmp .eq 27, 3) := by decide +kernel
theorem dX7_suits_5 : decode cX7_suits 5 = .ok (.aload_n 0, 1) := by decide +kernel
theorem dX7_suits_6 : decode cX7_suits 6 = .ok (.getfield 32, 3) := by decide +kernel
theorem dX7_suits_9 : decode cX7_suits 9 = .ok (.iload_n 2, 1) := by decide +kernel
theorem dX7_suits_10 : decode cX7_suits 10 = .ok (.invokestatic 61, 3) := by decide +kernel
theorem dX7_suits_13 : decode cX7_suits 13 = .ok (.ifCond .ne 14, 3) := by decide +kernel
theorem dX7_suits_16 : decode cX7_suits 16 = .ok (.aload_n 0, 1) := by decide +kernel
theorem dX7_suits_17 : decode cX7_suits 17 = .ok (.getfield 32, 3) := by decide +kernel
theorem dX7_suits_20 : decode cX7_suits 20 = .ok (.iload_n 3, 1) := by decide +kernel
theorem dX7_suits_21 : decode cX7_suits 21 = .ok (.invokestatic 61, 3) := by decide +kernel
theorem dX7_suits_24 : decode cX7_suits 24 = .ok (.ifCond .eq 5, 3) := by decide +kernel
theorem dX7_suits_27 : decode cX7_suits 27 = .ok (.iconst 0, 1) := by decide +kernel
theorem dX7_suits_28 : decode cX7_suits 28 = .ok (.ireturn, 1) := by decide +kernel
theorem dX7_suits_29 : decode cX7_suits 29 = .ok (.iconst 0, 1) := by decide +kernel
theorem dX7_suits_30 : decode cX7_suits 30 = .ok (.istore 4, 2) := by decide +kernel
theorem dX7_suits_32 : decode cX7_suits 32 = .ok (.iload 4, 2) := by decide +kernel
theorem dX7_suits_34 : decode cX7_suits 34 = .ok (.aload_n 0, 1) := by decide +kernel
theorem dX7_suits_35 : decode cX7_suits 35 = .ok (.getfield 24, 3) := by decide +kernel
theorem dX7_suits_38 : decode cX7_suits 38 = .ok (.if_icmp .ge 34, 3) := by decide +kernel
theorem dX7_suits_41 : decode cX7_suits 41 = .ok (.aload_n 1, 1) := by decide +kernel
theorem dX7_suits_42 : decode cX7_suits 42 = .ok (.getfield 65, 3) := by decide +kernel
theorem dX7_suits_45 : decode cX7_suits 45 = .ok (.iload 4, 2) := by decide +kernel
theorem dX7_suits_47 : decode cX7_suits 47 = .ok (.iload_n 2, 1) := by decide +kernel
theorem dX7_suits_48 : decode cX7_suits 48 = .ok (.invokestatic 68, 3) := by decide +kernel
theorem dX7_suits_51 : decode cX7_suits 51 = .ok (.aload_n 1, 1) := by decide +kernel
theorem dX7_suits_52 : decode cX7_suits 52 = .ok (.getfield 65, 3) := by decide +kernel
theorem dX7_suits_55 : decode cX7_suits 55 = .ok (.iload 4, 2) := by decide +kernel
theorem dX7_suits_57 : decode cX7_suits 57 = .ok (.iload_n 3, 1) := by decide +kernel
theorem dX7_suits_58 : decode cX7_suits 58 = .ok (.invokestatic 68, 3) := by decide +kernel
theorem dX7_suits_61 : decode cX7_suits 61 = .ok (.if_icmp .eq 5, 3) := by decide +kernel
theorem dX7_suits_64 : decode cX7_suits 64 = .ok (.iconst 0, 1) := by decide +kernel
theorem dX7_suits_65 : decode cX7_suits 65 = .ok (.ireturn, 1) := by decide +kernel
theorem dX7_suits_66 : decode cX7_suits 66 = .ok (.iinc 4 1, 3) := by decide +kernel
theorem dX7_suits_69 : decode cX7_suits 69 = .ok (.goto (-37), 3) := by decide +kernel
theorem dX7_suits_72 : decode cX7_suits 72 = .ok (.aload_n 1, 1) := by decide +kernel
theorem dX7_suits_73 : decode cX7_suits 73 = .ok (.getfield 72, 3) := by decide +kernel
theorem dX7_suits_76 : decode cX7_suits 76 = .ok (.astore 4, 2) := by decide +kernel
theorem dX7_suits_78 : decode cX7_suits 78 = .ok (.iconst 0, 1) := by decide +kernel
theorem dX7_suits_79 : decode cX7_suits 79 = .ok (.istore 5, 2) := by decide +kernel
theorem dX7_suits_81 : decode cX7_suits 81 = .ok (.iload 5, 2) := by decide +kernel
theorem dX7_suits_83 : decode cX7_suits 83 = .ok (.iload_n 2, 1) := by decide +kernel
theorem dX7_suits_84 : decode cX7_suits 84 = .ok (.if_icmp .ge 66, 3) := by decide +kernel
theorem dX7_suits_87 : decode cX7_suits 87 = .ok (.aload_n 0, 1) := by decide +kernel
theorem dX7_suits_88 : decode cX7_suits 88 = .ok (.getfield 15, 3) := by decide +kernel
theorem dX7_suits_91 : decode cX7_suits 91 = .ok (.iload 5, 2) := by decide +kernel
theorem dX7_suits_93 : decode cX7_suits 93 = .ok (.invokestatic 36, 3) := by decide +kernel
theorem dX7_suits_96 : decode cX7_suits 96 = .ok (.istore 6, 2) := by decide +kernel
theorem dX7_suits_98 : decode cX7_suits 98 = .ok (.iload 6, 2) := by decide +kernel
theorem dX7_suits_100 : decode cX7_suits 100 = .ok (.iload_n 3, 1) := by decide +kernel
theorem dX7_suits_101 : decode cX7_suits 101 = .ok (.if_icmp .eq 41, 3) := by decide +kernel
theorem dX7_suits_104 : decode cX7_suits 104 = .ok (.aload 4, 2) := by decide +kernel
theorem dX7_suits_106 : decode cX7_suits 106 = .ok (.iload_n 2, 1) := by decide +kernel
theorem dX7_suits_107 : decode cX7_suits 107 = .ok (.iload 5, 2) := by decide +kernel
theorem dX7_suits_109 : decode cX7_suits 109 = .ok (.invokestatic 68, 3) := by decide +kernel
theorem dX7_suits_112 : decode cX7_suits 112 = .ok (.aload 4, 2) := by decide +kernel
theorem dX7_suits_114 : decode cX7_suits 114 = .ok (.iload_n 3, 1) := by decide +kernel
theorem dX7_suits_115 : decode cX7_suits 115 = .ok (.iload 6, 2) := by decide +kernel
theorem dX7_suits_117 : decode cX7_suits 117 = .ok (.invokestatic 68, 3) := by decide +kernel
theorem dX7_suits_120 : decode cX7_suits 120 = .ok (.if_icmp .ne 22, 3) := by decide +kernel
theorem dX7_suits_123 : decode cX7_suits 123 = .ok (.aload 4, 2) := by decide +kernel
theorem dX7_suits_125 : decode cX7_suits 125 = .ok (.iload 5, 2) := by decide +kernel
theorem dX7_suits_127 : decode cX7_suits 127 = .ok (.iload_n 2, 1) := by decide +kernel
theorem dX7_suits_128 : decode cX7_suits 128 = .ok (.invokestatic 68, 3) := by decide +kernel
theorem dX7_suits_131 : decode cX7_suits 131 = .ok (.aload 4, 2) := by decide +kernel
theorem dX7_suits_133 : decode cX7_suits 133 = .ok (.iload 6, 2) := by decide +kernel
theorem dX7_suits_135 : decode cX7_suits 135 = .ok (.iload_n 3, 1) := by decide +kernel
theorem dX7_suits_136 : decode cX7_suits 136 = .ok (.invokestatic 68, 3) := by decide +kernel
theorem dX7_suits_139 : decode cX7_suits 139 = .ok (.if_icmp .eq 5, 3) := by decide +kernel
theorem dX7_suits_142 : decode cX7_suits 142 = .ok (.iconst 0, 1) := by decide +kernel
theorem dX7_suits_143 : decode cX7_suits 143 = .ok (.ireturn, 1) := by decide +kernel
theorem dX7_suits_144 : decode cX7_suits 144 = .ok (.iinc 5 1, 3) := by decide +kernel
theorem dX7_suits_147 : decode cX7_suits 147 = .ok (.goto (-66), 3) := by decide +kernel
theorem dX7_suits_150 : decode cX7_suits 150 = .ok (.aload 4, 2) := by decide +kernel
theorem dX7_suits_152 : decode cX7_suits 152 = .ok (.iload_n 2, 1) := by decide +kernel
theorem dX7_suits_153 : decode cX7_suits 153 = .ok (.iload_n 2, 1) := by decide +kernel
theorem dX7_suits_154 : decode cX7_suits 154 = .ok (.invokestatic 68, 3) := by decide +kernel
theorem dX7_suits_157 : decode cX7_suits 157 = .ok (.aload 4, 2) := by decide +kernel
theorem dX7_suits_159 : decode cX7_suits 159 = .ok (.iload_n 3, 1) := by decide +kernel
theorem dX7_suits_160 : decode cX7_suits 160 = .ok (.iload_n 3, 1) := by decide +kernel
theorem dX7_suits_161 : decode cX7_suits 161 = .ok (.invokestatic 68, 3) := by decide +kernel
theorem dX7_suits_164 : decode cX7_suits 164 = .ok (.if_icmp .ne 7, 3) := by decide +kernel
theorem dX7_suits_167 : decode cX7_suits 167 = .ok (.iconst 1, 1) := by decide +kernel
theorem dX7_suits_168 : decode cX7_suits 168 = .ok (.goto 4, 3) := by decide +kernel
theorem dX7_suits_171 : decode cX7_suits 171 = .ok (.iconst 0, 1) := by decide +kernel
theorem dX7_suits_172 : decode cX7_suits 172 = .ok (.ireturn, 1) := by decide +kernel
theorem dX7_note_0 : decode cX7_note 0 = .ok (.aload_n 0, 1) := by decide +kernel
theorem dX7_note_1 : decode cX7_note 1 = .ok (.dup, 1) := by decide +kernel
theorem dX7_note_2 : decode cX7_note 2 = .ok (.getfield 25, 3) := by decide +kernel
theorem dX7_note_5 : decode cX7_note 5 = .ok (.iconst 1, 1) := by decide +kernel
theorem dX7_note_6 : decode cX7_note 6 = .ok (.iadd, 1) := by decide +kernel
theorem dX7_note_7 : decode cX7_note 7 = .ok (.putfield 25, 3) := by decide +kernel
theorem dX7_note_10 : decode cX7_note 10 = .ok (.iconst 0, 1) := by decide +kernel
theorem dX7_note_11 : decode cX7_note 11 = .ok (.istore_n 1, 1) := by decide +kernel
theorem dX7_note_12 : decode cX7_note 12 = .ok (.iload_n 1, 1) := by decide +kernel
theorem dX7_note_13 : decode cX7_note 13 = .ok (.aload_n 0, 1) := by decide +kernel
theorem dX7_note_14 : decode cX7_note 14 = .ok (.getfield 24, 3) := by decide +kernel
theorem dX7_note_17 : decode cX7_note 17 = .ok (.if_icmp .ge 36, 3) := by decide +kernel
theorem dX7_note_20 : decode cX7_note 20 = .ok (.aload_n 0, 1) := by decide +kernel
theorem dX7_note_21 : decode cX7_note 21 = .ok (.getfield 9, 3) := by decide +kernel
theorem dX7_note_24 : decode cX7_note 24 = .ok (.iload_n 1, 1) := by decide +kernel
theorem dX7_note_25 : decode cX7_note 25 = .ok (.aload_n 0, 1) := by decide +kernel
theorem dX7_note_26 : decode cX7_note 26 = .ok (.getfield 9, 3) := by decide +kernel
theorem dX7_note_29 : decode cX7_note 29 = .ok (.iload_n 1, 1) := by decide +kernel
theorem dX7_note_30 : decode cX7_note 30 = .ok (.invokestatic 36, 3) := by decide +kernel
theorem dX7_note_33 : decode cX7_note 33 = .ok (.aload_n 0, 1) := by decide +kernel
theorem dX7_note_34 : decode cX7_note 34 = .ok (.getfield 15, 3) := by decide +kernel
theorem dX7_note_37 : decode cX7_note 37 = .ok (.iload_n 1, 1) := by decide +kernel
theorem dX7_note_38 : decode cX7_note 38 = .ok (.invokestatic 36, 3) := by decide +kernel
theorem dX7_note_41 : decode cX7_note 41 = .ok (.invokestatic 75, 3) := by decide +kernel
theorem dX7_note_44 : decode cX7_note 44 = .ok (.invokestatic 44, 3) := by decide +kernel
theorem dX7_note_47 : decode cX7_note 47 = .ok (.iinc 1 1, 3) := by decide +kernel
theorem dX7_note_50 : decode cX7_note 50 = .ok (.goto (-38), 3) := by decide +kernel
theorem dX7_note_53 : decode cX7_note 53 = .ok (.return_, 1) := by decide +kernel
theorem dX8_init_0 : decode cX8_init 0 = .ok (.aload_n 0, 1) := by decide +kernel
theorem dX8_init_1 : decode cX8_init 1 = .ok (.invokespecial 3, 3) := by decide +kernel
theorem dX8_init_4 : decode cX8_init 4 = .ok (.aload_n 0, 1) := by decide +kernel
theorem dX8_init_5 : decode cX8_init 5 = .ok (.new 9, 3) := by decide +kernel
theorem dX8_init_8 : decode cX8_init 8 = .ok (.dup, 1) := by decide +kernel
theorem dX8_init_9 : decode cX8_init 9 = .ok (.invokespecial 11, 3) := by decide +kernel
theorem dX8_init_12 : decode cX8_init 12 = .ok (.putfield 12, 3) := by decide +kernel
theorem dX8_init_15 : decode cX8_init 15 = .ok (.aload_n 0, 1) := by decide +kernel
theorem dX8_init_16 : decode cX8_init 16 = .ok (.new 16, 3) := by decide +kernel
theorem dX8_init_19 : decode cX8_init 19 = .ok (.dup, 1) := by decide +kernel
theorem dX8_init_20 : decode cX8_init 20 = .ok (.invokespecial 18, 3) := by decide +kernel
theorem dX8_init_23 : decode cX8_init 23 = .ok (.putfield 19, 3) := by decide +kernel
theorem dX8_init_26 : decode cX8_init 26 = .ok (.aload_n 0, 1) := by decide +kernel
theorem dX8_init_27 : decode cX8_init 27 = .ok (.new 23, 3) := by decide +kernel
theorem dX8_init_30 : decode cX8_init 30 = .ok (.dup, 1) := by decide +kernel
theorem dX8_init_31 : decode cX8_init 31 = .ok (.invokespecial 25, 3) := by decide +kernel
theorem dX8_init_34 : decode cX8_init 34 = .ok (.putfield 26, 3) := by decide +kernel
theorem dX8_init_37 : decode cX8_init 37 = .ok (.aload_n 0, 1) := by decide +kernel
theorem dX8_init_38 : decode cX8_init 38 = .ok (.new 30, 3) := by decide +kernel
theorem dX8_init_41 : decode cX8_init 41 = .ok (.dup, 1) := by decide +kernel
theorem dX8_init_42 : decode cX8_init 42 = .ok (.invokespecial 32, 3) := by decide +kernel
theorem dX8_init_45 : decode cX8_init 45 = .ok (.putfield 33, 3) := by decide +kernel
theorem dX8_init_48 : decode cX8_init 48 = .ok (.aload_n 0, 1) := by decide +kernel
theorem dX8_init_49 : decode cX8_init 49 = .ok (.new 37, 3) := by decide +kernel
theorem dX8_init_52 : decode cX8_init 52 = .ok (.dup, 1) := by decide +kernel
theorem dX8_init_53 : decode cX8_init 53 = .ok (.invokespecial 39, 3) := by decide +kernel
theorem dX8_init_56 : decode cX8_init 56 = .ok (.putfield 40, 3) := by decide +kernel
theorem dX8_init_59 : decode cX8_init 59 = .ok (.aload_n 0, 1) := by decide +kernel
theorem dX8_init_60 : decode cX8_init 60 = .ok (.new 44, 3) := by decide +kernel
theorem dX8_init_63 : decode cX8_init 63 = .ok (.dup, 1) := by decide +kernel
theorem dX8_init_64 : decode cX8_init 64 = .ok (.invokespecial 46, 3) := by decide +kernel
theorem dX8_init_67 : decode cX8_init 67 = .ok (.putfield 47, 3) := by decide +kernel
theorem dX8_init_70 : decode cX8_init 70 = .ok (.aload_n 0, 1) := by decide +kernel
theorem dX8_init_71 : decode cX8_init 71 = .ok (.new 51, 3) := by decide +kernel
theorem dX8_init_74 : decode cX8_init 74 = .ok (.dup, 1) := by decide +kernel
theorem dX8_init_75 : decode cX8_init 75 = .ok (.invokespecial 53, 3) := by decide +kernel
theorem dX8_init_78 : decode cX8_init 78 = .ok (.putfield 54, 3) := by decide +kernel
theorem dX8_init_81 : decode cX8_init 81 = .ok (.aload_n 0, 1) := by decide +kernel
theorem dX8_init_82 : decode cX8_init 82 = .ok (.bipush 6, 2) := by decide +kernel
theorem dX8_init_84 : decode cX8_init 84 = .ok (.newarray .int, 2) := by decide +kernel
theorem dX8_init_86 : decode cX8_init 86 = .ok (.putfield 58, 3) := by decide +kernel
theorem dX8_init_89 : decode cX8_init 89 = .ok (.return_, 1) := by decide +kernel
theorem dX8_resize_0 : decode cX8_resize 0 = .ok (.iload_n 1, 1) := by decide +kernel
theorem dX8_resize_1 : decode cX8_resize 1 = .ok (.iconst 1, 1) := by decide +kernel
theorem dX8_resize_2 : decode cX8_resize 2 = .ok (.if_icmp .lt 9, 3) := by decide +kernel
theorem dX8_resize_5 : decode cX8_resize 5 = .ok (.iload_n 1, 1) := by decide +kernel
theorem dX8_resize_6 : decode cX8_resize 6 = .ok (.bipush 6, 2) := by decide +kernel
theorem dX8_resize_8 : decode cX8_resize 8 = .ok (.if_icmp .le 13, 3) := by decide +kernel
theorem dX8_resize_11 : decode cX8_resize 11 = .ok (.new 62, 3) := by decide +kernel
theorem dX8_resize_14 : decode cX8_resize 14 = .ok (.dup, 1) := by decide +kernel
theorem dX8_resize_15 : decode cX8_resize 15 = .ok (.ldc 64, 2) := by decide +kernel
theorem dX8_resize_17 : decode cX8_resize 17 = .ok (.invokespecial 66, 3) := by decide +kernel
theorem dX8_resize_20 : decode cX8_resize 20 = .ok (.athrow, 1) := by decide +kernel
theorem dX8_resize_21 : decode cX8_resize 21 = .ok (.aload_n 0, 1) := by decide +kernel
theorem dX8_resize_22 : decode cX8_resize 22 = .ok (.getfield 12, 3) := by decide +kernel
theorem dX8_resize_25 : decode cX8_resize 25 = .ok (.getfield 69, 3) := by decide +kernel
theorem dX8_resize_28 : decode cX8_resize 28 = .ok (.istore_n 2, 1) := by decide +kernel
theorem dX8_resize_29 : decode cX8_resize 29 = .ok (.aload_n 0, 1) := by decide +kernel
theorem dX8_resize_30 : decode cX8_resize 30 = .ok (.getfield 19, 3) := by decide +kernel
theorem dX8_resize_33 : decode cX8_resize 33 = .ok (.aload_n 0, 1) := by decide +kernel
theorem dX8_resize_34 : decode cX8_resize 34 = .ok (.getfield 12, 3) := by decide +kernel
theorem dX8_resize_37 : decode cX8_resize 37 = .ok (.invokevirtual 73, 3) := by decide +kernel
theorem dX8_resize_40 : decode cX8_resize 40 = .ok (.aload_n 0, 1) := by decide +kernel
theorem dX8_resize_41 : decode cX8_resize 41 = .ok (.getfield 12, 3) := by decide +kernel
theorem dX8_resize_44 : decode cX8_resize 44 = .ok (.iload_n 1, 1) := by decide +kernel
theorem dX8_resize_45 : decode cX8_resize 45 = .ok (.invokevirtual 77, 3) := by decide +kernel
theorem dX8_resize_48 : decode cX8_resize 48 = .ok (.iload_n 2, 1) := by decide +kernel
theorem dX8_resize_49 : decode cX8_resize 49 = .ok (.ireturn, 1) := by decide +kernel
theorem dX8_size_0 : decode cX8_size 0 = .ok (.aload_n 0, 1) := by decide +kernel
theorem dX8_size_1 : decode cX8_size 1 = .ok (.getfield 12, 3) := by decide +kernel
theorem dX8_size_4 : decode cX8_size 4 = .ok (.getfield 69, 3) := by decide +kernel
theorem dX8_size_7 : decode cX8_size 7 = .ok (.ireturn, 1) := by decide +kernel
theorem dX8_set_0 : decode cX8_set 0 = .ok (.aload_n 0, 1) := by decide +kernel
theorem dX8_set_1 : decode cX8_set 1 = .ok (.iload_n 2, 1) := by decide +kernel
theorem dX8_set_2 : decode cX8_set 2 = .ok (.invokevirtual 81, 3) := by decide +kernel
theorem dX8_set_5 : decode cX8_set 5 = .ok (.aload_n 0, 1) := by decide +kernel
theorem dX8_set_6 : decode cX8_set 6 = .ok (.iload_n 3, 1) := by decide +kernel
theorem dX8_set_7 : decode cX8_set 7 = .ok (.invokevirtual 81, 3) := by decide +kernel
theorem dX8_set_10 : decode cX8_set 10 = .ok (.iload_n 1, 1) := by decide +kernel
theorem dX8_set_11 : decode cX8_set 11 = .ok (.invokestatic 84, 3) := by decide +kernel
theorem dX8_set_14 : decode cX8_set 14 = .ok (.iload 4, 2) := by decide +kernel
theorem dX8_set_16 : decode cX8_set 16 = .ok (.invokestatic 87, 3) := by decide +kernel
theorem dX8_set_19 : decode cX8_set 19 = .ok (.aload_n 0, 1) := by decide +kernel
theorem dX8_set_20 : decode cX8_set 20 = .ok (.getfield 12, 3) := by decide +kernel
theorem dX8_set_23 : decode cX8_set 23 = .ok (.iload_n 1, 1) := by decide +kernel
theorem dX8_set_24 : decode cX8_set 24 = .ok (.invokevirtual 90, 3) := by decide +kernel
theorem dX8_set_27 : decode cX8_set 27 = .ok (.iload_n 2, 1) := by decide +kernel
theorem dX8_set_28 : decode cX8_set 28 = .ok (.iload_n 3, 1) := by decide +kernel
theorem dX8_set_29 : decode cX8_set 29 = .ok (.invokestatic 94, 3) := by decide +kernel
theorem dX8_set_32 : decode cX8_set 32 = .ok (.istore 5, 2) := by decide +kernel
theorem dX8_set_34 : decode cX8_set 34 = .ok (.aload_n 0, 1) := by decide +kernel
theorem dX8_set_35 : decode cX8_set 35 = .ok (.getfield 19, 3) := by decide +kernel
theorem dX8_set_38 : decode cX8_set 38 = .ok (.aload_n 0, 1) := by decide +kernel
theorem dX8_set_39 : decode cX8_set 39 = .ok (.getfield 12, 3) := by decide +kernel
theorem dX8_set_42 : decode cX8_set 42 = .ok (.invokevirtual 73, 3) := by decide +kernel
theorem dX8_set_45 : decode cX8_set 45 = .ok (.aload_n 0, 1) := by decide +kernel
theorem dX8_set_46 : decode cX8_set 46 = .ok (.getfield 12, 3) := by decide +kernel
theorem dX8_set_49 : decode cX8_set 49 = .ok (.iload_n 1, 1) := by decide +kernel
theorem dX8_set_50 : decode cX8_set 50 = .ok (.invokevirtual 90, 3) := by decide +kernel
theorem dX8_set_53 : decode cX8_set 53 = .ok (.iload_n 2, 1) := by decide +kernel
theorem dX8_set_54 : decode cX8_set 54 = .ok (.iload_n 3, 1) := by decide +kernel
theorem dX8_set_55 : decode cX8_set 55 = .ok (.iload 4, 2) := by decide +kernel
theorem dX8_set_57 : decode cX8_set 57 = .ok (.invokestatic 98, 3) := by decide +kernel
theorem dX8_set_60 : decode cX8_set 60 = .ok (.iload 5, 2) := by decide +kernel
theorem dX8_set_62 : decode cX8_set 62 = .ok (.ireturn, 1) := by decide +kernel
theorem dX8_get_0 : decode cX8_get 0 = .ok (.aload_n 0, 1) := by decide +kernel
theorem dX8_get_1 : decode cX8_get 1 = .ok (.iload_n 2, 1) := by decide +kernel
theorem dX8_get_2 : decode cX8_get 2 = .ok (.invokevirtual 81, 3) := by decide +kernel
theorem dX8_get_5 : decode cX8_get 5 = .ok (.aload_n 0, 1) := by decide +kernel
theorem dX8_get_6 : decode cX8_get 6 = .ok (.iload_n 3, 1) := by decide +kernel
theorem dX8_get_7 : decode cX8_get 7 = .ok (.invokevirtual 81, 3) := by decide +kernel
theorem dX8_get_10 : decode cX8_get 10 = .ok (.iload_n 1, 1) := by decide +kernel
theorem dX8_get_11 : decode cX8_get 11 = .ok (.invokestatic 84, 3) := by decide +kernel
theorem dX8_get_14 : decode cX8_get 14 = .ok (.aload_n 0, 1) := by decide +kernel
theorem dX8_get_15 : decode cX8_get 15 = .ok (.getfield 12, 3) := by decide +kernel
theorem dX8_get_18 : decode cX8_get 18 = .ok (.iload_n 1, 1) := by decide +kernel
theorem dX8_get_19 : decode cX8_get 19 = .ok (.invokevirtual 90, 3) := by decide +kernel
theorem dX8_get_22 : decode cX8_get 22 = .ok (.iload_n 2, 1) := by decide +kernel
theorem dX8_get_23 : decode cX8_get 23 = .ok (.iload_n 3, 1) := by decide +kernel
theorem dX8_get_24 : decode cX8_get 24 = .ok (.invokestatic 94, 3) := by decide +kernel
theorem dX8_get_27 : decode cX8_get 27 = .ok (.ireturn, 1) := by decide +kernel
theorem dX8_fill_0 : decode cX8_fill 0 = .ok (.iload_n 1, 1) := by decide +kernel
theorem dX8_fill_1 : decode cX8_fill 1 = .ok (.invokestatic 84, 3) := by decide +kernel
theorem dX8_fill_4 : decode cX8_fill 4 = .ok (.iload_n 3, 1) := by decide +kernel
theorem dX8_fill_5 : decode cX8_fill 5 = .ok (.invokestatic 87, 3) := by decide +kernel
theorem dX8_fill_8 : decode cX8_fill 8 = .ok (.iload_n 2, 1) := by decide +kernel
theorem dX8_fill_9 : decode cX8_fill 9 = .ok (.ifCond .ge 13, 3) := by decide +kernel
theorem dX8_fill_12 : decode cX8_fill 12 = .ok (.new 62, 3) := by decide +kernel
theorem dX8_fill_15 : decode cX8_fill 15 = .ok (.dup, 1) := by decide +kernel
theorem dX8_fill_16 : decode cX8_fill 16 = .ok (.ldc 102, 2) := by decide +kernel
theorem dX8_fill_18 : decode cX8_fill 18 = .ok (.invokespecial 66, 3) := by decide +kernel
theorem dX8_fill_21 : decode cX8_fill 21 = .ok (.athrow, 1) := by decide +kernel
theorem dX8_fill_22 : decode cX8_fill 22 = .ok (.aload_n 0, 1) := by decide +kernel
theorem dX8_fill_23 : decode cX8_fill 23 = .ok (.getfield 19, 3) := by decide +kernel
theorem dX8_fill_26 : decode cX8_fill 26 = .ok (.aload_n 0, 1) := by decide +kernel
theorem dX8_fill_27 : decode cX8_fill 27 = .ok (.getfield 12, 3) := by decide +kernel
theorem dX8_fill_30 : decode cX8_fill 30 = .ok (.invokevirtual 73, 3) := by decide +kernel
theorem dX8_fill_33 : decode cX8_fill 33 = .ok (.aload_n 0, 1) := by decide +kernel
theorem dX8_fill_34 : decode cX8_fill 34 = .ok (.getfield 12, 3) := by decide +kernel
theorem dX8_fill_37 : decode cX8_fill 37 = .ok (.iload_n 1, 1) := by decide +kernel
theorem dX8_fill_38 : decode cX8_fill 38 = .ok (.invokevirtual 90, 3) := by decide +kernel
theorem dX8_fill_41 : decode cX8_fill 41 = .ok (.astore 5, 2) := by decide +kernel
theorem dX8_fill_43 : decode cX8_fill 43 = .ok (.aload_n 0, 1) := by decide +kernel
theorem dX8_fill_44 : decode cX8_fill 44 = .ok (.getfield 12, 3) := by decide +kernel
theorem dX8_fill_47 : decode cX8_fill 47 = .ok (.aload 5, 2) := by decide +kernel
theorem dX8_fill_49 : decode cX8_fill 49 = .ok (.iload_n 2, 1) := by decide +kernel
theorem dX8_fill_50 : decode cX8_fill 50 = .ok (.iload_n 3, 1) := by decide +kernel
theorem dX8_fill_51 : decode cX8_fill 51 = .ok (.invokevirtual 104, 3) := by decide +kernel
theorem dX8_fill_54 : decode cX8_fill 54 = .ok (.iload 4, 2) := by decide +kernel
theorem dX8_fill_56 : decode cX8_fill 56 = .ok (.ifCond .eq 12, 3) := by decide +kernel
theorem dX8_fill_59 : decode cX8_fill 59 = .ok (.aload_n 0, 1) := by decide +kernel
theorem dX8_fill_60 : decode cX8_fill 60 = .ok (.getfield 12, 3) := by decide +kernel
theorem dX8_fill_63 : decode cX8_fill 63 = .ok (.aload 5, 2) := by decide +kernel
theorem dX8_fill_65 : decode cX8_fill 65 = .ok (.invokevirtual 108, 3) := by decide +kernel
theorem dX8_fill_68 : decode cX8_fill 68 = .ok (.aload_n 0, 1) := by decide +kernel
theorem dX8_fill_69 : decode cX8_fill 69 = .ok (.getfield 12, 3) := by decide +kernel
theorem dX8_fill_72 : decode cX8_fill 72 = .ok (.aload 5, 2) := by decide +kernel
theorem dX8_fill_74 : decode cX8_fill 74 = .ok (.invokevirtual 112, 3) := by decide +kernel
theorem dX8_fill_77 : decode cX8_fill 77 = .ok (.ireturn, 1) := by decide +kernel
theorem dX8_location_0 : decode cX8_location 0 = .ok (.aload_n 0, 1) := by decide +kernel
theorem dX8_location_1 : decode cX8_location 1 = .ok (.iload_n 1, 1) := by decide +kernel
theorem dX8_location_2 : decode cX8_location 2 = .ok (.invokevirtual 81, 3) := by decide +kernel
theorem dX8_location_5 : decode cX8_location 5 = .ok (.aload_n 0, 1) := by decide +kernel
theorem dX8_location_6 : decode cX8_location 6 = .ok (.getfield 12, 3) := by decide +kernel
theorem dX8_location_9 : decode cX8_location 9 = .ok (.getfield 116, 3) := by decide +kernel
theorem dX8_location_12 : decode cX8_location 12 = .ok (.iload_n 1, 1) := by decide +kernel
theorem dX8_location_13 : decode cX8_location 13 = .ok (.invokestatic 119, 3) := by decide +kernel
theorem dX8_location_16 : decode cX8_location 16 = .ok (.ireturn, 1) := by decide +kernel
theorem dX8_cost_0 : decode cX8_cost 0 = .ok (.aload_n 0, 1) := by decide +kernel
theorem dX8_cost_1 : decode cX8_cost 1 = .ok (.getfield 12, 3) := by decide +kernel
theorem dX8_cost_4 : decode cX8_cost 4 = .ok (.aload_n 0, 1) := by decide +kernel
theorem dX8_cost_5 : decode cX8_cost 5 = .ok (.getfield 12, 3) := by decide +kernel
theorem dX8_cost_8 : decode cX8_cost 8 = .ok (.getfield 116, 3) := by decide +kernel
theorem dX8_cost_11 : decode cX8_cost 11 = .ok (.invokevirtual 123, 3) := by decide +kernel
theorem dX8_cost_14 : decode cX8_cost 14 = .ok (.ireturn, 1) := by decide +kernel
theorem dX8_choose_0 : decode cX8_choose 0 = .ok (.iload_n 1, 1) := by decide +kernel
theorem dX8_choose_1 : decode cX8_choose 1 = .ok (.ifCond .lt 17, 3) := by decide +kernel
theorem dX8_choose_4 : decode cX8_choose 4 = .ok (.iload_n 1, 1) := by decide +kernel
theorem dX8_choose_5 : decode cX8_choose 5 = .ok (.aload_n 0, 1) := by decide +kernel
theorem dX8_choose_6 : decode cX8_choose 6 = .ok (.getfield 12, 3) := by decide +kernel
theorem dX8_choose_9 : decode cX8_choose 9 = .ok (.getfield 69, 3) := by decide +kernel
theorem dX8_choose_12 : decode cX8_choose 12 = .ok (.invokestatic 126, 3) := by decide +kernel
theorem dX8_choose_15 : decode cX8_choose 15 = .ok (.if_icmp .lt 13, 3) := by decide +kernel
theorem dX8_choose_18 : decode cX8_choose 18 = .ok (.new 130, 3) := by decide +kernel
theorem dX8_choose_21 : decode cX8_choose 21 = .ok (.dup, 1) := by decide +kernel
theorem dX8_choose_22 : decode cX8_choose 22 = .ok (.ldc 132, 2) := by decide +kernel
theorem dX8_choose_24 : decode cX8_choose 24 = .ok (.invokespecial 134, 3) := by decide +kernel
theorem dX8_choose_27 : decode cX8_choose 27 = .ok (.athrow, 1) := by decide +kernel
theorem dX8_choose_28 : decode cX8_choose 28 = .ok (.aload_n 0, 1) := by decide +kernel
theorem dX8_choose_29 : decode cX8_choose 29 = .ok (.getfield 19, 3) := by decide +kernel
theorem dX8_choose_32 : decode cX8_choose 32 = .ok (.aload_n 0, 1) := by decide +kernel
theorem dX8_choose_33 : decode cX8_choose 33 = .ok (.getfield 12, 3) := by decide +kernel
theorem dX8_choose_36 : decode cX8_choose 36 = .ok (.invokevirtual 73, 3) := by decide +kernel
theorem dX8_choose_39 : decode cX8_choose 39 = .ok (.iload_n 1, 1) := by decide +kernel
theorem dX8_choose_40 : decode cX8_choose 40 = .ok (.aload_n 0, 1) := by decide +kernel
theorem dX8_choose_41 : decode cX8_choose 41 = .ok (.getfield 12, 3) := by decide +kernel
theorem dX8_choose_44 : decode cX8_choose 44 = .ok (.getfield 69, 3) := by decide +kernel
theorem dX8_choose_47 : decode cX8_choose 47 = .ok (.aload_n 0, 1) := by decide +kernel
theorem dX8_choose_48 : decode cX8_choose 48 = .ok (.getfield 12, 3) := by decide +kernel
theorem dX8_choose_51 : decode cX8_choose 51 = .ok (.getfield 116, 3) := by decide +kernel
theorem dX8_choose_54 : decode cX8_choose 54 = .ok (.invokestatic 135, 3) := by decide +kernel
theorem dX8_choose_57 : decode cX8_choose 57 = .ok (.aload_n 0, 1) := by decide +kernel
theorem dX8_choose_58 : decode cX8_choose 58 = .ok (.getfield 12, 3) := by decide +kernel
theorem dX8_choose_61 : decode cX8_choose 61 = .ok (.aload_n 0, 1) := by decide +kernel
theorem dX8_choose_62 : decode cX8_choose 62 = .ok (.getfield 12, 3) := by decide +kernel
theorem dX8_choose_65 : decode cX8_choose 65 = .ok (.getfield 116, 3) := by decide +kernel
theorem dX8_choose_68 : decode cX8_choose 68 = .ok (.invokevirtual 123, 3) := by decide +kernel
theorem dX8_choose_71 : decode cX8_choose 71 = .ok (.ireturn, 1) := by decide +kernel
theorem dX8_number_0 : decode cX8_number 0 = .ok (.aload_n 0, 1) := by decide +kernel
theorem dX8_number_1 : decode cX8_number 1 = .ok (.getfield 12, 3) := by decide +kernel
theorem dX8_number_4 : decode cX8_number 4 = .ok (.getfield 116, 3) := by decide +kernel
theorem dX8_number_7 : decode cX8_number 7 = .ok (.aload_n 0, 1) := by decide +kernel
theorem dX8_number_8 : decode cX8_number 8 = .ok (.getfield 12, 3) := by decide +kernel
theorem dX8_number_11 : decode cX8_number 11 = .ok (.getfield 69, 3) := by decide +kernel
theorem dX8_number_14 : decode cX8_number 14 = .ok (.invokestatic 139, 3) := by decide +kernel
theorem dX8_number_17 : decode cX8_number 17 = .ok (.ireturn, 1) := by decide +kernel
theorem dX8_exchange_0 : decode cX8_exchange 0 = .ok (.aload_n 0, 1) := by decide +kernel
theorem dX8_exchange_1 : decode cX8_exchange 1 = .ok (.iload_n 1, 1) := by decide +kernel
theorem dX8_exchange_2 : decode cX8_exchange 2 = .ok (.invokevirtual 81, 3) := by decide +kernel
theorem dX8_exchange_5 : decode cX8_exchange 5 = .ok (.aload_n 0, 1) := by decide +kernel
theorem dX8_exchange_6 : decode cX8_exchange 6 = .ok (.iload_n 2, 1) := by decide +kernel
theorem dX8_exchange_7 : decode cX8_exchange 7 = .ok (.invokevirtual 81, 3) := by decide +kernel
theorem dX8_exchange_10 : decode cX8_exchange 10 = .ok (.aload_n 0, 1) := by decide +kernel
theorem dX8_exchange_11 : decode cX8_exchange 11 = .ok (.getfield 12, 3) := by decide +kernel
theorem dX8_exchange_14 : decode cX8_exchange 14 = .ok (.aload_n 0, 1) := by decide +kernel
theorem dX8_exchange_15 : decode cX8_exchange 15 = .ok (.getfield 12, 3) := by decide +kernel
theorem dX8_exchange_18 : decode cX8_exchange 18 = .ok (.getfield 116, 3) := by decide +kernel
theorem dX8_exchange_21 : decode cX8_exchange 21 = .ok (.iload_n 1, 1) := by decide +kernel
theorem dX8_exchange_22 : decode cX8_exchange 22 = .ok (.iload_n 2, 1) := by decide +kernel
theorem dX8_exchange_23 : decode cX8_exchange 23 = .ok (.invokevirtual 142, 3) := by decide +kernel
theorem dX8_exchange_26 : decode cX8_exchange 26 = .ok (.istore_n 3, 1) := by decide +kernel
theorem dX8_exchange_27 : decode cX8_exchange 27 = .ok (.aload_n 0, 1) := by decide +kernel
theorem dX8_exchange_28 : decode cX8_exchange 28 = .ok (.getfield 19, 3) := by decide +kernel
theorem dX8_exchange_31 : decode cX8_exchange 31 = .ok (.aload_n 0, 1) := by decide +kernel
theorem dX8_exchange_32 : decode cX8_exchange 32 = .ok (.getfield 12, 3) := by decide +kernel
theorem dX8_exchange_35 : decode cX8_exchange 35 = .ok (.invokevirtual 73, 3) := by decide +kernel
theorem dX8_exchange_38 : decode cX8_exchange 38 = .ok (.aload_n 0, 1) := by decide +kernel
theorem dX8_exchange_39 : decode cX8_exchange 39 = .ok (.getfield 12, 3) := by decide +kernel
theorem dX8_exchange_42 : decode cX8_exchange 42 = .ok (.getfield 116, 3) := by decide +kernel
theorem dX8_exchange_45 : decode cX8_exchange 45 = .ok (.iload_n 1, 1) := by decide +kernel
theorem dX8_exchange_46 : decode cX8_exchange 46 = .ok (.iload_n 2, 1) := by decide +kernel
theorem dX8_exchange_47 : decode cX8_exchange 47 = .ok (.invokestatic 145, 3) := by decide +kernel
theorem dX8_exchange_50 : decode cX8_exchange 50 = .ok (.iload_n 3, 1) := by decide +kernel
theorem dX8_exchange_51 : decode cX8_exchange 51 = .ok (.ireturn, 1) := by decide +kernel
theorem dX8_gain_0 : decode cX8_gain 0 = .ok (.aload_n 0, 1) := by decide +kernel
theorem dX8_gain_1 : decode cX8_gain 1 = .ok (.iload_n 1, 1) := by decide +kernel
theorem dX8_gain_2 : decode cX8_gain 2 = .ok (.invokevirtual 81, 3) := by decide +kernel
theorem dX8_gain_5 : decode cX8_gain 5 = .ok (.aload_n 0, 1) := by decide +kernel
theorem dX8_gain_6 : decode cX8_gain 6 = .ok (.iload_n 2, 1) := by decide +kernel
theorem dX8_gain_7 : decode cX8_gain 7 = .ok (.invokevirtual 81, 3) := by decide +kernel
theorem dX8_gain_10 : decode cX8_gain 10 = .ok (.aload_n 0, 1) := by decide +kernel
theorem dX8_gain_11 : decode cX8_gain 11 = .ok (.getfield 12, 3) := by decide +kernel
theorem dX8_gain_14 : decode cX8_gain 14 = .ok (.aload_n 0, 1) := by decide +kernel
theorem dX8_gain_15 : decode cX8_gain 15 = .ok (.getfield 12, 3) := by decide +kernel
theorem dX8_gain_18 : decode cX8_gain 18 = .ok (.getfield 116, 3) := by decide +kernel
theorem dX8_gain_21 : decode cX8_gain 21 = .ok (.iload_n 1, 1) := by decide +kernel
theorem dX8_gain_22 : decode cX8_gain 22 = .ok (.iload_n 2, 1) := by decide +kernel
theorem dX8_gain_23 : decode cX8_gain 23 = .ok (.invokevirtual 142, 3) := by decide +kernel
theorem dX8_gain_26 : decode cX8_gain 26 = .ok (.ireturn, 1) := by decide +kernel
theorem dX8_bestExchange_0 : decode cX8_bestExchange 0 = .ok (.aload_n 0, 1) := by decide +kernel
theorem dX8_bestExchange_1 : decode cX8_bestExchange 1 = .ok (.getfield 12, 3) := by decide +kernel
theorem dX8_bestExchange_4 : decode cX8_bestExchange 4 = .ok (.invokevirtual 148, 3) := by decide +kernel
theorem dX8_bestExchange_7 : decode cX8_bestExchange 7 = .ok (.ireturn, 1) := by decide +kernel
theorem dX8_descend_0 : decode cX8_descend 0 = .ok (.aload_n 0, 1) := by decide +kernel
theorem dX8_descend_1 : decode cX8_descend 1 = .ok (.getfield 19, 3) := by decide +kernel
theorem dX8_descend_4 : decode cX8_descend 4 = .ok (.aload_n 0, 1) := by decide +kernel
theorem dX8_descend_5 : decode cX8_descend 5 = .ok (.getfield 12, 3) := by decide +kernel
theorem dX8_descend_8 : decode cX8_descend 8 = .ok (.invokevirtual 73, 3) := by decide +kernel
theorem dX8_descend_11 : decode cX8_descend 11 = .ok (.iconst 0, 1) := by decide +kernel
theorem dX8_descend_12 : decode cX8_descend 12 = .ok (.istore_n 1, 1) := by decide +kernel
theorem dX8_descend_13 : decode cX8_descend 13 = .ok (.iconst 0, 1) := by decide +kernel
theorem dX8_descend_14 : decode cX8_descend 14 = .ok (.istore_n 2, 1) := by decide +kernel
theorem dX8_descend_15 : decode cX8_descend 15 = .ok (.iload_n 2, 1) := by decide +kernel
theorem dX8_descend_16 : decode cX8_descend 16 = .ok (.sipush 720, 3) := by decide +kernel
theorem dX8_descend_19 : decode cX8_descend 19 = .ok (.if_icmp .ge 71, 3) := by decide +kernel
theorem dX8_descend_22 : decode cX8_descend 22 = .ok (.aload_n 0, 1) := by decide +kernel
theorem dX8_descend_23 : decode cX8_descend 23 = .ok (.getfield 12, 3) := by decide +kernel
theorem dX8_descend_26 : decode cX8_descend 26 = .ok (.invokevirtual 148, 3) := by decide +kernel
theorem dX8_descend_29 : decode cX8_descend 29 = .ok (.istore_n 3, 1) := by decide +kernel
theorem dX8_descend_30 : decode cX8_descend 30 = .ok (.iload_n 3, 1) := by decide +kernel
theorem dX8_descend_31 : decode cX8_descend 31 = .ok (.iconst (-1), 1) := by decide +kernel
theorem dX8_descend_32 : decode cX8_descend 32 = .ok (.if_icmp .eq 58, 3) := by decide +kernel
theorem dX8_descend_35 : decode cX8_descend 35 = .ok (.aload_n 0, 1) := by decide +kernel
theorem dX8_descend_36 : decode cX8_descend 36 = .ok (.getfield 12, 3) := by decide +kernel
theorem dX8_descend_39 : decode cX8_descend 39 = .ok (.aload_n 0, 1) := by decide +kernel
theorem dX8_descend_40 : decode cX8_descend 40 = .ok (.getfield 12, 3) := by decide +kernel
theorem dX8_descend_43 : decode cX8_descend 43 = .ok (.getfield 116, 3) := by decide +kernel
theorem dX8_descend_46 : decode cX8_descend 46 = .ok (.iload_n 3, 1) := by decide +kernel
theorem dX8_descend_47 : decode cX8_descend 47 = .ok (.bipush 10, 2) := by decide +kernel
theorem dX8_descend_49 : decode cX8_descend 49 = .ok (.idiv, 1) := by decide +kernel
theorem dX8_descend_50 : decode cX8_descend 50 = .ok (.iload_n 3, 1) := by decide +kernel
theorem dX8_descend_51 : decode cX8_descend 51 = .ok (.bipush 10, 2) := by decide +kernel
theorem dX8_descend_53 : decode cX8_descend 53 = .ok (.irem, 1) := by decide +kernel
theorem dX8_descend_54 : decode cX8_descend 54 = .ok (.invokevirtual 142, 3) := by decide +kernel
theorem dX8_descend_57 : decode cX8_descend 57 = .ok (.ifCond .gt 6, 3) := by decide +kernel
theorem dX8_descend_60 : decode cX8_descend 60 = .ok (.goto 30, 3) := by decide +kernel
theorem dX8_descend_63 : decode cX8_descend 63 = .ok (.aload_n 0, 1) := by decide +kernel
theorem dX8_descend_64 : decode cX8_descend 64 = .ok (.getfield 12, 3) := by decide +kernel
theorem dX8_descend_67 : decode cX8_descend 67 = .ok (.getfield 116, 3) := by decide +kernel
theorem dX8_descend_70 : decode cX8_descend 70 = .ok (.iload_n 3, 1) := by decide +kernel
theorem dX8_descend_71 : decode cX8_descend 71 = .ok (.bipush 10, 2) := by decide +kernel
theorem dX8_descend_73 : decode cX8_descend 73 = .ok (.idiv, 1) := by decide +kernel
theorem dX8_descend_74 : decode cX8_descend 74 = .ok (.iload_n 3, 1) := by decide +kernel
theorem dX8_descend_75 : decode cX8_descend 75 = .ok (.bipush 10, 2) := by decide +kernel
theorem dX8_descend_77 : decode cX8_descend 77 = .ok (.irem, 1) := by decide +kernel
theorem dX8_descend_78 : decode cX8_descend 78 = .ok (.invokestatic 145, 3) := by decide +kernel
theorem dX8_descend_81 : decode cX8_descend 81 = .ok (.iinc 1 1, 3) := by decide +kernel
theorem dX8_descend_84 : decode cX8_descend 84 = .ok (.iinc 2 1, 3) := by decide +kernel
theorem dX8_descend_87 : decode cX8_descend 87 = .ok (.goto (-72), 3) := by decide +kernel
theorem dX8_descend_90 : decode cX8_descend 90 = .ok (.iload_n 1, 1) := by decide +kernel
theorem dX8_descend_91 : decode cX8_descend 91 = .ok (.ireturn, 1) := by decide +kernel
theorem dX8_within_0 : decode cX8_within 0 = .ok (.aload_n 0, 1) := by decide +kernel
theorem dX8_within_1 : decode cX8_within 1 = .ok (.getfield 26, 3) := by decide +kernel
theorem dX8_within_4 : decode cX8_within 4 = .ok (.aload_n 0, 1) := by decide +kernel
theorem dX8_within_5 : decode cX8_within 5 = .ok (.getfield 12, 3) := by decide +kernel
theorem dX8_within_8 : decode cX8_within 8 = .ok (.invokevirtual 152, 3) := by decide +kernel
theorem dX8_within_11 : decode cX8_within 11 = .ok (.aload_n 0, 1) := by decide +kernel
theorem dX8_within_12 : decode cX8_within 12 = .ok (.getfield 26, 3) := by decide +kernel
theorem dX8_within_15 : decode cX8_within 15 = .ok (.iload_n 1, 1) := by decide +kernel
theorem dX8_within_16 : decode cX8_within 16 = .ok (.invokevirtual 155, 3) := by decide +kernel
theorem dX8_within_19 : decode cX8_within 19 = .ok (.ireturn, 1) := by decide +kernel
theorem dX8_optimum_0 : decode cX8_optimum 0 = .ok (.aload_n 0, 1) := by decide +kernel
theorem dX8_optimum_1 : decode cX8_optimum 1 = .ok (.getfield 26, 3) := by decide +kernel
theorem dX8_optimum_4 : decode cX8_optimum 4 = .ok (.aload_n 0, 1) := by decide +kernel
theorem dX8_optimum_5 : decode cX8_optimum 5 = .ok (.getfield 12, 3) := by decide +kernel
theorem dX8_optimum_8 : decode cX8_optimum 8 = .ok (.invokevirtual 152, 3) := by decide +kernel
theorem dX8_optimum_11 : decode cX8_optimum 11 = .ok (.aload_n 0, 1) := by decide +kernel
theorem dX8_optimum_12 : decode cX8_optimum 12 = .ok (.getfield 26, 3) := by decide +kernel
theorem dX8_optimum_15 : decode cX8_optimum 15 = .ok (.getfield 158, 3) := by decide +kernel
theorem dX8_optimum_18 : decode cX8_optimum 18 = .ok (.ireturn, 1) := by decide +kernel
theorem dX8_optima_0 : decode cX8_optima 0 = .ok (.aload_n 0, 1) := by decide +kernel
theorem dX8_optima_1 : decode cX8_optima 1 = .ok (.getfield 26, 3) := by decide +kernel
theorem dX8_optima_4 : decode cX8_optima 4 = .ok (.aload_n 0, 1) := by decide +kernel
theorem dX8_optima_5 : decode cX8_optima 5 = .ok (.getfield 12, 3) := by decide +kernel
theorem dX8_optima_8 : decode cX8_optima 8 = .ok (.invokevirtual 152, 3) := by decide +kernel
theorem dX8_optima_11 : decode cX8_optima 11 = .ok (.aload_n 0, 1) := by decide +kernel
theorem dX8_optima_12 : decode cX8_optima 12 = .ok (.getfield 26, 3) := by decide +kernel
theorem dX8_optima_15 : decode cX8_optima 15 = .ok (.aload_n 0, 1) := by decide +kernel
theorem dX8_optima_16 : decode cX8_optima 16 = .ok (.getfield 26, 3) := by decide +kernel
theorem dX8_optima_19 : decode cX8_optima 19 = .ok (.getfield 158, 3) := by decide +kernel
theorem dX8_optima_22 : decode cX8_optima 22 = .ok (.invokevirtual 155, 3) := by decide +kernel
theorem dX8_optima_25 : decode cX8_optima 25 = .ok (.ireturn, 1) := by decide +kernel
theorem dX8_optimal_0 : decode cX8_optimal 0 = .ok (.aload_n 0, 1) := by decide +kernel
theorem dX8_optimal_1 : decode cX8_optimal 1 = .ok (.getfield 26, 3) := by decide +kernel
theorem dX8_optimal_4 : decode cX8_optimal 4 = .ok (.aload_n 0, 1) := by decide +kernel
theorem dX8_optimal_5 : decode cX8_optimal 5 = .ok (.getfield 12, 3) := by decide +kernel
theorem dX8_optimal_8 : decode cX8_optimal 8 = .ok (.invokevirtual 152, 3) := by decide +kernel
theorem dX8_optimal_11 : decode cX8_optimal 11 = .ok (.aload_n 0, 1) := by decide +kernel
theorem dX8_optimal_12 : decode cX8_optimal 12 = .ok (.getfield 26, 3) := by decide +kernel
theorem dX8_optimal_15 : decode cX8_optimal 15 = .ok (.iload_n 1, 1) := by decide +kernel
theorem dX8_optimal_16 : decode cX8_optimal 16 = .ok (.invokevirtual 161, 3) := by decide +kernel
theorem dX8_optimal_19 : decode cX8_optimal 19 = .ok (.ireturn, 1) := by decide +kernel
theorem dX8_mean_0 : decode cX8_mean 0 = .ok (.iload_n 1, 1) := by decide +kernel
theorem dX8_mean_1 : decode cX8_mean 1 = .ok (.ifCond .eq 18, 3) := by decide +kernel
theorem dX8_mean_4 : decode cX8_mean 4 = .ok (.iload_n 1, 1) := by decide +kernel
theorem dX8_mean_5 : decode cX8_mean 5 = .ok (.iconst 1, 1) := by decide +kernel
theorem dX8_mean_6 : decode cX8_mean 6 = .ok (.if_icmp .eq 13, 3) := by decide +kernel
theorem dX8_mean_9 : decode cX8_mean 9 = .ok (.new 62, 3) := by decide +kernel
theorem dX8_mean_12 : decode cX8_mean 12 = .ok (.dup, 1) := by decide +kernel
theorem dX8_mean_13 : decode cX8_mean 13 = .ok (.ldc 164, 2) := by decide +kernel
theorem dX8_mean_15 : decode cX8_mean 15 = .ok (.invokespecial 66, 3) := by decide +kernel
theorem dX8_mean_18 : decode cX8_mean 18 = .ok (.athrow, 1) := by decide +kernel
theorem dX8_mean_19 : decode cX8_mean 19 = .ok (.aload_n 0, 1) := by decide +kernel
theorem dX8_mean_20 : decode cX8_mean 20 = .ok (.getfield 26, 3) := by decide +kernel
theorem dX8_mean_23 : decode cX8_mean 23 = .ok (.aload_n 0, 1) := by decide +kernel
theorem dX8_mean_24 : decode cX8_mean 24 = .ok (.getfield 12, 3) := by decide +kernel
theorem dX8_mean_27 : decode cX8_mean 27 = .ok (.invokevirtual 152, 3) := by decide +kernel
theorem dX8_mean_30 : decode cX8_mean 30 = .ok (.iload_n 1, 1) := by decide +kernel
theorem dX8_mean_31 : decode cX8_mean 31 = .ok (.ifCond .ne 13, 3) := by decide +kernel
theorem dX8_mean_34 : decode cX8_mean 34 = .ok (.aload_n 0, 1) := by decide +kernel
theorem dX8_mean_35 : decode cX8_mean 35 = .ok (.getfield 26, 3) := by decide +kernel
theorem dX8_mean_38 : decode cX8_mean 38 = .ok (.getfield 166, 3) := by decide +kernel
theorem dX8_mean_41 : decode cX8_mean 41 = .ok (.goto 10, 3) := by decide +kernel
theorem dX8_mean_44 : decode cX8_mean 44 = .ok (.aload_n 0, 1) := by decide +kernel
theorem dX8_mean_45 : decode cX8_mean 45 = .ok (.getfield 26, 3) := by decide +kernel
theorem dX8_mean_48 : decode cX8_mean 48 = .ok (.getfield 169, 3) := by decide +kernel
theorem dX8_mean_51 : decode cX8_mean 51 = .ok (.istore_n 2, 1) := by decide +kernel
theorem dX8_mean_52 : decode cX8_mean 52 = .ok (.aload_n 0, 1) := by decide +kernel
theorem dX8_mean_53 : decode cX8_mean 53 = .ok (.getfield 26, 3) := by decide +kernel
theorem dX8_mean_56 : decode cX8_mean 56 = .ok (.getfield 166, 3) := by decide +kernel
theorem dX8_mean_59 : decode cX8_mean 59 = .ok (.aload_n 0, 1) := by decide +kernel
theorem dX8_mean_60 : decode cX8_mean 60 = .ok (.getfield 26, 3) := by decide +kernel
theorem dX8_mean_63 : decode cX8_mean 63 = .ok (.getfield 169, 3) := by decide +kernel
theorem dX8_mean_66 : decode cX8_mean 66 = .ok (.invokestatic 172, 3) := by decide +kernel
theorem dX8_mean_69 : decode cX8_mean 69 = .ok (.istore_n 3, 1) := by decide +kernel
theorem dX8_mean_70 : decode cX8_mean 70 = .ok (.iload_n 3, 1) := by decide +kernel
theorem dX8_mean_71 : decode cX8_mean 71 = .ok (.ifCond .ne 7, 3) := by decide +kernel
theorem dX8_mean_74 : decode cX8_mean 74 = .ok (.iload_n 2, 1) := by decide +kernel
theorem dX8_mean_75 : decode cX8_mean 75 = .ok (.goto 6, 3) := by decide +kernel
theorem dX8_mean_78 : decode cX8_mean 78 = .ok (.iload_n 2, 1) := by decide +kernel
theorem dX8_mean_79 : decode cX8_mean 79 = .ok (.iload_n 3, 1) := by decide +kernel
theorem dX8_mean_80 : decode cX8_mean 80 = .ok (.idiv, 1) := by decide +kernel
theorem dX8_mean_81 : decode cX8_mean 81 = .ok (.ireturn, 1) := by decide +kernel
theorem dX8_localOptima_0 : decode cX8_localOptima 0 = .ok (.aload_n 0, 1) := by decide +kernel
theorem dX8_localOptima_1 : decode cX8_localOptima 1 = .ok (.getfield 26, 3) := by decide +kernel
theorem dX8_localOptima_4 : decode cX8_localOptima 4 = .ok (.aload_n 0, 1) := by decide +kernel
theorem dX8_localOptima_5 : decode cX8_localOptima 5 = .ok (.getfield 12, 3) := by decide +kernel
theorem dX8_localOptima_8 : decode cX8_localOptima 8 = .ok (.invokevirtual 176, 3) := by decide +kernel
theorem dX8_localOptima_11 : decode cX8_localOptima 11 = .ok (.ireturn, 1) := by decide +kernel
theorem dX8_fix_0 : decode cX8_fix 0 = .ok (.aload_n 0, 1) := by decide +kernel
theorem dX8_fix_1 : decode cX8_fix 1 = .ok (.iload_n 1, 1) := by decide +kernel
theorem dX8_fix_2 : decode cX8_fix 2 = .ok (.iload_n 2, 1) := by decide +kernel
theorem dX8_fix_3 : decode cX8_fix 3 = .ok (.invokevirtual 180, 3) := by decide +kernel
theorem dX8_fix_6 : decode cX8_fix 6 = .ok (.aload_n 0, 1) := by decide +kernel
theorem dX8_fix_7 : decode cX8_fix 7 = .ok (.getfield 19, 3) := by decide +kernel
theorem dX8_fix_10 : decode cX8_fix 10 = .ok (.aload_n 0, 1) := by decide +kernel
theorem dX8_fix_11 : decode cX8_fix 11 = .ok (.getfield 12, 3) := by decide +kernel
theorem dX8_fix_14 : decode cX8_fix 14 = .ok (.invokevirtual 73, 3) := by decide +kernel
theorem dX8_fix_17 : decode cX8_fix 17 = .ok (.aload_n 0, 1) := by decide +kernel
theorem dX8_fix_18 : decode cX8_fix 18 = .ok (.getfield 12, 3) := by decide +kernel
theorem dX8_fix_21 : decode cX8_fix 21 = .ok (.getfield 184, 3) := by decide +kernel
theorem dX8_fix_24 : decode cX8_fix 24 = .ok (.iload_n 1, 1) := by decide +kernel
theorem dX8_fix_25 : decode cX8_fix 25 = .ok (.iload_n 2, 1) := by decide +kernel
theorem dX8_fix_26 : decode cX8_fix 26 = .ok (.invokestatic 187, 3) := by decide +kernel
theorem dX8_fix_29 : decode cX8_fix 29 = .ok (.aload_n 0, 1) := by decide +kernel
theorem dX8_fix_30 : decode cX8_fix 30 = .ok (.getfield 12, 3) := by decide +kernel
theorem dX8_fix_33 : decode cX8_fix 33 = .ok (.getfield 69, 3) := by decide +kernel
theorem dX8_fix_36 : decode cX8_fix 36 = .ok (.aload_n 0, 1) := by decide +kernel
theorem dX8_fix_37 : decode cX8_fix 37 = .ok (.getfield 12, 3) := by decide +kernel
theorem dX8_fix_40 : decode cX8_fix 40 = .ok (.invokevirtual 190, 3) := by decide +kernel
theorem dX8_fix_43 : decode cX8_fix 43 = .ok (.isub, 1) := by decide +kernel
theorem dX8_fix_44 : decode cX8_fix 44 = .ok (.ireturn, 1) := by decide +kernel
theorem dX8_free_0 : decode cX8_free 0 = .ok (.aload_n 0, 1) := by decide +kernel
theorem dX8_free_1 : decode cX8_free 1 = .ok (.iload_n 1, 1) := by decide +kernel
theorem dX8_free_2 : decode cX8_free 2 = .ok (.invokevirtual 81, 3) := by decide +kernel
theorem dX8_free_5 : decode cX8_free 5 = .ok (.aload_n 0, 1) := by decide +kernel
theorem dX8_free_6 : decode cX8_free 6 = .ok (.getfield 12, 3) := by decide +kernel
theorem dX8_free_9 : decode cX8_free 9 = .ok (.getfield 184, 3) := by decide +kernel
theorem dX8_free_12 : decode cX8_free 12 = .ok (.iload_n 1, 1) := by decide +kernel
theorem dX8_free_13 : decode cX8_free 13 = .ok (.invokestatic 119, 3) := by decide +kernel
theorem dX8_free_16 : decode cX8_free 16 = .ok (.istore_n 2, 1) := by decide +kernel
theorem dX8_free_17 : decode cX8_free 17 = .ok (.iload_n 2, 1) := by decide +kernel
theorem dX8_free_18 : decode cX8_free 18 = .ok (.iconst (-1), 1) := by decide +kernel
theorem dX8_free_19 : decode cX8_free 19 = .ok (.if_icmp .ne 13, 3) := by decide +kernel
theorem dX8_free_22 : decode cX8_free 22 = .ok (.new 193, 3) := by decide +kernel
theorem dX8_free_25 : decode cX8_free 25 = .ok (.dup, 1) := by decide +kernel
theorem dX8_free_26 : decode cX8_free 26 = .ok (.ldc 195, 2) := by decide +kernel
theorem dX8_free_28 : decode cX8_free 28 = .ok (.invokespecial 197, 3) := by decide +kernel
theorem dX8_free_31 : decode cX8_free 31 = .ok (.athrow, 1) := by decide +kernel
theorem dX8_free_32 : decode cX8_free 32 = .ok (.aload_n 0, 1) := by decide +kernel
theorem dX8_free_33 : decode cX8_free 33 = .ok (.getfield 19, 3) := by decide +kernel
theorem dX8_free_36 : decode cX8_free 36 = .ok (.aload_n 0, 1) := by decide +kernel
theorem dX8_free_37 : decode cX8_free 37 = .ok (.getfield 12, 3) := by decide +kernel
theorem dX8_free_40 : decode cX8_free 40 = .ok (.invokevirtual 73, 3) := by decide +kernel
theorem dX8_free_43 : decode cX8_free 43 = .ok (.aload_n 0, 1) := by decide +kernel
theorem dX8_free_44 : decode cX8_free 44 = .ok (.getfield 12, 3) := by decide +kernel
theorem dX8_free_47 : decode cX8_free 47 = .ok (.getfield 184, 3) := by decide +kernel
theorem dX8_free_50 : decode cX8_free 50 = .ok (.iload_n 1, 1) := by decide +kernel
theorem dX8_free_51 : decode cX8_free 51 = .ok (.iconst (-1), 1) := by decide +kernel
theorem dX8_free_52 : decode cX8_free 52 = .ok (.invokestatic 187, 3) := by decide +kernel
theorem dX8_free_55 : decode cX8_free 55 = .ok (.iload_n 2, 1) := by decide +kernel
theorem dX8_free_56 : decode cX8_free 56 = .ok (.ireturn, 1) := by decide +kernel
theorem dX8_fixed_0 : decode cX8_fixed 0 = .ok (.aload_n 0, 1) := by decide +kernel
theorem dX8_fixed_1 : decode cX8_fixed 1 = .ok (.iload_n 1, 1) := by decide +kernel
theorem dX8_fixed_2 : decode cX8_fixed 2 = .ok (.invokevirtual 81, 3) := by decide +kernel
theorem dX8_fixed_5 : decode cX8_fixed 5 = .ok (.aload_n 0, 1) := by decide +kernel
theorem dX8_fixed_6 : decode cX8_fixed 6 = .ok (.getfield 12, 3) := by decide +kernel
theorem dX8_fixed_9 : decode cX8_fixed 9 = .ok (.getfield 184, 3) := by decide +kernel
theorem dX8_fixed_12 : decode cX8_fixed 12 = .ok (.iload_n 1, 1) := by decide +kernel
theorem dX8_fixed_13 : decode cX8_fixed 13 = .ok (.invokestatic 119, 3) := by decide +kernel
theorem dX8_fixed_16 : decode cX8_fixed 16 = .ok (.ireturn, 1) := by decide +kernel
theorem dX8_fixedCost_0 : decode cX8_fixedCost 0 = .ok (.aload_n 0, 1) := by decide +kernel
theorem dX8_fixedCost_1 : decode cX8_fixedCost 1 = .ok (.getfield 12, 3) := by decide +kernel
theorem dX8_fixedCost_4 : decode cX8_fixedCost 4 = .ok (.aload_n 0, 1) := by decide +kernel
theorem dX8_fixedCost_5 : decode cX8_fixedCost 5 = .ok (.getfield 12, 3) := by decide +kernel
theorem dX8_fixedCost_8 : decode cX8_fixedCost 8 = .ok (.getfield 184, 3) := by decide +kernel
theorem dX8_fixedCost_11 : decode cX8_fixedCost 11 = .ok (.invokevirtual 198, 3) := by decide +kernel
theorem dX8_fixedCost_14 : decode cX8_fixedCost 14 = .ok (.ireturn, 1) := by decide +kernel
theorem dX8_entry_0 : decode cX8_entry 0 = .ok (.aload_n 0, 1) := by decide +kernel
theorem dX8_entry_1 : decode cX8_entry 1 = .ok (.iload_n 1, 1) := by decide +kernel
theorem dX8_entry_2 : decode cX8_entry 2 = .ok (.iload_n 2, 1) := by decide +kernel
theorem dX8_entry_3 : decode cX8_entry 3 = .ok (.invokevirtual 180, 3) := by decide +kernel
theorem dX8_entry_6 : decode cX8_entry 6 = .ok (.aload_n 0, 1) := by decide +kernel
theorem dX8_entry_7 : decode cX8_entry 7 = .ok (.getfield 33, 3) := by decide +kernel
theorem dX8_entry_10 : decode cX8_entry 10 = .ok (.aload_n 0, 1) := by decide +kernel
theorem dX8_entry_11 : decode cX8_entry 11 = .ok (.getfield 12, 3) := by decide +kernel
theorem dX8_entry_14 : decode cX8_entry 14 = .ok (.aload_n 0, 1) := by decide +kernel
theorem dX8_entry_15 : decode cX8_entry 15 = .ok (.getfield 12, 3) := by decide +kernel
theorem dX8_entry_18 : decode cX8_entry 18 = .ok (.getfield 184, 3) := by decide +kernel
theorem dX8_entry_21 : decode cX8_entry 21 = .ok (.invokevirtual 201, 3) := by decide +kernel
theorem dX8_entry_24 : decode cX8_entry 24 = .ok (.aload_n 0, 1) := by decide +kernel
theorem dX8_entry_25 : decode cX8_entry 25 = .ok (.getfield 33, 3) := by decide +kernel
theorem dX8_entry_28 : decode cX8_entry 28 = .ok (.getfield 204, 3) := by decide +kernel
theorem dX8_entry_31 : decode cX8_entry 31 = .ok (.iload_n 1, 1) := by decide +kernel
theorem dX8_entry_32 : decode cX8_entry 32 = .ok (.iload_n 2, 1) := by decide +kernel
theorem dX8_entry_33 : decode cX8_entry 33 = .ok (.invokestatic 94, 3) := by decide +kernel
theorem dX8_entry_36 : decode cX8_entry 36 = .ok (.ireturn, 1) := by decide +kernel
theorem dX8_bound_0 : decode cX8_bound 0 = .ok (.aload_n 0, 1) := by decide +kernel
theorem dX8_bound_1 : decode cX8_bound 1 = .ok (.getfield 33, 3) := by decide +kernel
theorem dX8_bound_4 : decode cX8_bound 4 = .ok (.aload_n 0, 1) := by decide +kernel
theorem dX8_bound_5 : decode cX8_bound 5 = .ok (.getfield 12, 3) := by decide +kernel
theorem dX8_bound_8 : decode cX8_bound 8 = .ok (.aload_n 0, 1) := by decide +kernel
theorem dX8_bound_9 : decode cX8_bound 9 = .ok (.getfield 12, 3) := by decide +kernel
theorem dX8_bound_12 : decode cX8_bound 12 = .ok (.getfield 184, 3) := by decide +kernel
theorem dX8_bound_15 : decode cX8_bound 15 = .ok (.invokevirtual 201, 3) := by decide +kernel
theorem dX8_bound_18 : decode cX8_bound 18 = .ok (.aload_n 0, 1) := by decide +kernel
theorem dX8_bound_19 : decode cX8_bound 19 = .ok (.getfield 33, 3) := by decide +kernel
theorem dX8_bound_22 : decode cX8_bound 22 = .ok (.invokevirtual 207, 3) := by decide +kernel
theorem dX8_bound_25 : decode cX8_bound 25 = .ok (.ireturn, 1) := by decide +kernel
theorem dX8_boundWith_0 : decode cX8_boundWith 0 = .ok (.aload_n 0, 1) := by decide +kernel
theorem dX8_boundWith_1 : decode cX8_boundWith 1 = .ok (.iload_n 1, 1) := by decide +kernel
theorem dX8_boundWith_2 : decode cX8_boundWith 2 = .ok (.iload_n 2, 1) := by decide +kernel
theorem dX8_boundWith_3 : decode cX8_boundWith 3 = .ok (.invokevirtual 180, 3) := by decide +kernel
theorem dX8_boundWith_6 : decode cX8_boundWith 6 = .ok (.aload_n 0, 1) := by decide +kernel
theorem dX8_boundWith_7 : decode cX8_boundWith 7 = .ok (.getfield 12, 3) := by decide +kernel
theorem dX8_boundWith_10 : decode cX8_boundWith 10 = .ok (.getfield 184, 3) := by decide +kernel
theorem dX8_boundWith_13 : decode cX8_boundWith 13 = .ok (.iconst 0, 1) := by decide +kernel
theorem dX8_boundWith_14 : decode cX8_boundWith 14 = .ok (.aload_n 0, 1) := by decide +kernel
theorem dX8_boundWith_15 : decode cX8_boundWith 15 = .ok (.getfield 58, 3) := by decide +kernel
theorem dX8_boundWith_18 : decode cX8_boundWith 18 = .ok (.iconst 0, 1) := by decide +kernel
theorem dX8_boundWith_19 : decode cX8_boundWith 19 = .ok (.bipush 6, 2) := by decide +kernel
theorem dX8_boundWith_21 : decode cX8_boundWith 21 = .ok (.invokestatic 210, 3) := by decide +kernel
theorem dX8_boundWith_24 : decode cX8_boundWith 24 = .ok (.aload_n 0, 1) := by decide +kernel
theorem dX8_boundWith_25 : decode cX8_boundWith 25 = .ok (.getfield 58, 3) := by decide +kernel
theorem dX8_boundWith_28 : decode cX8_boundWith 28 = .ok (.iload_n 1, 1) := by decide +kernel
theorem dX8_boundWith_29 : decode cX8_boundWith 29 = .ok (.iload_n 2, 1) := by decide +kernel
theorem dX8_boundWith_30 : decode cX8_boundWith 30 = .ok (.invokestatic 187, 3) := by decide +kernel
theorem dX8_boundWith_33 : decode cX8_boundWith 33 = .ok (.aload_n 0, 1) := by decide +kernel
theorem dX8_boundWith_34 : decode cX8_boundWith 34 = .ok (.getfield 33, 3) := by decide +kernel
theorem dX8_boundWith_37 : decode cX8_boundWith 37 = .ok (.aload_n 0, 1) := by decide +kernel
theorem dX8_boundWith_38 : decode cX8_boundWith 38 = .ok (.getfield 12, 3) := by decide +kernel
theorem dX8_boundWith_41 : decode cX8_boundWith 41 = .ok (.aload_n 0, 1) := by decide +kernel
theorem dX8_boundWith_42 : decode cX8_boundWith 42 = .ok (.getfield 58, 3) := by decide +kernel
theorem dX8_boundWith_45 : decode cX8_boundWith 45 = .ok (.invokevirtual 201, 3) := by decide +kernel
theorem dX8_boundWith_48 : decode cX8_boundWith 48 = .ok (.aload_n 0, 1) := by decide +kernel
theorem dX8_boundWith_49 : decode cX8_boundWith 49 = .ok (.getfield 33, 3) := by decide +kernel
theorem dX8_boundWith_52 : decode cX8_boundWith 52 = .ok (.invokevirtual 207, 3) := by decide +kernel
theorem dX8_boundWith_55 : decode cX8_boundWith 55 = .ok (.ireturn, 1) := by decide +kernel
theorem dX8_regret_0 : decode cX8_regret 0 = .ok (.aload_n 0, 1) := by decide +kernel
theorem dX8_regret_1 : decode cX8_regret 1 = .ok (.iload_n 1, 1) := by decide +kernel
theorem dX8_regret_2 : decode cX8_regret 2 = .ok (.invokevirtual 81, 3) := by decide +kernel
theorem dX8_regret_5 : decode cX8_regret 5 = .ok (.aload_n 0, 1) := by decide +kernel
theorem dX8_regret_6 : decode cX8_regret 6 = .ok (.getfield 12, 3) := by decide +kernel
theorem dX8_regret_9 : decode cX8_regret 9 = .ok (.getfield 184, 3) := by decide +kernel
theorem dX8_regret_12 : decode cX8_regret 12 = .ok (.iload_n 1, 1) := by decide +kernel
theorem dX8_regret_13 : decode cX8_regret 13 = .ok (.invokestatic 119, 3) := by decide +kernel
theorem dX8_regret_16 : decode cX8_regret 16 = .ok (.iconst (-1), 1) := by decide +kernel
theorem dX8_regret_17 : decode cX8_regret 17 = .ok (.if_icmp .eq 13, 3) := by decide +kernel
theorem dX8_regret_20 : decode cX8_regret 20 = .ok (.new 193, 3) := by decide +kernel
theorem dX8_regret_23 : decode cX8_regret 23 = .ok (.dup, 1) := by decide +kernel
theorem dX8_regret_24 : decode cX8_regret 24 = .ok (.ldc 216, 2) := by decide +kernel
theorem dX8_regret_26 : decode cX8_regret 26 = .ok (.invokespecial 197, 3) := by decide +kernel
theorem dX8_regret_29 : decode cX8_regret 29 = .ok (.athrow, 1) := by decide +kernel
theorem dX8_regret_30 : decode cX8_regret 30 = .ok (.aload_n 0, 1) := by decide +kernel
theorem dX8_regret_31 : decode cX8_regret 31 = .ok (.getfield 33, 3) := by decide +kernel
theorem dX8_regret_34 : decode cX8_regret 34 = .ok (.aload_n 0, 1) := by decide +kernel
theorem dX8_regret_35 : decode cX8_regret 35 = .ok (.getfield 12, 3) := by decide +kernel
theorem dX8_regret_38 : decode cX8_regret 38 = .ok (.aload_n 0, 1) := by decide +kernel
theorem dX8_regret_39 : decode cX8_regret 39 = .ok (.getfield 12, 3) := by decide +kernel
theorem dX8_regret_42 : decode cX8_regret 42 = .ok (.getfield 184, 3) := by decide +kernel
theorem dX8_regret_45 : decode cX8_regret 45 = .ok (.invokevirtual 201, 3) := by decide +kernel
theorem dX8_regret_48 : decode cX8_regret 48 = .ok (.aload_n 0, 1) := by decide +kernel
theorem dX8_regret_49 : decode cX8_regret 49 = .ok (.getfield 33, 3) := by decide +kernel
theorem dX8_regret_52 : decode cX8_regret 52 = .ok (.iload_n 1, 1) := by decide +kernel
theorem dX8_regret_53 : decode cX8_regret 53 = .ok (.invokevirtual 218, 3) := by decide +kernel
theorem dX8_regret_56 : decode cX8_regret 56 = .ok (.ireturn, 1) := by decide +kernel
theorem dX8_branchOn_0 : decode cX8_branchOn 0 = .ok (.aload_n 0, 1) := by decide +kernel
theorem dX8_branchOn_1 : decode cX8_branchOn 1 = .ok (.getfield 33, 3) := by decide +kernel
theorem dX8_branchOn_4 : decode cX8_branchOn 4 = .ok (.aload_n 0, 1) := by decide +kernel
theorem dX8_branchOn_5 : decode cX8_branchOn 5 = .ok (.getfield 12, 3) := by decide +kernel
theorem dX8_branchOn_8 : decode cX8_branchOn 8 = .ok (.aload_n 0, 1) := by decide +kernel
theorem dX8_branchOn_9 : decode cX8_branchOn 9 = .ok (.getfield 12, 3) := by decide +kernel
theorem dX8_branchOn_12 : decode cX8_branchOn 12 = .ok (.getfield 184, 3) := by decide +kernel
theorem dX8_branchOn_15 : decode cX8_branchOn 15 = .ok (.invokevirtual 201, 3) := by decide +kernel
theorem dX8_branchOn_18 : decode cX8_branchOn 18 = .ok (.aload_n 0, 1) := by decide +kernel
theorem dX8_branchOn_19 : decode cX8_branchOn 19 = .ok (.getfield 33, 3) := by decide +kernel
theorem dX8_branchOn_22 : decode cX8_branchOn 22 = .ok (.invokevirtual 221, 3) := by decide +kernel
theorem dX8_branchOn_25 : decode cX8_branchOn 25 = .ok (.ireturn, 1) := by decide +kernel
theorem dX8_symmetries_0 : decode cX8_symmetries 0 = .ok (.aload_n 0, 1) := by decide +kernel
theorem dX8_symmetries_1 : decode cX8_symmetries 1 = .ok (.getfield 40, 3) := by decide +kernel
theorem dX8_symmetries_4 : decode cX8_symmetries 4 = .ok (.aload_n 0, 1) := by decide +kernel
theorem dX8_symmetries_5 : decode cX8_symmetries 5 = .ok (.getfield 12, 3) := by decide +kernel
theorem dX8_symmetries_8 : decode cX8_symmetries 8 = .ok (.aload_n 0, 1) := by decide +kernel
theorem dX8_symmetries_9 : decode cX8_symmetries 9 = .ok (.getfield 12, 3) := by decide +kernel
theorem dX8_symmetries_12 : decode cX8_symmetries 12 = .ok (.getfield 184, 3) := by decide +kernel
theorem dX8_symmetries_15 : decode cX8_symmetries 15 = .ok (.invokevirtual 224, 3) := by decide +kernel
theorem dX8_symmetries_18 : decode cX8_symmetries 18 = .ok (.aload_n 0, 1) := by decide +kernel
theorem dX8_symmetries_19 : decode cX8_symmetries 19 = .ok (.getfield 40, 3) := by decide +kernel
theorem dX8_symmetries_22 : decode cX8_symmetries 22 = .ok (.getfield 225, 3) := by decide +kernel
theorem dX8_symmetries_25 : decode cX8_symmetries 25 = .ok (.ireturn, 1) := by decide +kernel
theorem dX8_representative_0 : decode cX8_representative 0 = .ok (.aload_n 0, 1) := by decide +kernel
theorem dX8_representative_1 : decode cX8_representative 1 = .ok (.iload_n 1, 1) := by decide +kernel
theorem dX8_representative_2 : decode cX8_representative 2 = .ok (.invokevirtual 81, 3) := by decide +kernel
theorem dX8_representative_5 : decode cX8_representative 5 = .ok (.aload_n 0, 1) := by decide +kernel
theorem dX8_representative_6 : decode cX8_representative 6 = .ok (.getfield 40, 3) := by decide +kernel
theorem dX8_representative_9 : decode cX8_representative 9 = .ok (.aload_n 0, 1) := by decide +kernel
theorem dX8_representative_10 : decode cX8_representative 10 = .ok (.getfield 12, 3) := by decide +kernel
theorem dX8_representative_13 : decode cX8_representative 13 = .ok (.aload_n 0, 1) := by decide +kernel
theorem dX8_representative_14 : decode cX8_representative 14 = .ok (.getfield 12, 3) := by decide +kernel
theorem dX8_representative_17 : decode cX8_representative 17 = .ok (.getfield 184, 3) := by decide +kernel
theorem dX8_representative_20 : decode cX8_representative 20 = .ok (.invokevirtual 224, 3) := by decide +kernel
theorem dX8_representative_23 : decode cX8_representative 23 = .ok (.aload_n 0, 1) := by decide +kernel
theorem dX8_representative_24 : decode cX8_representative 24 = .ok (.getfield 40, 3) := by decide +kernel
theorem dX8_representative_27 : decode cX8_representative 27 = .ok (.getfield 226, 3) := by decide +kernel
theorem dX8_representative_30 : decode cX8_representative 30 = .ok (.iload_n 1, 1) := by decide +kernel
theorem dX8_representative_31 : decode cX8_representative 31 = .ok (.invokestatic 119, 3) := by decide +kernel
theorem dX8_representative_34 : decode cX8_representative 34 = .ok (.ireturn, 1) := by decide +kernel
theorem dX8_search_0 : decode cX8_search 0 = .ok (.aload_n 0, 1) := by decide +kernel
theorem dX8_search_1 : decode cX8_search 1 = .ok (.getfield 47, 3) := by decide +kernel
theorem dX8_search_4 : decode cX8_search 4 = .ok (.aload_n 0, 1) := by decide +kernel
theorem dX8_search_5 : decode cX8_search 5 = .ok (.getfield 12, 3) := by decide +kernel
theorem dX8_search_8 : decode cX8_search 8 = .ok (.iload_n 1, 1) := by decide +kernel
theorem dX8_search_9 : decode cX8_search 9 = .ok (.iload_n 2, 1) := by decide +kernel
theorem dX8_search_10 : decode cX8_search 10 = .ok (.invokevirtual 228, 3) := by decide +kernel
theorem dX8_search_13 : decode cX8_search 13 = .ok (.aload_n 0, 1) := by decide +kernel
theorem dX8_search_14 : decode cX8_search 14 = .ok (.getfield 47, 3) := by decide +kernel
theorem dX8_search_17 : decode cX8_search 17 = .ok (.getfield 232, 3) := by decide +kernel
theorem dX8_search_20 : decode cX8_search 20 = .ok (.ireturn, 1) := by decide +kernel
theorem dX8_found_0 : decode cX8_found 0 = .ok (.iload_n 1, 1) := by decide +kernel
theorem dX8_found_1 : decode cX8_found 1 = .ok (.ifCond .lt 9, 3) := by decide +kernel
theorem dX8_found_4 : decode cX8_found 4 = .ok (.iload_n 1, 1) := by decide +kernel
theorem dX8_found_5 : decode cX8_found 5 = .ok (.bipush 7, 2) := by decide +kernel
theorem dX8_found_7 : decode cX8_found 7 = .ok (.if_icmp .lt 13, 3) := by decide +kernel
theorem dX8_found_10 : decode cX8_found 10 = .ok (.new 62, 3) := by decide +kernel
theorem dX8_found_13 : decode cX8_found 13 = .ok (.dup, 1) := by decide +kernel
theorem dX8_found_14 : decode cX8_found 14 = .ok (.ldc 235, 2) := by decide +kernel
theorem dX8_found_16 : decode cX8_found 16 = .ok (.invokespecial 66, 3) := by decide +kernel
theorem dX8_found_19 : decode cX8_found 19 = .ok (.athrow, 1) := by decide +kernel
theorem dX8_found_20 : decode cX8_found 20 = .ok (.aload_n 0, 1) := by decide +kernel
theorem dX8_found_21 : decode cX8_found 21 = .ok (.getfield 47, 3) := by decide +kernel
theorem dX8_found_24 : decode cX8_found 24 = .ok (.iload_n 1, 1) := by decide +kernel
theorem dX8_found_25 : decode cX8_found 25 = .ok (.invokevirtual 237, 3) := by decide +kernel
theorem dX8_found_28 : decode cX8_found 28 = .ok (.ireturn, 1) := by decide +kernel
theorem dX8_nodes_0 : decode cX8_nodes 0 = .ok (.iload_n 1, 1) := by decide +kernel
theorem dX8_nodes_1 : decode cX8_nodes 1 = .ok (.ifCond .lt 9, 3) := by decide +kernel
theorem dX8_nodes_4 : decode cX8_nodes 4 = .ok (.iload_n 1, 1) := by decide +kernel
theorem dX8_nodes_5 : decode cX8_nodes 5 = .ok (.bipush 6, 2) := by decide +kernel
theorem dX8_nodes_7 : decode cX8_nodes 7 = .ok (.if_icmp .le 13, 3) := by decide +kernel
theorem dX8_nodes_10 : decode cX8_nodes 10 = .ok (.new 62, 3) := by decide +kernel
theorem dX8_nodes_13 : decode cX8_nodes 13 = .ok (.dup, 1) := by decide +kernel
theorem dX8_nodes_14 : decode cX8_nodes 14 = .ok (.ldc 240, 2) := by decide +kernel
theorem dX8_nodes_16 : decode cX8_nodes 16 = .ok (.invokespecial 66, 3) := by decide +kernel
theorem dX8_nodes_19 : decode cX8_nodes 19 = .ok (.athrow, 1) := by decide +kernel
theorem dX8_nodes_20 : decode cX8_nodes 20 = .ok (.aload_n 0, 1) := by decide +kernel
theorem dX8_nodes_21 : decode cX8_nodes 21 = .ok (.getfield 47, 3) := by decide +kernel
theorem dX8_nodes_24 : decode cX8_nodes 24 = .ok (.getfield 242, 3) := by decide +kernel
theorem dX8_nodes_27 : decode cX8_nodes 27 = .ok (.ifCond .eq 17, 3) := by decide +kernel
theorem dX8_nodes_30 : decode cX8_nodes 30 = .ok (.aload_n 0, 1) := by decide +kernel
theorem dX8_nodes_31 : decode cX8_nodes 31 = .ok (.getfield 47, 3) := by decide +kernel
theorem dX8_nodes_34 : decode cX8_nodes 34 = .ok (.getfield 246, 3) := by decide +kernel
theorem dX8_nodes_37 : decode cX8_nodes 37 = .ok (.iload_n 1, 1) := by decide +kernel
theorem dX8_nodes_38 : decode cX8_nodes 38 = .ok (.invokestatic 119, 3) := by decide +kernel
theorem dX8_nodes_41 : decode cX8_nodes 41 = .ok (.goto 4, 3) := by decide +kernel
theorem dX8_nodes_44 : decode cX8_nodes 44 = .ok (.iconst (-1), 1) := by decide +kernel
theorem dX8_nodes_45 : decode cX8_nodes 45 = .ok (.ireturn, 1) := by decide +kernel
theorem dX8_type_0 : decode cX8_type 0 = .ok (.iload_n 1, 1) := by decide +kernel
theorem dX8_type_1 : decode cX8_type 1 = .ok (.bipush 32, 2) := by decide +kernel
theorem dX8_type_3 : decode cX8_type 3 = .ok (.if_icmp .lt 9, 3) := by decide +kernel
theorem dX8_type_6 : decode cX8_type 6 = .ok (.iload_n 1, 1) := by decide +kernel
theorem dX8_type_7 : decode cX8_type 7 = .ok (.bipush 126, 2) := by decide +kernel
theorem dX8_type_9 : decode cX8_type 9 = .ok (.if_icmp .le 13, 3) := by decide +kernel
theorem dX8_type_12 : decode cX8_type 12 = .ok (.new 62, 3) := by decide +kernel
theorem dX8_type_15 : decode cX8_type 15 = .ok (.dup, 1) := by decide +kernel
theorem dX8_type_16 : decode cX8_type 16 = .ok (.ldc 249, 2) := by decide +kernel
theorem dX8_type_18 : decode cX8_type 18 = .ok (.invokespecial 66, 3) := by decide +kernel
theorem dX8_type_21 : decode cX8_type 21 = .ok (.athrow, 1) := by decide +kernel
theorem dX8_type_22 : decode cX8_type 22 = .ok (.aload_n 0, 1) := by decide +kernel
theorem dX8_type_23 : decode cX8_type 23 = .ok (.getfield 54, 3) := by decide +kernel
theorem dX8_type_26 : decode cX8_type 26 = .ok (.getfield 251, 3) := by decide +kernel
theorem dX8_type_29 : decode cX8_type 29 = .ok (.bipush 120, 2) := by decide +kernel
theorem dX8_type_31 : decode cX8_type 31 = .ok (.if_icmp .lt 13, 3) := by decide +kernel
theorem dX8_type_34 : decode cX8_type 34 = .ok (.new 193, 3) := by decide +kernel
theorem dX8_type_37 : decode cX8_type 37 = .ok (.dup, 1) := by decide +kernel
theorem dX8_type_38 : decode cX8_type 38 = .ok (.ldc 254, 2) := by decide +kernel
theorem dX8_type_40 : decode cX8_type 40 = .ok (.invokespecial 197, 3) := by decide +kernel
theorem dX8_type_43 : decode cX8_type 43 = .ok (.athrow, 1) := by decide +kernel
theorem dX8_type_44 : decode cX8_type 44 = .ok (.aload_n 0, 1) := by decide +kernel
theorem dX8_type_45 : decode cX8_type 45 = .ok (.getfield 54, 3) := by decide +kernel
theorem dX8_type_48 : decode cX8_type 48 = .ok (.iload_n 1, 1) := by decide +kernel
theorem dX8_type_49 : decode cX8_type 49 = .ok (.i2c, 1) := by decide +kernel
theorem dX8_type_50 : decode cX8_type 50 = .ok (.invokevirtual 256, 3) := by decide +kernel
theorem dX8_type_53 : decode cX8_type 53 = .ok (.aload_n 0, 1) := by decide +kernel
theorem dX8_type_54 : decode cX8_type 54 = .ok (.getfield 54, 3) := by decide +kernel
theorem dX8_type_57 : decode cX8_type 57 = .ok (.getfield 251, 3) := by decide +kernel
theorem dX8_type_60 : decode cX8_type 60 = .ok (.ireturn, 1) := by decide +kernel
theorem dX8_clearText_0 : decode cX8_clearText 0 = .ok (.aload_n 0, 1) := by decide +kernel
theorem dX8_clearText_1 : decode cX8_clearText 1 = .ok (.getfield 54, 3) := by decide +kernel
theorem dX8_clearText_4 : decode cX8_clearText 4 = .ok (.getfield 251, 3) := by decide +kernel
theorem dX8_clearText_7 : decode cX8_clearText 7 = .ok (.istore_n 1, 1) := by decide +kernel
theorem dX8_clearText_8 : decode cX8_clearText 8 = .ok (.aload_n 0, 1) := by decide +kernel
theorem dX8_clearText_9 : decode cX8_clearText 9 = .ok (.getfield 54, 3) := by decide +kernel
theorem dX8_clearText_12 : decode cX8_clearText 12 = .ok (.iconst 0, 1) := by decide +kernel
theorem dX8_clearText_13 : decode cX8_clearText 13 = .ok (.putfield 251, 3) := by decide +kernel
theorem dX8_clearText_16 : decode cX8_clearText 16 = .ok (.iload_n 1, 1) := by decide +kernel
theorem dX8_clearText_17 : decode cX8_clearText 17 = .ok (.ireturn, 1) := by decide +kernel
theorem dX8_fault_0 : decode cX8_fault 0 = .ok (.aload_n 0, 1) := by decide +kernel
theorem dX8_fault_1 : decode cX8_fault 1 = .ok (.getfield 54, 3) := by decide +kernel
theorem dX8_fault_4 : decode cX8_fault 4 = .ok (.invokevirtual 260, 3) := by decide +kernel
theorem dX8_fault_7 : decode cX8_fault 7 = .ok (.ireturn, 1) := by decide +kernel
theorem dX8_run_0 : decode cX8_run 0 = .ok (.aload_n 0, 1) := by decide +kernel
theorem dX8_run_1 : decode cX8_run 1 = .ok (.getfield 54, 3) := by decide +kernel
theorem dX8_run_4 : decode cX8_run 4 = .ok (.invokevirtual 260, 3) := by decide +kernel
theorem dX8_run_7 : decode cX8_run 7 = .ok (.iconst (-1), 1) := by decide +kernel
theorem dX8_run_8 : decode cX8_run 8 = .ok (.if_icmp .eq 14, 3) := by decide +kernel
theorem dX8_run_11 : decode cX8_run 11 = .ok (.new 62, 3) := by decide +kernel
theorem dX8_run_14 : decode cX8_run 14 = .ok (.dup, 1) := by decide +kernel
theorem dX8_run_15 : decode cX8_run 15 = .ok (.ldc_w 263, 3) := by decide +kernel
theorem dX8_run_18 : decode cX8_run 18 = .ok (.invokespecial 66, 3) := by decide +kernel
theorem dX8_run_21 : decode cX8_run 21 = .ok (.athrow, 1) := by decide +kernel
theorem dX8_run_22 : decode cX8_run 22 = .ok (.aload_n 0, 1) := by decide +kernel
theorem dX8_run_23 : decode cX8_run 23 = .ok (.getfield 19, 3) := by decide +kernel
theorem dX8_run_26 : decode cX8_run 26 = .ok (.aload_n 0, 1) := by decide +kernel
theorem dX8_run_27 : decode cX8_run 27 = .ok (.getfield 12, 3) := by decide +kernel
theorem dX8_run_30 : decode cX8_run 30 = .ok (.invokevirtual 73, 3) := by decide +kernel
theorem dX8_run_33 : decode cX8_run 33 = .ok (.iconst 0, 1) := by decide +kernel
theorem dX8_run_34 : decode cX8_run 34 = .ok (.istore_n 1, 1) := by decide +kernel
theorem dX8_run_35 : decode cX8_run 35 = .ok (.aload_n 0, 1) := by decide +kernel
theorem dX8_run_36 : decode cX8_run 36 = .ok (.getfield 54, 3) := by decide +kernel
theorem dX8_run_39 : decode cX8_run 39 = .ok (.invokevirtual 265, 3) := by decide +kernel
theorem dX8_run_42 : decode cX8_run 42 = .ok (.iconst 0, 1) := by decide +kernel
theorem dX8_run_43 : decode cX8_run 43 = .ok (.istore_n 2, 1) := by decide +kernel
theorem dX8_run_44 : decode cX8_run 44 = .ok (.iload_n 2, 1) := by decide +kernel
theorem dX8_run_45 : decode cX8_run 45 = .ok (.bipush 120, 2) := by decide +kernel
theorem dX8_run_47 : decode cX8_run 47 = .ok (.if_icmp .ge 94, 3) := by decide +kernel
theorem dX8_run_50 : decode cX8_run 50 = .ok (.aload_n 0, 1) := by decide +kernel
theorem dX8_run_51 : decode cX8_run 51 = .ok (.getfield 54, 3) := by decide +kernel
theorem dX8_run_54 : decode cX8_run 54 = .ok (.invokevirtual 268, 3) := by decide +kernel
theorem dX8_run_57 : decode cX8_run 57 = .ok (.ifCond .eq 84, 3) := by decide +kernel
theorem dX8_run_60 : decode cX8_run 60 = .ok (.aload_n 0, 1) := by decide +kernel
theorem dX8_run_61 : decode cX8_run 61 = .ok (.getfield 54, 3) := by decide +kernel
theorem dX8_run_64 : decode cX8_run 64 = .ok (.getfield 272, 3) := by decide +kernel
theorem dX8_run_67 : decode cX8_run 67 = .ok (.aload_n 0, 1) := by decide +kernel
theorem dX8_run_68 : decode cX8_run 68 = .ok (.getfield 12, 3) := by decide +kernel
theorem dX8_run_71 : decode cX8_run 71 = .ok (.getfield 69, 3) := by decide +kernel
theorem dX8_run_74 : decode cX8_run 74 = .ok (.if_icmp .ge 61, 3) := by decide +kernel
theorem dX8_run_77 : decode cX8_run 77 = .ok (.aload_n 0, 1) := by decide +kernel
theorem dX8_run_78 : decode cX8_run 78 = .ok (.getfield 54, 3) := by decide +kernel
theorem dX8_run_81 : decode cX8_run 81 = .ok (.getfield 275, 3) := by decide +kernel
theorem dX8_run_84 : decode cX8_run 84 = .ok (.aload_n 0, 1) := by decide +kernel
theorem dX8_run_85 : decode cX8_run 85 = .ok (.getfield 12, 3) := by decide +kernel
theorem dX8_run_88 : decode cX8_run 88 = .ok (.getfield 69, 3) := by decide +kernel
theorem dX8_run_91 : decode cX8_run 91 = .ok (.if_icmp .ge 44, 3) := by decide +kernel
theorem dX8_run_94 : decode cX8_run 94 = .ok (.aload_n 0, 1) := by decide +kernel
theorem dX8_run_95 : decode cX8_run 95 = .ok (.getfield 12, 3) := by decide +kernel
theorem dX8_run_98 : decode cX8_run 98 = .ok (.aload_n 0, 1) := by decide +kernel
theorem dX8_run_99 : decode cX8_run 99 = .ok (.getfield 54, 3) := by decide +kernel
theorem dX8_run_102 : decode cX8_run 102 = .ok (.getfield 278, 3) := by decide +kernel
theorem dX8_run_105 : decode cX8_run 105 = .ok (.invokevirtual 90, 3) := by decide +kernel
theorem dX8_run_108 : decode cX8_run 108 = .ok (.aload_n 0, 1) := by decide +kernel
theorem dX8_run_109 : decode cX8_run 109 = .ok (.getfield 54, 3) := by decide +kernel
theorem dX8_run_112 : decode cX8_run 112 = .ok (.getfield 272, 3) := by decide +kernel
theorem dX8_run_115 : decode cX8_run 115 = .ok (.aload_n 0, 1) := by decide +kernel
theorem dX8_run_116 : decode cX8_run 116 = .ok (.getfield 54, 3) := by decide +kernel
theorem dX8_run_119 : decode cX8_run 119 = .ok (.getfield 275, 3) := by decide +kernel
theorem dX8_run_122 : decode cX8_run 122 = .ok (.aload_n 0, 1) := by decide +kernel
theorem dX8_run_123 : decode cX8_run 123 = .ok (.getfield 54, 3) := by decide +kernel
theorem dX8_run_126 : decode cX8_run 126 = .ok (.getfield 281, 3) := by decide +kernel
theorem dX8_run_129 : decode cX8_run 129 = .ok (.invokestatic 98, 3) := by decide +kernel
theorem dX8_run_132 : decode cX8_run 132 = .ok (.iinc 1 1, 3) := by decide +kernel
theorem dX8_run_135 : decode cX8_run 135 = .ok (.iinc 2 1, 3) := by decide +kernel
theorem dX8_run_138 : decode cX8_run 138 = .ok (.goto (-94), 3) := by decide +kernel
theorem dX8_run_141 : decode cX8_run 141 = .ok (.iload_n 1, 1) := by decide +kernel
theorem dX8_run_142 : decode cX8_run 142 = .ok (.ireturn, 1) := by decide +kernel
theorem dX8_undo_0 : decode cX8_undo 0 = .ok (.aload_n 0, 1) := by decide +kernel
theorem dX8_undo_1 : decode cX8_undo 1 = .ok (.getfield 19, 3) := by decide +kernel
theorem dX8_undo_4 : decode cX8_undo 4 = .ok (.getfield 284, 3) := by decide +kernel
theorem dX8_undo_7 : decode cX8_undo 7 = .ok (.ifCond .ne 14, 3) := by decide +kernel
theorem dX8_undo_10 : decode cX8_undo 10 = .ok (.new 193, 3) := by decide +kernel
theorem dX8_undo_13 : decode cX8_undo 13 = .ok (.dup, 1) := by decide +kernel
theorem dX8_undo_14 : decode cX8_undo 14 = .ok (.ldc_w 285, 3) := by decide +kernel
theorem dX8_undo_17 : decode cX8_undo 17 = .ok (.invokespecial 197, 3) := by decide +kernel
theorem dX8_undo_20 : decode cX8_undo 20 = .ok (.athrow, 1) := by decide +kernel
theorem dX8_undo_21 : decode cX8_undo 21 = .ok (.aload_n 0, 1) := by decide +kernel
theorem dX8_undo_22 : decode cX8_undo 22 = .ok (.getfield 19, 3) := by decide +kernel
theorem dX8_undo_25 : decode cX8_undo 25 = .ok (.aload_n 0, 1) := by decide +kernel
theorem dX8_undo_26 : decode cX8_undo 26 = .ok (.getfield 12, 3) := by decide +kernel
theorem dX8_undo_29 : decode cX8_undo 29 = .ok (.invokevirtual 287, 3) := by decide +kernel
theorem dX8_undo_32 : decode cX8_undo 32 = .ok (.aload_n 0, 1) := by decide +kernel
theorem dX8_undo_33 : decode cX8_undo 33 = .ok (.getfield 19, 3) := by decide +kernel
theorem dX8_undo_36 : decode cX8_undo 36 = .ok (.getfield 284, 3) := by decide +kernel
theorem dX8_undo_39 : decode cX8_undo 39 = .ok (.ireturn, 1) := by decide +kernel
theorem dX8_checksum_0 : decode cX8_checksum 0 = .ok (.ldc2_w 290, 3) := by decide +kernel
theorem dX8_checksum_3 : decode cX8_checksum 3 = .ok (.aload_n 0, 1) := by decide +kernel
theorem dX8_checksum_4 : decode cX8_checksum 4 = .ok (.getfield 12, 3) := by decide +kernel
theorem dX8_checksum_7 : decode cX8_checksum 7 = .ok (.getfield 69, 3) := by decide +kernel
theorem dX8_checksum_10 : decode cX8_checksum 10 = .ok (.invokestatic 292, 3) := by decide +kernel
theorem dX8_checksum_13 : decode cX8_checksum 13 = .ok (.lstore_n 1, 1) := by decide +kernel
theorem dX8_checksum_14 : decode cX8_checksum 14 = .ok (.aload_n 0, 1) := by decide +kernel
theorem dX8_checksum_15 : decode cX8_checksum 15 = .ok (.lload_n 1, 1) := by decide +kernel
theorem dX8_checksum_16 : decode cX8_checksum 16 = .ok (.aload_n 0, 1) := by decide +kernel
theorem dX8_checksum_17 : decode cX8_checksum 17 = .ok (.getfield 12, 3) := by decide +kernel
theorem dX8_checksum_20 : decode cX8_checksum 20 = .ok (.getfield 296, 3) := by decide +kernel
theorem dX8_checksum_23 : decode cX8_checksum 23 = .ok (.invokevirtual 299, 3) := by decide +kernel
theorem dX8_checksum_26 : decode cX8_checksum 26 = .ok (.lstore_n 1, 1) := by decide +kernel
theorem dX8_checksum_27 : decode cX8_checksum 27 = .ok (.aload_n 0, 1) := by decide +kernel
theorem dX8_checksum_28 : decode cX8_checksum 28 = .ok (.lload_n 1, 1) := by decide +kernel
theorem dX8_checksum_29 : decode cX8_checksum 29 = .ok (.aload_n 0, 1) := by decide +kernel
theorem dX8_checksum_30 : decode cX8_checksum 30 = .ok (.getfield 12, 3) := by decide +kernel
theorem dX8_checksum_33 : decode cX8_checksum 33 = .ok (.getfield 303, 3) := by decide +kernel
theorem dX8_checksum_36 : decode cX8_checksum 36 = .ok (.invokevirtual 299, 3) := by decide +kernel
theorem dX8_checksum_39 : decode cX8_checksum 39 = .ok (.lstore_n 1, 1) := by decide +kernel
theorem dX8_checksum_40 : decode cX8_checksum 40 = .ok (.aload_n 0, 1) := by decide +kernel
theorem dX8_checksum_41 : decode cX8_checksum 41 = .ok (.lload_n 1, 1) := by decide +kernel
theorem dX8_checksum_42 : decode cX8_checksum 42 = .ok (.aload_n 0, 1) := by decide +kernel
theorem dX8_checksum_43 : decode cX8_checksum 43 = .ok (.getfield 12, 3) := by decide +kernel
theorem dX8_checksum_46 : decode cX8_checksum 46 = .ok (.getfield 306, 3) := by decide +kernel
theorem dX8_checksum_49 : decode cX8_checksum 49 = .ok (.invokevirtual 299, 3) := by decide +kernel
theorem dX8_checksum_52 : decode cX8_checksum 52 = .ok (.lstore_n 1, 1) := by decide +kernel
theorem dX8_checksum_53 : decode cX8_checksum 53 = .ok (.lload_n 1, 1) := by decide +kernel
theorem dX8_checksum_54 : decode cX8_checksum 54 = .ok (.aload_n 0, 1) := by decide +kernel
theorem dX8_checksum_55 : decode cX8_checksum 55 = .ok (.getfield 12, 3) := by decide +kernel
theorem dX8_checksum_58 : decode cX8_checksum 58 = .ok (.getfield 116, 3) := by decide +kernel
theorem dX8_checksum_61 : decode cX8_checksum 61 = .ok (.aload_n 0, 1) := by decide +kernel
theorem dX8_checksum_62 : decode cX8_checksum 62 = .ok (.getfield 12, 3) := by decide +kernel
theorem dX8_checksum_65 : decode cX8_checksum 65 = .ok (.getfield 69, 3) := by decide +kernel
theorem dX8_checksum_68 : decode cX8_checksum 68 = .ok (.invokestatic 309, 3) := by decide +kernel
theorem dX8_checksum_71 : decode cX8_checksum 71 = .ok (.lstore_n 1, 1) := by decide +kernel
theorem dX8_checksum_72 : decode cX8_checksum 72 = .ok (.lload_n 1, 1) := by decide +kernel
theorem dX8_checksum_73 : decode cX8_checksum 73 = .ok (.aload_n 0, 1) := by decide +kernel
theorem dX8_checksum_74 : decode cX8_checksum 74 = .ok (.getfield 12, 3) := by decide +kernel
theorem dX8_checksum_77 : decode cX8_checksum 77 = .ok (.getfield 184, 3) := by decide +kernel
theorem dX8_checksum_80 : decode cX8_checksum 80 = .ok (.aload_n 0, 1) := by decide +kernel
theorem dX8_checksum_81 : decode cX8_checksum 81 = .ok (.getfield 12, 3) := by decide +kernel
theorem dX8_checksum_84 : decode cX8_checksum 84 = .ok (.getfield 69, 3) := by decide +kernel
theorem dX8_checksum_87 : decode cX8_checksum 87 = .ok (.invokestatic 309, 3) := by decide +kernel
theorem dX8_checksum_90 : decode cX8_checksum 90 = .ok (.lstore_n 1, 1) := by decide +kernel
theorem dX8_checksum_91 : decode cX8_checksum 91 = .ok (.lload_n 1, 1) := by decide +kernel
theorem dX8_checksum_92 : decode cX8_checksum 92 = .ok (.aload_n 0, 1) := by decide +kernel
theorem dX8_checksum_93 : decode cX8_checksum 93 = .ok (.getfield 12, 3) := by decide +kernel
theorem dX8_checksum_96 : decode cX8_checksum 96 = .ok (.aload_n 0, 1) := by decide +kernel
theorem dX8_checksum_97 : decode cX8_checksum 97 = .ok (.getfield 12, 3) := by decide +kernel
theorem dX8_checksum_100 : decode cX8_checksum 100 = .ok (.getfield 116, 3) := by decide +kernel
theorem dX8_checksum_103 : decode cX8_checksum 103 = .ok (.invokevirtual 123, 3) := by decide +kernel
theorem dX8_checksum_106 : decode cX8_checksum 106 = .ok (.invokestatic 292, 3) := by decide +kernel
theorem dX8_checksum_109 : decode cX8_checksum 109 = .ok (.lstore_n 1, 1) := by decide +kernel
theorem dX8_checksum_110 : decode cX8_checksum 110 = .ok (.aload_n 0, 1) := by decide +kernel
theorem dX8_checksum_111 : decode cX8_checksum 111 = .ok (.getfield 33, 3) := by decide +kernel
theorem dX8_checksum_114 : decode cX8_checksum 114 = .ok (.aload_n 0, 1) := by decide +kernel
theorem dX8_checksum_115 : decode cX8_checksum 115 = .ok (.getfield 12, 3) := by decide +kernel
theorem dX8_checksum_118 : decode cX8_checksum 118 = .ok (.aload_n 0, 1) := by decide +kernel
theorem dX8_checksum_119 : decode cX8_checksum 119 = .ok (.getfield 12, 3) := by decide +kernel
theorem dX8_checksum_122 : decode cX8_checksum 122 = .ok (.getfield 184, 3) := by decide +kernel
theorem dX8_checksum_125 : decode cX8_checksum 125 = .ok (.invokevirtual 201, 3) := by decide +kernel
theorem dX8_checksum_128 : decode cX8_checksum 128 = .ok (.lload_n 1, 1) := by decide +kernel
theorem dX8_checksum_129 : decode cX8_checksum 129 = .ok (.aload_n 0, 1) := by decide +kernel
theorem dX8_checksum_130 : decode cX8_checksum 130 = .ok (.getfield 33, 3) := by decide +kernel
theorem dX8_checksum_133 : decode cX8_checksum 133 = .ok (.invokevirtual 207, 3) := by decide +kernel
theorem dX8_checksum_136 : decode cX8_checksum 136 = .ok (.invokestatic 292, 3) := by decide +kernel
theorem dX8_checksum_139 : decode cX8_checksum 139 = .ok (.lstore_n 1, 1) := by decide +kernel
theorem dX8_checksum_140 : decode cX8_checksum 140 = .ok (.lload_n 1, 1) := by decide +kernel
theorem dX8_checksum_141 : decode cX8_checksum 141 = .ok (.aload_n 0, 1) := by decide +kernel
theorem dX8_checksum_142 : decode cX8_checksum 142 = .ok (.getfield 33, 3) := by decide +kernel
theorem dX8_checksum_145 : decode cX8_checksum 145 = .ok (.invokevirtual 221, 3) := by decide +kernel
theorem dX8_checksum_148 : decode cX8_checksum 148 = .ok (.invokestatic 292, 3) := by decide +kernel
theorem dX8_checksum_151 : decode cX8_checksum 151 = .ok (.lstore_n 1, 1) := by decide +kernel
theorem dX8_checksum_152 : decode cX8_checksum 152 = .ok (.aload_n 0, 1) := by decide +kernel
theorem dX8_checksum_153 : decode cX8_checksum 153 = .ok (.getfield 40, 3) := by decide +kernel
theorem dX8_checksum_156 : decode cX8_checksum 156 = .ok (.aload_n 0, 1) := by decide +kernel
theorem dX8_checksum_157 : decode cX8_checksum 157 = .ok (.getfield 12, 3) := by decide +kernel
theorem dX8_checksum_160 : decode cX8_checksum 160 = .ok (.aload_n 0, 1) := by decide +kernel
theorem dX8_checksum_161 : decode cX8_checksum 161 = .ok (.getfield 12, 3) := by decide +kernel
theorem dX8_checksum_164 : decode cX8_checksum 164 = .ok (.getfield 184, 3) := by decide +kernel
theorem dX8_checksum_167 : decode cX8_checksum 167 = .ok (.invokevirtual 224, 3) := by decide +kernel
theorem dX8_checksum_170 : decode cX8_checksum 170 = .ok (.lload_n 1, 1) := by decide +kernel
theorem dX8_checksum_171 : decode cX8_checksum 171 = .ok (.aload_n 0, 1) := by decide +kernel
theorem dX8_checksum_172 : decode cX8_checksum 172 = .ok (.getfield 40, 3) := by decide +kernel
theorem dX8_checksum_175 : decode cX8_checksum 175 = .ok (.getfield 225, 3) := by decide +kernel
theorem dX8_checksum_178 : decode cX8_checksum 178 = .ok (.invokestatic 292, 3) := by decide +kernel
theorem dX8_checksum_181 : decode cX8_checksum 181 = .ok (.lstore_n 1, 1) := by decide +kernel
theorem dX8_checksum_182 : decode cX8_checksum 182 = .ok (.iconst 0, 1) := by decide +kernel
theorem dX8_checksum_183 : decode cX8_checksum 183 = .ok (.istore_n 3, 1) := by decide +kernel
theorem dX8_checksum_184 : decode cX8_checksum 184 = .ok (.iload_n 3, 1) := by decide +kernel
theorem dX8_checksum_185 : decode cX8_checksum 185 = .ok (.bipush 7, 2) := by decide +kernel
theorem dX8_checksum_187 : decode cX8_checksum 187 = .ok (.if_icmp .ge 22, 3) := by decide +kernel
theorem dX8_checksum_190 : decode cX8_checksum 190 = .ok (.lload_n 1, 1) := by decide +kernel
theorem dX8_checksum_191 : decode cX8_checksum 191 = .ok (.aload_n 0, 1) := by decide +kernel
theorem dX8_checksum_192 : decode cX8_checksum 192 = .ok (.getfield 47, 3) := by decide +kernel
theorem dX8_checksum_195 : decode cX8_checksum 195 = .ok (.iload_n 3, 1) := by decide +kernel
theorem dX8_checksum_196 : decode cX8_checksum 196 = .ok (.invokevirtual 237, 3) := by decide +kernel
theorem dX8_checksum_199 : decode cX8_checksum 199 = .ok (.invokestatic 292, 3) := by decide +kernel
theorem dX8_checksum_202 : decode cX8_checksum 202 = .ok (.lstore_n 1, 1) := by decide +kernel
theorem dX8_checksum_203 : decode cX8_checksum 203 = .ok (.iinc 3 1, 3) := by decide +kernel
theorem dX8_checksum_206 : decode cX8_checksum 206 = .ok (.goto (-22), 3) := by decide +kernel
theorem dX8_checksum_209 : decode cX8_checksum 209 = .ok (.lload_n 1, 1) := by decide +kernel
theorem dX8_checksum_210 : decode cX8_checksum 210 = .ok (.aload_n 0, 1) := by decide +kernel
theorem dX8_checksum_211 : decode cX8_checksum 211 = .ok (.getfield 54, 3) := by decide +kernel
theorem dX8_checksum_214 : decode cX8_checksum 214 = .ok (.getfield 251, 3) := by decide +kernel
theorem dX8_checksum_217 : decode cX8_checksum 217 = .ok (.invokestatic 292, 3) := by decide +kernel
theorem dX8_checksum_220 : decode cX8_checksum 220 = .ok (.lstore_n 1, 1) := by decide +kernel
theorem dX8_checksum_221 : decode cX8_checksum 221 = .ok (.lload_n 1, 1) := by decide +kernel
theorem dX8_checksum_222 : decode cX8_checksum 222 = .ok (.aload_n 0, 1) := by decide +kernel
theorem dX8_checksum_223 : decode cX8_checksum 223 = .ok (.getfield 19, 3) := by decide +kernel
theorem dX8_checksum_226 : decode cX8_checksum 226 = .ok (.getfield 284, 3) := by decide +kernel
theorem dX8_checksum_229 : decode cX8_checksum 229 = .ok (.invokestatic 292, 3) := by decide +kernel
theorem dX8_checksum_232 : decode cX8_checksum 232 = .ok (.lreturn, 1) := by decide +kernel
theorem dX8_mixTable_0 : decode cX8_mixTable 0 = .ok (.lload_n 1, 1) := by decide +kernel
theorem dX8_mixTable_1 : decode cX8_mixTable 1 = .ok (.lstore 4, 2) := by decide +kernel
theorem dX8_mixTable_3 : decode cX8_mixTable 3 = .ok (.iconst 0, 1) := by decide +kernel
theorem dX8_mixTable_4 : decode cX8_mixTable 4 = .ok (.istore 6, 2) := by decide +kernel
theorem dX8_mixTable_6 : decode cX8_mixTable 6 = .ok (.iload 6, 2) := by decide +kernel
theorem dX8_mixTable_8 : decode cX8_mixTable 8 = .ok (.aload_n 0, 1) := by decide +kernel
theorem dX8_mixTable_9 : decode cX8_mixTable 9 = .ok (.getfield 12, 3) := by decide +kernel
theorem dX8_mixTable_12 : decode cX8_mixTable 12 = .ok (.getfield 69, 3) := by decide +kernel
theorem dX8_mixTable_15 : decode cX8_mixTable 15 = .ok (.if_icmp .ge 45, 3) := by decide +kernel
theorem dX8_mixTable_18 : decode cX8_mixTable 18 = .ok (.iconst 0, 1) := by decide +kernel
theorem dX8_mixTable_19 : decode cX8_mixTable 19 = .ok (.istore 7, 2) := by decide +kernel
theorem dX8_mixTable_21 : decode cX8_mixTable 21 = .ok (.iload 7, 2) := by decide +kernel
theorem dX8_mixTable_23 : decode cX8_mixTable 23 = .ok (.aload_n 0, 1) := by decide +kernel
theorem dX8_mixTable_24 : decode cX8_mixTable 24 = .ok (.getfield 12, 3) := by decide +kernel
theorem dX8_mixTable_27 : decode cX8_mixTable 27 = .ok (.getfield 69, 3) := by decide +kernel
theorem dX8_mixTable_30 : decode cX8_mixTable 30 = .ok (.if_icmp .ge 24, 3) := by decide +kernel
theorem dX8_mixTable_33 : decode cX8_mixTable 33 = .ok (.lload 4, 2) := by decide +kernel
theorem dX8_mixTable_35 : decode cX8_mixTable 35 = .ok (.aload_n 3, 1) := by decide +kernel
theorem dX8_mixTable_36 : decode cX8_mixTable 36 = .ok (.iload 6, 2) := by decide +kernel
theorem dX8_mixTable_38 : decode cX8_mixTable 38 = .ok (.iload 7, 2) := by decide +kernel
theorem dX8_mixTable_40 : decode cX8_mixTable 40 = .ok (.invokestatic 94, 3) := by decide +kernel
theorem dX8_mixTable_43 : decode cX8_mixTable 43 = .ok (.invokestatic 292, 3) := by decide +kernel
theorem dX8_mixTable_46 : decode cX8_mixTable 46 = .ok (.lstore 4, 2) := by decide +kernel
theorem dX8_mixTable_48 : decode cX8_mixTable 48 = .ok (.iinc 7 1, 3) := by decide +kernel
theorem dX8_mixTable_51 : decode cX8_mixTable 51 = .ok (.goto (-30), 3) := by decide +kernel
theorem dX8_mixTable_54 : decode cX8_mixTable 54 = .ok (.iinc 6 1, 3) := by decide +kernel
theorem dX8_mixTable_57 : decode cX8_mixTable 57 = .ok (.goto (-51), 3) := by decide +kernel
theorem dX8_mixTable_60 : decode cX8_mixTable 60 = .ok (.lload 4, 2) := by decide +kernel
theorem dX8_mixTable_62 : decode cX8_mixTable 62 = .ok (.lreturn, 1) := by decide +kernel
theorem dX8_mixRow_0 : decode cX8_mixRow 0 = .ok (.lload_n 0, 1) := by decide +kernel
theorem dX8_mixRow_1 : decode cX8_mixRow 1 = .ok (.lstore 4, 2) := by decide +kernel
theorem dX8_mixRow_3 : decode cX8_mixRow 3 = .ok (.iconst 0, 1) := by decide +kernel
theorem dX8_mixRow_4 : decode cX8_mixRow 4 = .ok (.istore 6, 2) := by decide +kernel
theorem dX8_mixRow_6 : decode cX8_mixRow 6 = .ok (.iload 6, 2) := by decide +kernel
theorem dX8_mixRow_8 : decode cX8_mixRow 8 = .ok (.iload_n 3, 1) := by decide +kernel
theorem dX8_mixRow_9 : decode cX8_mixRow 9 = .ok (.if_icmp .ge 22, 3) := by decide +kernel
theorem dX8_mixRow_12 : decode cX8_mixRow 12 = .ok (.lload 4, 2) := by decide +kernel
theorem dX8_mixRow_14 : decode cX8_mixRow 14 = .ok (.aload_n 2, 1) := by decide +kernel
theorem dX8_mixRow_15 : decode cX8_mixRow 15 = .ok (.iload 6, 2) := by decide +kernel
theorem dX8_mixRow_17 : decode cX8_mixRow 17 = .ok (.invokestatic 119, 3) := by decide +kernel
theorem dX8_mixRow_20 : decode cX8_mixRow 20 = .ok (.invokestatic 292, 3) := by decide +kernel
theorem dX8_mixRow_23 : decode cX8_mixRow 23 = .ok (.lstore 4, 2) := by decide +kernel
theorem dX8_mixRow_25 : decode cX8_mixRow 25 = .ok (.iinc 6 1, 3) := by decide +kernel
theorem dX8_mixRow_28 : decode cX8_mixRow 28 = .ok (.goto (-22), 3) := by decide +kernel
theorem dX8_mixRow_31 : decode cX8_mixRow 31 = .ok (.lload 4, 2) := by decide +kernel
theorem dX8_mixRow_33 : decode cX8_mixRow 33 = .ok (.lreturn, 1) := by decide +kernel
theorem dX8_mix_0 : decode cX8_mix 0 = .ok (.ldc2_w 313, 3) := by decide +kernel
theorem dX8_mix_3 : decode cX8_mix 3 = .ok (.lload_n 0, 1) := by decide +kernel
theorem dX8_mix_4 : decode cX8_mix 4 = .ok (.lmul, 1) := by decide +kernel
theorem dX8_mix_5 : decode cX8_mix 5 = .ok (.iload_n 2, 1) := by decide +kernel
theorem dX8_mix_6 : decode cX8_mix 6 = .ok (.i2l, 1) := by decide +kernel
theorem dX8_mix_7 : decode cX8_mix 7 = .ok (.ladd, 1) := by decide +kernel
theorem dX8_mix_8 : decode cX8_mix 8 = .ok (.lreturn, 1) := by decide +kernel
theorem dX8_requireIndex_0 : decode cX8_requireIndex 0 = .ok (.iload_n 1, 1) := by decide +kernel
theorem dX8_requireIndex_1 : decode cX8_requireIndex 1 = .ok (.ifCond .lt 14, 3) := by decide +kernel
theorem dX8_requireIndex_4 : decode cX8_requireIndex 4 = .ok (.iload_n 1, 1) := by decide +kernel
theorem dX8_requireIndex_5 : decode cX8_requireIndex 5 = .ok (.aload_n 0, 1) := by decide +kernel
theorem dX8_requireIndex_6 : decode cX8_requireIndex 6 = .ok (.getfield 12, 3) := by decide +kernel
theorem dX8_requireIndex_9 : decode cX8_requireIndex 9 = .ok (.getfield 69, 3) := by decide +kernel
theorem dX8_requireIndex_12 : decode cX8_requireIndex 12 = .ok (.if_icmp .lt 14, 3) := by decide +kernel
theorem dX8_requireIndex_15 : decode cX8_requireIndex 15 = .ok (.new 130, 3) := by decide +kernel
theorem dX8_requireIndex_18 : decode cX8_requireIndex 18 = .ok (.dup, 1) := by decide +kernel
theorem dX8_requireIndex_19 : decode cX8_requireIndex 19 = .ok (.ldc_w 315, 3) := by decide +kernel
theorem dX8_requireIndex_22 : decode cX8_requireIndex 22 = .ok (.invokespecial 134, 3) := by decide +kernel
theorem dX8_requireIndex_25 : decode cX8_requireIndex 25 = .ok (.athrow, 1) := by decide +kernel
theorem dX8_requireIndex_26 : decode cX8_requireIndex 26 = .ok (.return_, 1) := by decide +kernel
theorem dX8_requireFree_0 : decode cX8_requireFree 0 = .ok (.aload_n 0, 1) := by decide +kernel
theorem dX8_requireFree_1 : decode cX8_requireFree 1 = .ok (.iload_n 1, 1) := by decide +kernel
theorem dX8_requireFree_2 : decode cX8_requireFree 2 = .ok (.invokevirtual 81, 3) := by decide +kernel
theorem dX8_requireFree_5 : decode cX8_requireFree 5 = .ok (.aload_n 0, 1) := by decide +kernel
theorem dX8_requireFree_6 : decode cX8_requireFree 6 = .ok (.iload_n 2, 1) := by decide +kernel
theorem dX8_requireFree_7 : decode cX8_requireFree 7 = .ok (.invokevirtual 81, 3) := by decide +kernel
theorem dX8_requireFree_10 : decode cX8_requireFree 10 = .ok (.aload_n 0, 1) := by decide +kernel
theorem dX8_requireFree_11 : decode cX8_requireFree 11 = .ok (.getfield 12, 3) := by decide +kernel
theorem dX8_requireFree_14 : decode cX8_requireFree 14 = .ok (.getfield 184, 3) := by decide +kernel
theorem dX8_requireFree_17 : decode cX8_requireFree 17 = .ok (.iload_n 1, 1) := by decide +kernel
theorem dX8_requireFree_18 : decode cX8_requireFree 18 = .ok (.invokestatic 119, 3) := by decide +kernel
theorem dX8_requireFree_21 : decode cX8_requireFree 21 = .ok (.iconst (-1), 1) := by decide +kernel
theorem dX8_requireFree_22 : decode cX8_requireFree 22 = .ok (.if_icmp .ne 20, 3) := by decide +kernel
theorem dX8_requireFree_25 : decode cX8_requireFree 25 = .ok (.aload_n 0, 1) := by decide +kernel
theorem dX8_requireFree_26 : decode cX8_requireFree 26 = .ok (.getfield 12, 3) := by decide +kernel
theorem dX8_requireFree_29 : decode cX8_requireFree 29 = .ok (.getfield 184, 3) := by decide +kernel
theorem dX8_requireFree_32 : decode cX8_requireFree 32 = .ok (.invokestatic 317, 3) := by decide +kernel
theorem dX8_requireFree_35 : decode cX8_requireFree 35 = .ok (.iload_n 2, 1) := by decide +kernel
theorem dX8_requireFree_36 : decode cX8_requireFree 36 = .ok (.invokestatic 320, 3) := by decide +kernel
theorem dX8_requireFree_39 : decode cX8_requireFree 39 = .ok (.ifCond .eq 14, 3) := by decide +kernel
theorem dX8_requireFree_42 : decode cX8_requireFree 42 = .ok (.new 193, 3) := by decide +kernel
theorem dX8_requireFree_45 : decode cX8_requireFree 45 = .ok (.dup, 1) := by decide +kernel
theorem dX8_requireFree_46 : decode cX8_requireFree 46 = .ok (.ldc_w 324, 3) := by decide +kernel
theorem dX8_requireFree_49 : decode cX8_requireFree 49 = .ok (.invokespecial 197, 3) := by decide +kernel
theorem dX8_requireFree_52 : decode cX8_requireFree 52 = .ok (.athrow, 1) := by decide +kernel
theorem dX8_requireFree_53 : decode cX8_requireFree 53 = .ok (.return_, 1) := by decide +kernel
theorem dX8_requireTable_0 : decode cX8_requireTable 0 = .ok (.iload_n 0, 1) := by decide +kernel
theorem dX8_requireTable_1 : decode cX8_requireTable 1 = .ok (.ifCond .lt 8, 3) := by decide +kernel
theorem dX8_requireTable_4 : decode cX8_requireTable 4 = .ok (.iload_n 0, 1) := by decide +kernel
theorem dX8_requireTable_5 : decode cX8_requireTable 5 = .ok (.iconst 2, 1) := by decide +kernel
theorem dX8_requireTable_6 : decode cX8_requireTable 6 = .ok (.if_icmp .le 14, 3) := by decide +kernel
theorem dX8_requireTable_9 : decode cX8_requireTable 9 = .ok (.new 62, 3) := by decide +kernel
theorem dX8_requireTable_12 : decode cX8_requireTable 12 = .ok (.dup, 1) := by decide +kernel
theorem dX8_requireTable_13 : decode cX8_requireTable 13 = .ok (.ldc_w 326, 3) := by decide +kernel
theorem dX8_requireTable_16 : decode cX8_requireTable 16 = .ok (.invokespecial 66, 3) := by decide +kernel
theorem dX8_requireTable_19 : decode cX8_requireTable 19 = .ok (.athrow, 1) := by decide +kernel
theorem dX8_requireTable_20 : decode cX8_requireTable 20 = .ok (.return_, 1) := by decide +kernel
theorem dX8_requireValue_0 : decode cX8_requireValue 0 = .ok (.iload_n 0, 1) := by decide +kernel
theorem dX8_requireValue_1 : decode cX8_requireValue 1 = .ok (.ifCond .lt 9, 3) := by decide +kernel
theorem dX8_requireValue_4 : decode cX8_requireValue 4 = .ok (.iload_n 0, 1) := by decide +kernel
theorem dX8_requireValue_5 : decode cX8_requireValue 5 = .ok (.bipush 99, 2) := by decide +kernel
theorem dX8_requireValue_7 : decode cX8_requireValue 7 = .ok (.if_icmp .le 14, 3) := by decide +kernel
theorem dX8_requireValue_10 : decode cX8_requireValue 10 = .ok (.new 62, 3) := by decide +kernel
theorem dX8_requireValue_13 : decode cX8_requireValue 13 = .ok (.dup, 1) := by decide +kernel
theorem dX8_requireValue_14 : decode cX8_requireValue 14 = .ok (.ldc_w 328, 3) := by decide +kernel
theorem dX8_requireValue_17 : decode cX8_requireValue 17 = .ok (.invokespecial 66, 3) := by decide +kernel
theorem dX8_requireValue_20 : decode cX8_requireValue 20 = .ok (.athrow, 1) := by decide +kernel
theorem dX8_requireValue_21 : decode cX8_requireValue 21 = .ok (.return_, 1) := by decide +kernel
theorem dX8_item_0 : decode cX8_item 0 = .ok (.iload_n 1, 1) := by decide +kernel
theorem dX8_item_1 : decode cX8_item 1 = .ok (.ifCond .lt 15, 3) := by decide +kernel
theorem dX8_item_4 : decode cX8_item 4 = .ok (.iload_n 1, 1) := by decide +kernel
theorem dX8_item_5 : decode cX8_item 5 = .ok (.aload_n 0, 1) := by decide +kernel
theorem dX8_item_6 : decode cX8_item 6 = .ok (.arraylength, 1) := by decide +kernel
theorem dX8_item_7 : decode cX8_item 7 = .ok (.if_icmp .ge 9, 3) := by decide +kernel
theorem dX8_item_10 : decode cX8_item 10 = .ok (.aload_n 0, 1) := by decide +kernel
theorem dX8_item_11 : decode cX8_item 11 = .ok (.iload_n 1, 1) := by decide +kernel
theorem dX8_item_12 : decode cX8_item 12 = .ok (.iaload, 1) := by decide +kernel
theorem dX8_item_13 : decode cX8_item 13 = .ok (.goto 4, 3) := by decide +kernel
theorem dX8_item_16 : decode cX8_item 16 = .ok (.iconst 0, 1) := by decide +kernel
theorem dX8_item_17 : decode cX8_item 17 = .ok (.ireturn, 1) := by decide +kernel
theorem dX8_setItem_0 : decode cX8_setItem 0 = .ok (.iload_n 1, 1) := by decide +kernel
theorem dX8_setItem_1 : decode cX8_setItem 1 = .ok (.ifCond .lt 13, 3) := by decide +kernel
theorem dX8_setItem_4 : decode cX8_setItem 4 = .ok (.iload_n 1, 1) := by decide +kernel
theorem dX8_setItem_5 : decode cX8_setItem 5 = .ok (.aload_n 0, 1) := by decide +kernel
theorem dX8_setItem_6 : decode cX8_setItem 6 = .ok (.arraylength, 1) := by decide +kernel
theorem dX8_setItem_7 : decode cX8_setItem 7 = .ok (.if_icmp .ge 7, 3) := by decide +kernel
theorem dX8_setItem_10 : decode cX8_setItem 10 = .ok (.aload_n 0, 1) := by decide +kernel
theorem dX8_setItem_11 : decode cX8_setItem 11 = .ok (.iload_n 1, 1) := by decide +kernel
theorem dX8_setItem_12 : decode cX8_setItem 12 = .ok (.iload_n 2, 1) := by decide +kernel
theorem dX8_setItem_13 : decode cX8_setItem 13 = .ok (.iastore, 1) := by decide +kernel
theorem dX8_setItem_14 : decode cX8_setItem 14 = .ok (.return_, 1) := by decide +kernel
theorem dX8_at_0 : decode cX8_at 0 = .ok (.iload_n 1, 1) := by decide +kernel
theorem dX8_at_1 : decode cX8_at 1 = .ok (.bipush 6, 2) := by decide +kernel
theorem dX8_at_3 : decode cX8_at 3 = .ok (.imul, 1) := by decide +kernel
theorem dX8_at_4 : decode cX8_at 4 = .ok (.iload_n 2, 1) := by decide +kernel
theorem dX8_at_5 : decode cX8_at 5 = .ok (.iadd, 1) := by decide +kernel
theorem dX8_at_6 : decode cX8_at 6 = .ok (.istore_n 3, 1) := by decide +kernel
theorem dX8_at_7 : decode cX8_at 7 = .ok (.iload_n 3, 1) := by decide +kernel
theorem dX8_at_8 : decode cX8_at 8 = .ok (.ifCond .lt 15, 3) := by decide +kernel
theorem dX8_at_11 : decode cX8_at 11 = .ok (.iload_n 3, 1) := by decide +kernel
theorem dX8_at_12 : decode cX8_at 12 = .ok (.aload_n 0, 1) := by decide +kernel
theorem dX8_at_13 : decode cX8_at 13 = .ok (.arraylength, 1) := by decide +kernel
theorem dX8_at_14 : decode cX8_at 14 = .ok (.if_icmp .ge 9, 3) := by decide +kernel
theorem dX8_at_17 : decode cX8_at 17 = .ok (.aload_n 0, 1) := by decide +kernel
theorem dX8_at_18 : decode cX8_at 18 = .ok (.iload_n 3, 1) := by decide +kernel
theorem dX8_at_19 : decode cX8_at 19 = .ok (.iaload, 1) := by decide +kernel
theorem dX8_at_20 : decode cX8_at 20 = .ok (.goto 4, 3) := by decide +kernel
theorem dX8_at_23 : decode cX8_at 23 = .ok (.iconst 0, 1) := by decide +kernel
theorem dX8_at_24 : decode cX8_at 24 = .ok (.ireturn, 1) := by decide +kernel
theorem dX8_put_0 : decode cX8_put 0 = .ok (.iload_n 1, 1) := by decide +kernel
theorem dX8_put_1 : decode cX8_put 1 = .ok (.bipush 6, 2) := by decide +kernel
theorem dX8_put_3 : decode cX8_put 3 = .ok (.imul, 1) := by decide +kernel
theorem dX8_put_4 : decode cX8_put 4 = .ok (.iload_n 2, 1) := by decide +kernel
theorem dX8_put_5 : decode cX8_put 5 = .ok (.iadd, 1) := by decide +kernel
theorem dX8_put_6 : decode cX8_put 6 = .ok (.istore 4, 2) := by decide +kernel
theorem dX8_put_8 : decode cX8_put 8 = .ok (.iload 4, 2) := by decide +kernel
theorem dX8_put_10 : decode cX8_put 10 = .ok (.ifCond .lt 15, 3) := by decide +kernel
theorem dX8_put_13 : decode cX8_put 13 = .ok (.iload 4, 2) := by decide +kernel
theorem dX8_put_15 : decode cX8_put 15 = .ok (.aload_n 0, 1) := by decide +kernel
theorem dX8_put_16 : decode cX8_put 16 = .ok (.arraylength, 1) := by decide +kernel
theorem dX8_put_17 : decode cX8_put 17 = .ok (.if_icmp .ge 8, 3) := by decide +kernel
theorem dX8_put_20 : decode cX8_put 20 = .ok (.aload_n 0, 1) := by decide +kernel
theorem dX8_put_21 : decode cX8_put 21 = .ok (.iload 4, 2) := by decide +kernel
theorem dX8_put_23 : decode cX8_put 23 = .ok (.iload_n 3, 1) := by decide +kernel
theorem dX8_put_24 : decode cX8_put 24 = .ok (.iastore, 1) := by decide +kernel
theorem dX8_put_25 : decode cX8_put 25 = .ok (.return_, 1) := by decide +kernel
theorem dX8_swap_0 : decode cX8_swap 0 = .ok (.aload_n 0, 1) := by decide +kernel
theorem dX8_swap_1 : decode cX8_swap 1 = .ok (.iload_n 1, 1) := by decide +kernel
theorem dX8_swap_2 : decode cX8_swap 2 = .ok (.invokestatic 119, 3) := by decide +kernel
theorem dX8_swap_5 : decode cX8_swap 5 = .ok (.istore_n 3, 1) := by decide +kernel
theorem dX8_swap_6 : decode cX8_swap 6 = .ok (.aload_n 0, 1) := by decide +kernel
theorem dX8_swap_7 : decode cX8_swap 7 = .ok (.iload_n 1, 1) := by decide +kernel
theorem dX8_swap_8 : decode cX8_swap 8 = .ok (.aload_n 0, 1) := by decide +kernel
theorem dX8_swap_9 : decode cX8_swap 9 = .ok (.iload_n 2, 1) := by decide +kernel
theorem dX8_swap_10 : decode cX8_swap 10 = .ok (.invokestatic 119, 3) := by decide +kernel
theorem dX8_swap_13 : decode cX8_swap 13 = .ok (.invokestatic 187, 3) := by decide +kernel
theorem dX8_swap_16 : decode cX8_swap 16 = .ok (.aload_n 0, 1) := by decide +kernel
theorem dX8_swap_17 : decode cX8_swap 17 = .ok (.iload_n 2, 1) := by decide +kernel
theorem dX8_swap_18 : decode cX8_swap 18 = .ok (.iload_n 3, 1) := by decide +kernel
theorem dX8_swap_19 : decode cX8_swap 19 = .ok (.invokestatic 187, 3) := by decide +kernel
theorem dX8_swap_22 : decode cX8_swap 22 = .ok (.return_, 1) := by decide +kernel
theorem dX8_has_0 : decode cX8_has 0 = .ok (.iload_n 0, 1) := by decide +kernel
theorem dX8_has_1 : decode cX8_has 1 = .ok (.iload_n 1, 1) := by decide +kernel
theorem dX8_has_2 : decode cX8_has 2 = .ok (.ishr, 1) := by decide +kernel
theorem dX8_has_3 : decode cX8_has 3 = .ok (.iconst 1, 1) := by decide +kernel
theorem dX8_has_4 : decode cX8_has 4 = .ok (.iand, 1) := by decide +kernel
theorem dX8_has_5 : decode cX8_has 5 = .ok (.iconst 1, 1) := by decide +kernel
theorem dX8_has_6 : decode cX8_has 6 = .ok (.if_icmp .ne 7, 3) := by decide +kernel
theorem dX8_has_9 : decode cX8_has 9 = .ok (.iconst 1, 1) := by decide +kernel
theorem dX8_has_10 : decode cX8_has 10 = .ok (.goto 4, 3) := by decide +kernel
theorem dX8_has_13 : decode cX8_has 13 = .ok (.iconst 0, 1) := by decide +kernel
theorem dX8_has_14 : decode cX8_has 14 = .ok (.ireturn, 1) := by decide +kernel
theorem dX8_takenBy_0 : decode cX8_takenBy 0 = .ok (.iconst 0, 1) := by decide +kernel
theorem dX8_takenBy_1 : decode cX8_takenBy 1 = .ok (.istore_n 1, 1) := by decide +kernel
theorem dX8_takenBy_2 : decode cX8_takenBy 2 = .ok (.aload_n 0, 1) := by decide +kernel
theorem dX8_takenBy_3 : decode cX8_takenBy 3 = .ok (.astore_n 2, 1) := by decide +kernel
theorem dX8_takenBy_4 : decode cX8_takenBy 4 = .ok (.aload_n 2, 1) := by decide +kernel
theorem dX8_takenBy_5 : decode cX8_takenBy 5 = .ok (.arraylength, 1) := by decide +kernel
theorem dX8_takenBy_6 : decode cX8_takenBy 6 = .ok (.istore_n 3, 1) := by decide +kernel
theorem dX8_takenBy_7 : decode cX8_takenBy 7 = .ok (.iconst 0, 1) := by decide +kernel
theorem dX8_takenBy_8 : decode cX8_takenBy 8 = .ok (.istore 4, 2) := by decide +kernel
theorem dX8_takenBy_10 : decode cX8_takenBy 10 = .ok (.iload 4, 2) := by decide +kernel
theorem dX8_takenBy_12 : decode cX8_takenBy 12 = .ok (.iload_n 3, 1) := by decide +kernel
theorem dX8_takenBy_13 : decode cX8_takenBy 13 = .ok (.if_icmp .ge 28, 3) := by decide +kernel
theorem dX8_takenBy_16 : decode cX8_takenBy 16 = .ok (.aload_n 2, 1) := by decide +kernel
theorem dX8_takenBy_17 : decode cX8_takenBy 17 = .ok (.iload 4, 2) := by decide +kernel
theorem dX8_takenBy_19 : decode cX8_takenBy 19 = .ok (.iaload, 1) := by decide +kernel
theorem dX8_takenBy_20 : decode cX8_takenBy 20 = .ok (.istore 5, 2) := by decide +kernel
theorem dX8_takenBy_22 : decode cX8_takenBy 22 = .ok (.iload 5, 2) := by decide +kernel
theorem dX8_takenBy_24 : decode cX8_takenBy 24 = .ok (.iconst (-1), 1) := by decide +kernel
theorem dX8_takenBy_25 : decode cX8_takenBy 25 = .ok (.if_icmp .eq 10, 3) := by decide +kernel
theorem dX8_takenBy_28 : decode cX8_takenBy 28 = .ok (.iload_n 1, 1) := by decide +kernel
theorem dX8_takenBy_29 : decode cX8_takenBy 29 = .ok (.iconst 1, 1) := by decide +kernel
theorem dX8_takenBy_30 : decode cX8_takenBy 30 = .ok (.iload 5, 2) := by decide +kernel
theorem dX8_takenBy_32 : decode cX8_takenBy 32 = .ok (.ishl, 1) := by decide +kernel
theorem dX8_takenBy_33 : decode cX8_takenBy 33 = .ok (.ior, 1) := by decide +kernel
theorem dX8_takenBy_34 : decode cX8_takenBy 34 = .ok (.istore_n 1, 1) := by decide +kernel
theorem dX8_takenBy_35 : decode cX8_takenBy 35 = .ok (.iinc 4 1, 3) := by decide +kernel
theorem dX8_takenBy_38 : decode cX8_takenBy 38 = .ok (.goto (-28), 3) := by decide +kernel
theorem dX8_takenBy_41 : decode cX8_takenBy 41 = .ok (.iload_n 1, 1) := by decide +kernel
theorem dX8_takenBy_42 : decode cX8_takenBy 42 = .ok (.ireturn, 1) := by decide +kernel
theorem dX8_factorial_0 : decode cX8_factorial 0 = .ok (.iconst 1, 1) := by decide +kernel
theorem dX8_factorial_1 : decode cX8_factorial 1 = .ok (.getstatic 330, 3) := by decide +kernel
theorem dX8_factorial_4 : decode cX8_factorial 4 = .ok (.iload_n 0, 1) := by decide +kernel
theorem dX8_factorial_5 : decode cX8_factorial 5 = .ok (.invokestatic 119, 3) := by decide +kernel
theorem dX8_factorial_8 : decode cX8_factorial 8 = .ok (.invokestatic 333, 3) := by decide +kernel
theorem dX8_factorial_11 : decode cX8_factorial 11 = .ok (.ireturn, 1) := by decide +kernel
theorem dX8_arrange_0 : decode cX8_arrange 0 = .ok (.iload_n 0, 1) := by decide +kernel
theorem dX8_arrange_1 : decode cX8_arrange 1 = .ok (.istore_n 3, 1) := by decide +kernel
theorem dX8_arrange_2 : decode cX8_arrange 2 = .ok (.iconst 0, 1) := by decide +kernel
theorem dX8_arrange_3 : decode cX8_arrange 3 = .ok (.istore 4, 2) := by decide +kernel
theorem dX8_arrange_5 : decode cX8_arrange 5 = .ok (.iconst 0, 1) := by decide +kernel
theorem dX8_arrange_6 : decode cX8_arrange 6 = .ok (.istore 5, 2) := by decide +kernel
theorem dX8_arrange_8 : decode cX8_arrange 8 = .ok (.iload 5, 2) := by decide +kernel
theorem dX8_arrange_10 : decode cX8_arrange 10 = .ok (.iload_n 1, 1) := by decide +kernel
theorem dX8_arrange_11 : decode cX8_arrange 11 = .ok (.if_icmp .ge 54, 3) := by decide +kernel
theorem dX8_arrange_14 : decode cX8_arrange 14 = .ok (.iload_n 1, 1) := by decide +kernel
theorem dX8_arrange_15 : decode cX8_arrange 15 = .ok (.iconst 1, 1) := by decide +kernel
theorem dX8_arrange_16 : decode cX8_arrange 16 = .ok (.isub, 1) := by decide +kernel
theorem dX8_arrange_17 : decode cX8_arrange 17 = .ok (.iload 5, 2) := by decide +kernel
theorem dX8_arrange_19 : decode cX8_arrange 19 = .ok (.isub, 1) := by decide +kernel
theorem dX8_arrange_20 : decode cX8_arrange 20 = .ok (.invokestatic 126, 3) := by decide +kernel
theorem dX8_arrange_23 : decode cX8_arrange 23 = .ok (.istore 6, 2) := by decide +kernel
theorem dX8_arrange_25 : decode cX8_arrange 25 = .ok (.iload 4, 2) := by decide +kernel
theorem dX8_arrange_27 : decode cX8_arrange 27 = .ok (.iload_n 1, 1) := by decide +kernel
theorem dX8_arrange_28 : decode cX8_arrange 28 = .ok (.iload_n 3, 1) := by decide +kernel
theorem dX8_arrange_29 : decode cX8_arrange 29 = .ok (.iload 6, 2) := by decide +kernel
theorem dX8_arrange_31 : decode cX8_arrange 31 = .ok (.idiv, 1) := by decide +kernel
theorem dX8_arrange_32 : decode cX8_arrange 32 = .ok (.invokestatic 338, 3) := by decide +kernel
theorem dX8_arrange_35 : decode cX8_arrange 35 = .ok (.istore 7, 2) := by decide +kernel
theorem dX8_arrange_37 : decode cX8_arrange 37 = .ok (.aload_n 2, 1) := by decide +kernel
theorem dX8_arrange_38 : decode cX8_arrange 38 = .ok (.iload 5, 2) := by decide +kernel
theorem dX8_arrange_40 : decode cX8_arrange 40 = .ok (.iload 7, 2) := by decide +kernel
theorem dX8_arrange_42 : decode cX8_arrange 42 = .ok (.invokestatic 187, 3) := by decide +kernel
theorem dX8_arrange_45 : decode cX8_arrange 45 = .ok (.iload 4, 2) := by decide +kernel
theorem dX8_arrange_47 : decode cX8_arrange 47 = .ok (.iconst 1, 1) := by decide +kernel
theorem dX8_arrange_48 : decode cX8_arrange 48 = .ok (.iload 7, 2) := by decide +kernel
theorem dX8_arrange_50 : decode cX8_arrange 50 = .ok (.ishl, 1) := by decide +kernel
theorem dX8_arrange_51 : decode cX8_arrange 51 = .ok (.ior, 1) := by decide +kernel
theorem dX8_arrange_52 : decode cX8_arrange 52 = .ok (.istore 4, 2) := by decide +kernel
theorem dX8_arrange_54 : decode cX8_arrange 54 = .ok (.iload_n 3, 1) := by decide +kernel
theorem dX8_arrange_55 : decode cX8_arrange 55 = .ok (.iload 6, 2) := by decide +kernel
theorem dX8_arrange_57 : decode cX8_arrange 57 = .ok (.irem, 1) := by decide +kernel
theorem dX8_arrange_58 : decode cX8_arrange 58 = .ok (.istore_n 3, 1) := by decide +kernel
theorem dX8_arrange_59 : decode cX8_arrange 59 = .ok (.iinc 5 1, 3) := by decide +kernel
theorem dX8_arrange_62 : decode cX8_arrange 62 = .ok (.goto (-54), 3) := by decide +kernel
theorem dX8_arrange_65 : decode cX8_arrange 65 = .ok (.return_, 1) := by decide +kernel
theorem dX8_freeLocation_0 : decode cX8_freeLocation 0 = .ok (.iconst 0, 1) := by decide +kernel
theorem dX8_freeLocation_1 : decode cX8_freeLocation 1 = .ok (.istore_n 3, 1) := by decide +kernel
theorem dX8_freeLocation_2 : decode cX8_freeLocation 2 = .ok (.iconst 0, 1) := by decide +kernel
theorem dX8_freeLocation_3 : decode cX8_freeLocation 3 = .ok (.istore 4, 2) := by decide +kernel
theorem dX8_freeLocation_5 : decode cX8_freeLocation 5 = .ok (.iload 4, 2) := by decide +kernel
theorem dX8_freeLocation_7 : decode cX8_freeLocation 7 = .ok (.iload_n 1, 1) := by decide +kernel
theorem dX8_freeLocation_8 : decode cX8_freeLocation 8 = .ok (.if_icmp .ge 29, 3) := by decide +kernel
theorem dX8_freeLocation_11 : decode cX8_freeLocation 11 = .ok (.iload_n 0, 1) := by decide +kernel
theorem dX8_freeLocation_12 : decode cX8_freeLocation 12 = .ok (.iload 4, 2) := by decide +kernel
theorem dX8_freeLocation_14 : decode cX8_freeLocation 14 = .ok (.invokestatic 320, 3) := by decide +kernel
theorem dX8_freeLocation_17 : decode cX8_freeLocation 17 = .ok (.ifCond .ne 14, 3) := by decide +kernel
theorem dX8_freeLocation_20 : decode cX8_freeLocation 20 = .ok (.iload_n 3, 1) := by decide +kernel
theorem dX8_freeLocation_21 : decode cX8_freeLocation 21 = .ok (.iload_n 2, 1) := by decide +kernel
theorem dX8_freeLocation_22 : decode cX8_freeLocation 22 = .ok (.if_icmp .ne 6, 3) := by decide +kernel
theorem dX8_freeLocation_25 : decode cX8_freeLocation 25 = .ok (.iload 4, 2) := by decide +kernel
theorem dX8_freeLocation_27 : decode cX8_freeLocation 27 = .ok (.ireturn, 1) := by decide +kernel
theorem dX8_freeLocation_28 : decode cX8_freeLocation 28 = .ok (.iinc 3 1, 3) := by decide +kernel
theorem dX8_freeLocation_31 : decode cX8_freeLocation 31 = .ok (.iinc 4 1, 3) := by decide +kernel
theorem dX8_freeLocation_34 : decode cX8_freeLocation 34 = .ok (.goto (-29), 3) := by decide +kernel
theorem dX8_freeLocation_37 : decode cX8_freeLocation 37 = .ok (.iconst 0, 1) := by decide +kernel
theorem dX8_freeLocation_38 : decode cX8_freeLocation 38 = .ok (.ireturn, 1) := by decide +kernel
theorem dX8_numberOf_0 : decode cX8_numberOf 0 = .ok (.iconst 0, 1) := by decide +kernel
theorem dX8_numberOf_1 : decode cX8_numberOf 1 = .ok (.istore_n 2, 1) := by decide +kernel
theorem dX8_numberOf_2 : decode cX8_numberOf 2 = .ok (.iconst 0, 1) := by decide +kernel
theorem dX8_numberOf_3 : decode cX8_numberOf 3 = .ok (.istore_n 3, 1) := by decide +kernel
theorem dX8_numberOf_4 : decode cX8_numberOf 4 = .ok (.iload_n 3, 1) := by decide +kernel
theorem dX8_numberOf_5 : decode cX8_numberOf 5 = .ok (.iload_n 1, 1) := by decide +kernel
theorem dX8_numberOf_6 : decode cX8_numberOf 6 = .ok (.if_icmp .ge 60, 3) := by decide +kernel
theorem dX8_numberOf_9 : decode cX8_numberOf 9 = .ok (.iconst 0, 1) := by decide +kernel
theorem dX8_numberOf_10 : decode cX8_numberOf 10 = .ok (.istore 4, 2) := by decide +kernel
theorem dX8_numberOf_12 : decode cX8_numberOf 12 = .ok (.iload_n 3, 1) := by decide +kernel
theorem dX8_numberOf_13 : decode cX8_numberOf 13 = .ok (.iconst 1, 1) := by decide +kernel
theorem dX8_numberOf_14 : decode cX8_numberOf 14 = .ok (.iadd, 1) := by decide +kernel
theorem dX8_numberOf_15 : decode cX8_numberOf 15 = .ok (.istore 5, 2) := by decide +kernel
theorem dX8_numberOf_17 : decode cX8_numberOf 17 = .ok (.iload 5, 2) := by decide +kernel
theorem dX8_numberOf_19 : decode cX8_numberOf 19 = .ok (.iload_n 1, 1) := by decide +kernel
theorem dX8_numberOf_20 : decode cX8_numberOf 20 = .ok (.if_icmp .ge 26, 3) := by decide +kernel
theorem dX8_numberOf_23 : decode cX8_numberOf 23 = .ok (.aload_n 0, 1) := by decide +kernel
theorem dX8_numberOf_24 : decode cX8_numberOf 24 = .ok (.iload 5, 2) := by decide +kernel
theorem dX8_numberOf_26 : decode cX8_numberOf 26 = .ok (.invokestatic 119, 3) := by decide +kernel
theorem dX8_numberOf_29 : decode cX8_numberOf 29 = .ok (.aload_n 0, 1) := by decide +kernel
theorem dX8_numberOf_30 : decode cX8_numberOf 30 = .ok (.iload_n 3, 1) := by decide +kernel
theorem dX8_numberOf_31 : decode cX8_numberOf 31 = .ok (.invokestatic 119, 3) := by decide +kernel
theorem dX8_numberOf_34 : decode cX8_numberOf 34 = .ok (.if_icmp .ge 6, 3) := by decide +kernel
theorem dX8_numberOf_37 : decode cX8_numberOf 37 = .ok (.iinc 4 1, 3) := by decide +kernel
theorem dX8_numberOf_40 : decode cX8_numberOf 40 = .ok (.iinc 5 1, 3) := by decide +kernel
theorem dX8_numberOf_43 : decode cX8_numberOf 43 = .ok (.goto (-26), 3) := by decide +kernel
theorem dX8_numberOf_46 : decode cX8_numberOf 46 = .ok (.iload_n 2, 1) := by decide +kernel
theorem dX8_numberOf_47 : decode cX8_numberOf 47 = .ok (.iload 4, 2) := by decide +kernel
theorem dX8_numberOf_49 : decode cX8_numberOf 49 = .ok (.iload_n 1, 1) := by decide +kernel
theorem dX8_numberOf_50 : decode cX8_numberOf 50 = .ok (.iconst 1, 1) := by decide +kernel
theorem dX8_numberOf_51 : decode cX8_numberOf 51 = .ok (.isub, 1) := by decide +kernel
theorem dX8_numberOf_52 : decode cX8_numberOf 52 = .ok (.iload_n 3, 1) := by decide +kernel
theorem dX8_numberOf_53 : decode cX8_numberOf 53 = .ok (.isub, 1) := by decide +kernel
theorem dX8_numberOf_54 : decode cX8_numberOf 54 = .ok (.invokestatic 126, 3) := by decide +kernel
theorem dX8_numberOf_57 : decode cX8_numberOf 57 = .ok (.imul, 1) := by decide +kernel
theorem dX8_numberOf_58 : decode cX8_numberOf 58 = .ok (.iadd, 1) := by decide +kernel
theorem dX8_numberOf_59 : decode cX8_numberOf 59 = .ok (.istore_n 2, 1) := by decide +kernel
theorem dX8_numberOf_60 : decode cX8_numberOf 60 = .ok (.iinc 3 1, 3) := by decide +kernel
theorem dX8_numberOf_63 : decode cX8_numberOf 63 = .ok (.goto (-59), 3) := by decide +kernel
theorem dX8_numberOf_66 : decode cX8_numberOf 66 = .ok (.iload_n 2, 1) := by decide +kernel
theorem dX8_numberOf_67 : decode cX8_numberOf 67 = .ok (.ireturn, 1) := by decide +kernel
theorem dX8_advance_0 : decode cX8_advance 0 = .ok (.iload_n 1, 1) := by decide +kernel
theorem dX8_advance_1 : decode cX8_advance 1 = .ok (.iconst 2, 1) := by decide +kernel
theorem dX8_advance_2 : decode cX8_advance 2 = .ok (.isub, 1) := by decide +kernel
theorem dX8_advance_3 : decode cX8_advance 3 = .ok (.istore_n 2, 1) := by decide +kernel
theorem dX8_advance_4 : decode cX8_advance 4 = .ok (.iload_n 2, 1) := by decide +kernel
theorem dX8_advance_5 : decode cX8_advance 5 = .ok (.ifCond .lt 24, 3) := by decide +kernel
theorem dX8_advance_8 : decode cX8_advance 8 = .ok (.aload_n 0, 1) := by decide +kernel
theorem dX8_advance_9 : decode cX8_advance 9 = .ok (.iload_n 2, 1) := by decide +kernel
theorem dX8_advance_10 : decode cX8_advance 10 = .ok (.invokestatic 119, 3) := by decide +kernel
theorem dX8_advance_13 : decode cX8_advance 13 = .ok (.aload_n 0, 1) := by decide +kernel
theorem dX8_advance_14 : decode cX8_advance 14 = .ok (.iload_n 2, 1) := by decide +kernel
theorem dX8_advance_15 : decode cX8_advance 15 = .ok (.iconst 1, 1) := by decide +kernel
theorem dX8_advance_16 : decode cX8_advance 16 = .ok (.iadd, 1) := by decide +kernel
theorem dX8_advance_17 : decode cX8_advance 17 = .ok (.invokestatic 119, 3) := by decide +kernel
theorem dX8_advance_20 : decode cX8_advance 20 = .ok (.if_icmp .le 9, 3) := by decide +kernel
theorem dX8_advance_23 : decode cX8_advance 23 = .ok (.iinc 2 (-1), 3) := by decide +kernel
theorem dX8_advance_26 : decode cX8_advance 26 = .ok (.goto (-22), 3) := by decide +kernel
theorem dX8_advance_29 : decode cX8_advance 29 = .ok (.iload_n 2, 1) := by decide +kernel
theorem dX8_advance_30 : decode cX8_advance 30 = .ok (.ifCond .ge 4, 3) := by decide +kernel
theorem dX8_advance_33 : decode cX8_advance 33 = .ok (.return_, 1) := by decide +kernel
theorem dX8_advance_34 : decode cX8_advance 34 = .ok (.iload_n 1, 1) := by decide +kernel
theorem dX8_advance_35 : decode cX8_advance 35 = .ok (.iconst 1, 1) := by decide +kernel
theorem dX8_advance_36 : decode cX8_advance 36 = .ok (.isub, 1) := by decide +kernel
theorem dX8_advance_37 : decode cX8_advance 37 = .ok (.istore_n 3, 1) := by decide +kernel
theorem dX8_advance_38 : decode cX8_advance 38 = .ok (.iload_n 3, 1) := by decide +kernel
theorem dX8_advance_39 : decode cX8_advance 39 = .ok (.iload_n 2, 1) := by decide +kernel
theorem dX8_advance_40 : decode cX8_advance 40 = .ok (.if_icmp .le 22, 3) := by decide +kernel
theorem dX8_advance_43 : decode cX8_advance 43 = .ok (.aload_n 0, 1) := by decide +kernel
theorem dX8_advance_44 : decode cX8_advance 44 = .ok (.iload_n 3, 1) := by decide +kernel
theorem dX8_advance_45 : decode cX8_advance 45 = .ok (.invokestatic 119, 3) := by decide +kernel
theorem dX8_advance_48 : decode cX8_advance 48 = .ok (.aload_n 0, 1) := by decide +kernel
theorem dX8_advance_49 : decode cX8_advance 49 = .ok (.iload_n 2, 1) := by decide +kernel
theorem dX8_advance_50 : decode cX8_advance 50 = .ok (.invokestatic 119, 3) := by decide +kernel
theorem dX8_advance_53 : decode cX8_advance 53 = .ok (.if_icmp .ge 9, 3) := by decide +kernel
theorem dX8_advance_56 : decode cX8_advance 56 = .ok (.iinc 3 (-1), 3) := by decide +kernel
theorem dX8_advance_59 : decode cX8_advance 59 = .ok (.goto (-21), 3) := by decide +kernel
theorem dX8_advance_62 : decode cX8_advance 62 = .ok (.aload_n 0, 1) := by decide +kernel
theorem dX8_advance_63 : decode cX8_advance 63 = .ok (.iload_n 2, 1) := by decide +kernel
theorem dX8_advance_64 : decode cX8_advance 64 = .ok (.iload_n 3, 1) := by decide +kernel
theorem dX8_advance_65 : decode cX8_advance 65 = .ok (.invokestatic 145, 3) := by decide +kernel
theorem dX8_advance_68 : decode cX8_advance 68 = .ok (.iload_n 2, 1) := by decide +kernel
theorem dX8_advance_69 : decode cX8_advance 69 = .ok (.iconst 1, 1) := by decide +kernel
theorem dX8_advance_70 : decode cX8_advance 70 = .ok (.iadd, 1) := by decide +kernel
theorem dX8_advance_71 : decode cX8_advance 71 = .ok (.istore 4, 2) := by decide +kernel
theorem dX8_advance_73 : decode cX8_advance 73 = .ok (.iload_n 1, 1) := by decide +kernel
theorem dX8_advance_74 : decode cX8_advance 74 = .ok (.iconst 1, 1) := by decide +kernel
theorem dX8_advance_75 : decode cX8_advance 75 = .ok (.isub, 1) := by decide +kernel
theorem dX8_advance_76 : decode cX8_advance 76 = .ok (.istore 5, 2) := by decide +kernel
theorem dX8_advance_78 : decode cX8_advance 78 = .ok (.iload 4, 2) := by decide +kernel
theorem dX8_advance_80 : decode cX8_advance 80 = .ok (.iload 5, 2) := by decide +kernel
theorem dX8_advance_82 : decode cX8_advance 82 = .ok (.if_icmp .ge 20, 3) := by decide +kernel
theorem dX8_advance_85 : decode cX8_advance 85 = .ok (.aload_n 0, 1) := by decide +kernel
theorem dX8_advance_86 : decode cX8_advance 86 = .ok (.iload 4, 2) := by decide +kernel
theorem dX8_advance_88 : decode cX8_advance 88 = .ok (.iload 5, 2) := by decide +kernel
theorem dX8_advance_90 : decode cX8_advance 90 = .ok (.invokestatic 145, 3) := by decide +kernel
theorem dX8_advance_93 : decode cX8_advance 93 = .ok (.iinc 4 1, 3) := by decide +kernel
theorem dX8_advance_96 : decode cX8_advance 96 = .ok (.iinc 5 (-1), 3) := by decide +kernel
theorem dX8_advance_99 : decode cX8_advance 99 = .ok (.goto (-21), 3) := by decide +kernel
theorem dX8_advance_102 : decode cX8_advance 102 = .ok (.return_, 1) := by decide +kernel
theorem dX8_commonDivisor_0 : decode cX8_commonDivisor 0 = .ok (.iload_n 0, 1) := by decide +kernel
theorem dX8_commonDivisor_1 : decode cX8_commonDivisor 1 = .ok (.istore_n 2, 1) := by decide +kernel
theorem dX8_commonDivisor_2 : decode cX8_commonDivisor 2 = .ok (.iload_n 1, 1) := by decide +kernel
theorem dX8_commonDivisor_3 : decode cX8_commonDivisor 3 = .ok (.istore_n 3, 1) := by decide +kernel
theorem dX8_commonDivisor_4 : decode cX8_commonDivisor 4 = .ok (.iconst 0, 1) := by decide +kernel
theorem dX8_commonDivisor_5 : decode cX8_commonDivisor 5 = .ok (.istore 4, 2) := by decide +kernel
theorem dX8_commonDivisor_7 : decode cX8_commonDivisor 7 = .ok (.iload 4, 2) := by decide +kernel
theorem dX8_commonDivisor_9 : decode cX8_commonDivisor 9 = .ok (.bipush 64, 2) := by decide +kernel
theorem dX8_commonDivisor_11 : decode cX8_commonDivisor 11 = .ok (.if_icmp .ge 23, 3) := by decide +kernel
theorem dX8_commonDivisor_14 : decode cX8_commonDivisor 14 = .ok (.iload_n 3, 1) := by decide +kernel
theorem dX8_commonDivisor_15 : decode cX8_commonDivisor 15 = .ok (.ifCond .eq 19, 3) := by decide +kernel
theorem dX8_commonDivisor_18 : decode cX8_commonDivisor 18 = .ok (.iload_n 2, 1) := by decide +kernel
theorem dX8_commonDivisor_19 : decode cX8_commonDivisor 19 = .ok (.iload_n 3, 1) := by decide +kernel
theorem dX8_commonDivisor_20 : decode cX8_commonDivisor 20 = .ok (.irem, 1) := by decide +kernel
theorem dX8_commonDivisor_21 : decode cX8_commonDivisor 21 = .ok (.istore 5, 2) := by decide +kernel
theorem dX8_commonDivisor_23 : decode cX8_commonDivisor 23 = .ok (.iload_n 3, 1) := by decide +kernel
theorem dX8_commonDivisor_24 : decode cX8_commonDivisor 24 = .ok (.istore_n 2, 1) := by decide +kernel
theorem dX8_commonDivisor_25 : decode cX8_commonDivisor 25 = .ok (.iload 5, 2) := by decide +kernel
theorem dX8_commonDivisor_27 : decode cX8_commonDivisor 27 = .ok (.istore_n 3, 1) := by decide +kernel
theorem dX8_commonDivisor_28 : decode cX8_commonDivisor 28 = .ok (.iinc 4 1, 3) := by decide +kernel
theorem dX8_commonDivisor_31 : decode cX8_commonDivisor 31 = .ok (.goto (-24), 3) := by decide +kernel
theorem dX8_commonDivisor_34 : decode cX8_commonDivisor 34 = .ok (.iload_n 2, 1) := by decide +kernel
theorem dX8_commonDivisor_35 : decode cX8_commonDivisor 35 = .ok (.ireturn, 1) := by decide +kernel
theorem dX9_init_0 : decode cX9_init 0 = .ok (.aload_n 0, 1) := by decide +kernel
theorem dX9_init_1 : decode cX9_init 1 = .ok (.invokespecial 1, 3) := by decide +kernel
theorem dX9_init_4 : decode cX9_init 4 = .ok (.aload_n 0, 1) := by decide +kernel
theorem dX9_init_5 : decode cX9_init 5 = .ok (.bipush 121, 2) := by decide +kernel
theorem dX9_init_7 : decode cX9_init 7 = .ok (.newarray .int, 2) := by decide +kernel
theorem dX9_init_9 : decode cX9_init 9 = .ok (.putfield 7, 3) := by decide +kernel
theorem dX9_init_12 : decode cX9_init 12 = .ok (.aload_n 0, 1) := by decide +kernel
theorem dX9_init_13 : decode cX9_init 13 = .ok (.sipush 726, 3) := by decide +kernel
theorem dX9_init_16 : decode cX9_init 16 = .ok (.newarray .int, 2) := by decide +kernel
theorem dX9_init_18 : decode cX9_init 18 = .ok (.putfield 13, 3) := by decide +kernel
theorem dX9_init_21 : decode cX9_init 21 = .ok (.aload_n 0, 1) := by decide +kernel
theorem dX9_init_22 : decode cX9_init 22 = .ok (.bipush 121, 2) := by decide +kernel
theorem dX9_init_24 : decode cX9_init 24 = .ok (.newarray .int, 2) := by decide +kernel
theorem dX9_init_26 : decode cX9_init 26 = .ok (.putfield 16, 3) := by decide +kernel
theorem dX9_init_29 : decode cX9_init 29 = .ok (.aload_n 0, 1) := by decide +kernel
theorem dX9_init_30 : decode cX9_init 30 = .ok (.bipush 120, 2) := by decide +kernel
theorem dX9_init_32 : decode cX9_init 32 = .ok (.newarray .int, 2) := by decide +kernel
theorem dX9_init_34 : decode cX9_init 34 = .ok (.putfield 19, 3) := by decide +kernel
theorem dX9_init_37 : decode cX9_init 37 = .ok (.aload_n 0, 1) := by decide +kernel
theorem dX9_init_38 : decode cX9_init 38 = .ok (.bipush 6, 2) := by decide +kernel
theorem dX9_init_40 : decode cX9_init 40 = .ok (.newarray .int, 2) := by decide +kernel
theorem dX9_init_42 : decode cX9_init 42 = .ok (.putfield 22, 3) := by decide +kernel
theorem dX9_init_45 : decode cX9_init 45 = .ok (.aload_n 0, 1) := by decide +kernel
theorem dX9_init_46 : decode cX9_init 46 = .ok (.bipush 6, 2) := by decide +kernel
theorem dX9_init_48 : decode cX9_init 48 = .ok (.newarray .int, 2) := by decide +kernel
theorem dX9_init_50 : decode cX9_init 50 = .ok (.putfield 25, 3) := by decide +kernel
theorem dX9_init_53 : decode cX9_init 53 = .ok (.aload_n 0, 1) := by decide +kernel
theorem dX9_init_54 : decode cX9_init 54 = .ok (.bipush 6, 2) := by decide +kernel
theorem dX9_init_56 : decode cX9_init 56 = .ok (.newarray .int, 2) := by decide +kernel
theorem dX9_init_58 : decode cX9_init 58 = .ok (.putfield 28, 3) := by decide +kernel
theorem dX9_init_61 : decode cX9_init 61 = .ok (.aload_n 0, 1) := by decide +kernel
theorem dX9_init_62 : decode cX9_init 62 = .ok (.bipush 6, 2) := by decide +kernel
theorem dX9_init_64 : decode cX9_init 64 = .ok (.newarray .int, 2) := by decide +kernel
theorem dX9_init_66 : decode cX9_init 66 = .ok (.putfield 31, 3) := by decide +kernel
theorem dX9_init_69 : decode cX9_init 69 = .ok (.aload_n 0, 1) := by decide +kernel
theorem dX9_init_70 : decode cX9_init 70 = .ok (.bipush 64, 2) := by decide +kernel
theorem dX9_init_72 : decode cX9_init 72 = .ok (.newarray .int, 2) := by decide +kernel
theorem dX9_init_74 : decode cX9_init 74 = .ok (.putfield 34, 3) := by decide +kernel
theorem dX9_init_77 : decode cX9_init 77 = .ok (.aload_n 0, 1) := by decide +kernel
theorem dX9_init_78 : decode cX9_init 78 = .ok (.bipush 6, 2) := by decide +kernel
theorem dX9_init_80 : decode cX9_init 80 = .ok (.newarray .int, 2) := by decide +kernel
theorem dX9_init_82 : decode cX9_init 82 = .ok (.putfield 37, 3) := by decide +kernel
theorem dX9_init_85 : decode cX9_init 85 = .ok (.aload_n 0, 1) := by decide +kernel
theorem dX9_init_86 : decode cX9_init 86 = .ok (.sipush 4320, 3) := by decide +kernel
theorem dX9_init_89 : decode cX9_init 89 = .ok (.newarray .int, 2) := by decide +kernel
theorem dX9_init_91 : decode cX9_init 91 = .ok (.putfield 40, 3) := by decide +kernel
theorem dX9_init_94 : decode cX9_init 94 = .ok (.aload_n 0, 1) := by decide +kernel
theorem dX9_init_95 : decode cX9_init 95 = .ok (.sipush 12000, 3) := by decide +kernel
theorem dX9_init_98 : decode cX9_init 98 = .ok (.newarray .int, 2) := by decide +kernel
theorem dX9_init_100 : decode cX9_init 100 = .ok (.putfield 43, 3) := by decide +kernel
theorem dX9_init_103 : decode cX9_init 103 = .ok (.aload_n 0, 1) := by decide +kernel
theorem dX9_init_104 : decode cX9_init 104 = .ok (.sipush 2000, 3) := by decide +kernel
theorem dX9_init_107 : decode cX9_init 107 = .ok (.newarray .int, 2) := by decide +kernel
theorem dX9_init_109 : decode cX9_init 109 = .ok (.putfield 46, 3) := by decide +kernel
theorem dX9_init_112 : decode cX9_init 112 = .ok (.aload_n 0, 1) := by decide +kernel
theorem dX9_init_113 : decode cX9_init 113 = .ok (.sipush 2000, 3) := by decide +kernel
theorem dX9_init_116 : decode cX9_init 116 = .ok (.newarray .int, 2) := by decide +kernel
theorem dX9_init_118 : decode cX9_init 118 = .ok (.putfield 49, 3) := by decide +kernel
theorem dX9_init_121 : decode cX9_init 121 = .ok (.aload_n 0, 1) := by decide +kernel
theorem dX9_init_122 : decode cX9_init 122 = .ok (.sipush 2000, 3) := by decide +kernel
theorem dX9_init_125 : decode cX9_init 125 = .ok (.newarray .boolean, 2) := by decide +kernel
theorem dX9_init_127 : decode cX9_init 127 = .ok (.putfield 52, 3) := by decide +kernel
theorem dX9_init_130 : decode cX9_init 130 = .ok (.aload_n 0, 1) := by decide +kernel
theorem dX9_init_131 : decode cX9_init 131 = .ok (.bipush 7, 2) := by decide +kernel
theorem dX9_init_133 : decode cX9_init 133 = .ok (.newarray .int, 2) := by decide +kernel
theorem dX9_init_135 : decode cX9_init 135 = .ok (.putfield 56, 3) := by decide +kernel
theorem dX9_init_138 : decode cX9_init 138 = .ok (.aload_n 0, 1) := by decide +kernel
theorem dX9_init_139 : decode cX9_init 139 = .ok (.bipush 7, 2) := by decide +kernel
theorem dX9_init_141 : decode cX9_init 141 = .ok (.newarray .int, 2) := by decide +kernel
theorem dX9_init_143 : decode cX9_init 143 = .ok (.putfield 59, 3) := by decide +kernel
theorem dX9_init_146 : decode cX9_init 146 = .ok (.aload_n 0, 1) := by decide +kernel
theorem dX9_init_147 : decode cX9_init 147 = .ok (.bipush 6, 2) := by decide +kernel
theorem dX9_init_149 : decode cX9_init 149 = .ok (.newarray .int, 2) := by decide +kernel
theorem dX9_init_151 : decode cX9_init 151 = .ok (.putfield 62, 3) := by decide +kernel
theorem dX9_init_154 : decode cX9_init 154 = .ok (.aload_n 0, 1) := by decide +kernel
theorem dX9_init_155 : decode cX9_init 155 = .ok (.bipush 6, 2) := by decide +kernel
theorem dX9_init_157 : decode cX9_init 157 = .ok (.newarray .int, 2) := by decide +kernel
theorem dX9_init_159 : decode cX9_init 159 = .ok (.putfield 65, 3) := by decide +kernel
theorem dX9_init_162 : decode cX9_init 162 = .ok (.aload_n 0, 1) := by decide +kernel
theorem dX9_init_163 : decode cX9_init 163 = .ok (.iconst 3, 1) := by decide +kernel
theorem dX9_init_164 : decode cX9_init 164 = .ok (.newarray .int, 2) := by decide +kernel
theorem dX9_init_166 : decode cX9_init 166 = .ok (.putfield 68, 3) := by decide +kernel
theorem dX9_init_169 : decode cX9_init 169 = .ok (.aload_n 0, 1) := by decide +kernel
theorem dX9_init_170 : decode cX9_init 170 = .ok (.iconst 3, 1) := by decide +kernel
theorem dX9_init_171 : decode cX9_init 171 = .ok (.invokevirtual 71, 3) := by decide +kernel
theorem dX9_init_174 : decode cX9_init 174 = .ok (.aload_n 0, 1) := by decide +kernel
theorem dX9_init_175 : decode cX9_init 175 = .ok (.getfield 56, 3) := by decide +kernel
theorem dX9_init_178 : decode cX9_init 178 = .ok (.bipush 6, 2) := by decide +kernel
theorem dX9_init_180 : decode cX9_init 180 = .ok (.iconst (-1), 1) := by decide +kernel
theorem dX9_init_181 : decode cX9_init 181 = .ok (.iastore, 1) := by decide +kernel
theorem dX9_init_182 : decode cX9_init 182 = .ok (.return_, 1) := by decide +kernel
theorem dX9_thrown_0 : decode cX9_thrown 0 = .ok (.aload_n 0, 1) := by decide +kernel
theorem dX9_thrown_1 : decode cX9_thrown 1 = .ok (.getfield 75, 3) := by decide +kernel
theorem dX9_thrown_4 : decode cX9_thrown 4 = .ok (.ireturn, 1) := by decide +kernel
theorem dX9_in_0 : decode cX9_in 0 = .ok (.iload_n 0, 1) := by decide +kernel
theorem dX9_in_1 : decode cX9_in 1 = .ok (.iload_n 1, 1) := by decide +kernel
theorem dX9_in_2 : decode cX9_in 2 = .ok (.if_icmp .lt 12, 3) := by decide +kernel
theorem dX9_in_5 : decode cX9_in 5 = .ok (.iload_n 0, 1) := by decide +kernel
theorem dX9_in_6 : decode cX9_in 6 = .ok (.iload_n 2, 1) := by decide +kernel
theorem dX9_in_7 : decode cX9_in 7 = .ok (.if_icmp .gt 7, 3) := by decide +kernel
theorem dX9_in_10 : decode cX9_in 10 = .ok (.iconst 1, 1) := by decide +kernel
theorem dX9_in_11 : decode cX9_in 11 = .ok (.goto 4, 3) := by decide +kernel
theorem dX9_in_14 : decode cX9_in 14 = .ok (.iconst 0, 1) := by decide +kernel
theorem dX9_in_15 : decode cX9_in 15 = .ok (.ireturn, 1) := by decide +kernel
theorem dX9_fails_0 : decode cX9_fails 0 = .ok (.aload_n 0, 1) := by decide +kernel
theorem dX9_fails_1 : decode cX9_fails 1 = .ok (.iload_n 1, 1) := by decide +kernel
theorem dX9_fails_2 : decode cX9_fails 2 = .ok (.putfield 75, 3) := by decide +kernel
theorem dX9_fails_5 : decode cX9_fails 5 = .ok (.iconst 0, 1) := by decide +kernel
theorem dX9_fails_6 : decode cX9_fails 6 = .ok (.ireturn, 1) := by decide +kernel
theorem dX9_tells_0 : decode cX9_tells 0 = .ok (.aload_n 0, 1) := by decide +kernel
theorem dX9_tells_1 : decode cX9_tells 1 = .ok (.iconst 0, 1) := by decide +kernel
theorem dX9_tells_2 : decode cX9_tells 2 = .ok (.putfield 75, 3) := by decide +kernel
theorem dX9_tells_5 : decode cX9_tells 5 = .ok (.iload_n 1, 1) := by decide +kernel
theorem dX9_tells_6 : decode cX9_tells 6 = .ok (.ireturn, 1) := by decide +kernel
theorem dX9_hold_0 : decode cX9_hold 0 = .ok (.iconst 0, 1) := by decide +kernel
theorem dX9_hold_1 : decode cX9_hold 1 = .ok (.istore_n 1, 1) := by decide +kernel
theorem dX9_hold_2 : decode cX9_hold 2 = .ok (.iload_n 1, 1) := by decide +kernel
theorem dX9_hold_3 : decode cX9_hold 3 = .ok (.bipush 121, 2) := by decide +kernel
theorem dX9_hold_5 : decode cX9_hold 5 = .ok (.if_icmp .ge 21, 3) := by decide +kernel
theorem dX9_hold_8 : decode cX9_hold 8 = .ok (.aload_n 0, 1) := by decide +kernel
theorem dX9_hold_9 : decode cX9_hold 9 = .ok (.getfield 16, 3) := by decide +kernel
theorem dX9_hold_12 : decode cX9_hold 12 = .ok (.iload_n 1, 1) := by decide +kernel
theorem dX9_hold_13 : decode cX9_hold 13 = .ok (.aload_n 0, 1) := by decide +kernel
theorem dX9_hold_14 : decode cX9_hold 14 = .ok (.getfield 7, 3) := by decide +kernel
theorem dX9_hold_17 : decode cX9_hold 17 = .ok (.iload_n 1, 1) := by decide +kernel
theorem dX9_hold_18 : decode cX9_hold 18 = .ok (.iaload, 1) := by decide +kernel
theorem dX9_hold_19 : decode cX9_hold 19 = .ok (.iastore, 1) := by decide +kernel
theorem dX9_hold_20 : decode cX9_hold 20 = .ok (.iinc 1 1, 3) := by decide +kernel
theorem dX9_hold_23 : decode cX9_hold 23 = .ok (.goto (-21), 3) := by decide +kernel
theorem dX9_hold_26 : decode cX9_hold 26 = .ok (.return_, 1) := by decide +kernel
theorem dX9_ends_0 : decode cX9_ends 0 = .ok (.aload_n 0, 1) := by decide +kernel
theorem dX9_ends_1 : decode cX9_ends 1 = .ok (.getfield 79, 3) := by decide +kernel
theorem dX9_ends_4 : decode cX9_ends 4 = .ok (.bipush 6, 2) := by decide +kernel
theorem dX9_ends_6 : decode cX9_ends 6 = .ok (.if_icmp .ne 43, 3) := by decide +kernel
theorem dX9_ends_9 : decode cX9_ends 9 = .ok (.iconst 0, 1) := by decide +kernel
theorem dX9_ends_10 : decode cX9_ends 10 = .ok (.istore_n 2, 1) := by decide +kernel
theorem dX9_ends_11 : decode cX9_ends 11 = .ok (.iload_n 2, 1) := by decide +kernel
theorem dX9_ends_12 : decode cX9_ends 12 = .ok (.sipush 605, 3) := by decide +kernel
theorem dX9_ends_15 : decode cX9_ends 15 = .ok (.if_icmp .ge 24, 3) := by decide +kernel
theorem dX9_ends_18 : decode cX9_ends 18 = .ok (.aload_n 0, 1) := by decide +kernel
theorem dX9_ends_19 : decode cX9_ends 19 = .ok (.getfield 13, 3) := by decide +kernel
theorem dX9_ends_22 : decode cX9_ends 22 = .ok (.iload_n 2, 1) := by decide +kernel
theorem dX9_ends_23 : decode cX9_ends 23 = .ok (.aload_n 0, 1) := by decide +kernel
theorem dX9_ends_24 : decode cX9_ends 24 = .ok (.getfield 13, 3) := by decide +kernel
theorem dX9_ends_27 : decode cX9_ends 27 = .ok (.iload_n 2, 1) := by decide +kernel
theorem dX9_ends_28 : decode cX9_ends 28 = .ok (.bipush 121, 2) := by decide +kernel
theorem dX9_ends_30 : decode cX9_ends 30 = .ok (.iadd, 1) := by decide +kernel
theorem dX9_ends_31 : decode cX9_ends 31 = .ok (.iaload, 1) := by decide +kernel
theorem dX9_ends_32 : decode cX9_ends 32 = .ok (.iastore, 1) := by decide +kernel
theorem dX9_ends_33 : decode cX9_ends 33 = .ok (.iinc 2 1, 3) := by decide +kernel
theorem dX9_ends_36 : decode cX9_ends 36 = .ok (.goto (-25), 3) := by decide +kernel
theorem dX9_ends_39 : decode cX9_ends 39 = .ok (.aload_n 0, 1) := by decide +kernel
theorem dX9_ends_40 : decode cX9_ends 40 = .ok (.dup, 1) := by decide +kernel
theorem dX9_ends_41 : decode cX9_ends 41 = .ok (.getfield 79, 3) := by decide +kernel
theorem dX9_ends_44 : decode cX9_ends 44 = .ok (.iconst 1, 1) := by decide +kernel
theorem dX9_ends_45 : decode cX9_ends 45 = .ok (.isub, 1) := by decide +kernel
theorem dX9_ends_46 : decode cX9_ends 46 = .ok (.putfield 79, 3) := by decide +kernel
theorem dX9_ends_49 : decode cX9_ends 49 = .ok (.iconst 0, 1) := by decide +kernel
theorem dX9_ends_50 : decode cX9_ends 50 = .ok (.istore_n 2, 1) := by decide +kernel
theorem dX9_ends_51 : decode cX9_ends 51 = .ok (.iload_n 2, 1) := by decide +kernel
theorem dX9_ends_52 : decode cX9_ends 52 = .ok (.bipush 121, 2) := by decide +kernel
theorem dX9_ends_54 : decode cX9_ends 54 = .ok (.if_icmp .ge 29, 3) := by decide +kernel
theorem dX9_ends_57 : decode cX9_ends 57 = .ok (.aload_n 0, 1) := by decide +kernel
theorem dX9_ends_58 : decode cX9_ends 58 = .ok (.getfield 13, 3) := by decide +kernel
theorem dX9_ends_61 : decode cX9_ends 61 = .ok (.bipush 121, 2) := by decide +kernel
theorem dX9_ends_63 : decode cX9_ends 63 = .ok (.aload_n 0, 1) := by decide +kernel
theorem dX9_ends_64 : decode cX9_ends 64 = .ok (.getfield 79, 3) := by decide +kernel
theorem dX9_ends_67 : decode cX9_ends 67 = .ok (.imul, 1) := by decide +kernel
theorem dX9_ends_68 : decode cX9_ends 68 = .ok (.iload_n 2, 1) := by decide +kernel
theorem dX9_ends_69 : decode cX9_ends 69 = .ok (.iadd, 1) := by decide +kernel
theorem dX9_ends_70 : decode cX9_ends 70 = .ok (.aload_n 0, 1) := by decide +kernel
theorem dX9_ends_71 : decode cX9_ends 71 = .ok (.getfield 16, 3) := by decide +kernel
theorem dX9_ends_74 : decode cX9_ends 74 = .ok (.iload_n 2, 1) := by decide +kernel
theorem dX9_ends_75 : decode cX9_ends 75 = .ok (.iaload, 1) := by decide +kernel
theorem dX9_ends_76 : decode cX9_ends 76 = .ok (.iastore, 1) := by decide +kernel
theorem dX9_ends_77 : decode cX9_ends 77 = .ok (.iinc 2 1, 3) := by decide +kernel
theorem dX9_ends_80 : decode cX9_ends 80 = .ok (.goto (-29), 3) := by decide +kernel
theorem dX9_ends_83 : decode cX9_ends 83 = .ok (.aload_n 0, 1) := by decide +kernel
theorem dX9_ends_84 : decode cX9_ends 84 = .ok (.dup, 1) := by decide +kernel
theorem dX9_ends_85 : decode cX9_ends 85 = .ok (.getfield 79, 3) := by decide +kernel
theorem dX9_ends_88 : decode cX9_ends 88 = .ok (.iconst 1, 1) := by decide +kernel
theorem dX9_ends_89 : decode cX9_ends 89 = .ok (.iadd, 1) := by decide +kernel
theorem dX9_ends_90 : decode cX9_ends 90 = .ok (.putfield 79, 3) := by decide +kernel
theorem dX9_ends_93 : decode cX9_ends 93 = .ok (.aload_n 0, 1) := by decide +kernel
theorem dX9_ends_94 : decode cX9_ends 94 = .ok (.iload_n 1, 1) := by decide +kernel
theorem dX9_ends_95 : decode cX9_ends 95 = .ok (.invokevirtual 82, 3) := by decide +kernel
theorem dX9_ends_98 : decode cX9_ends 98 = .ok (.ireturn, 1) := by decide +kernel
theorem dX9_begins_0 : decode cX9_begins 0 = .ok (.iconst 0, 1) := by decide +kernel
theorem dX9_begins_1 : decode cX9_begins 1 = .ok (.istore_n 2, 1) := by decide +kernel
theorem dX9_begins_2 : decode cX9_begins 2 = .ok (.iload_n 2, 1) := by decide +kernel
theorem dX9_begins_3 : decode cX9_begins 3 = .ok (.bipush 121, 2) := by decide +kernel
theorem dX9_begins_5 : decode cX9_begins 5 = .ok (.if_icmp .ge 26, 3) := by decide +kernel
theorem dX9_begins_8 : decode cX9_begins 8 = .ok (.aload_n 0, 1) := by decide +kernel
theorem dX9_begins_9 : decode cX9_begins 9 = .ok (.getfield 7, 3) := by decide +kernel
theorem dX9_begins_12 : decode cX9_begins 12 = .ok (.iload_n 2, 1) := by decide +kernel
theorem dX9_begins_13 : decode cX9_begins 13 = .ok (.iload_n 2, 1) := by decide +kernel
theorem dX9_begins_14 : decode cX9_begins 14 = .ok (.bipush 115, 2) := by decide +kernel
theorem dX9_begins_16 : decode cX9_begins 16 = .ok (.if_icmp .ge 7, 3) := by decide +kernel
theorem dX9_begins_19 : decode cX9_begins 19 = .ok (.iconst 0, 1) := by decide +kernel
theorem dX9_begins_20 : decode cX9_begins 20 = .ok (.goto 4, 3) := by decide +kernel
theorem dX9_begins_23 : decode cX9_begins 23 = .ok (.iconst (-1), 1) := by decide +kernel
theorem dX9_begins_24 : decode cX9_begins 24 = .ok (.iastore, 1) := by decide +kernel
theorem dX9_begins_25 : decode cX9_begins 25 = .ok (.iinc 2 1, 3) := by decide +kernel
theorem dX9_begins_28 : decode cX9_begins 28 = .ok (.goto (-26), 3) := by decide +kernel
theorem dX9_begins_31 : decode cX9_begins 31 = .ok (.aload_n 0, 1) := by decide +kernel
theorem dX9_begins_32 : decode cX9_begins 32 = .ok (.getfield 7, 3) := by decide +kernel
theorem dX9_begins_35 : decode cX9_begins 35 = .ok (.iconst 0, 1) := by decide +kernel
theorem dX9_begins_36 : decode cX9_begins 36 = .ok (.iload_n 1, 1) := by decide +kernel
theorem dX9_begins_37 : decode cX9_begins 37 = .ok (.iastore, 1) := by decide +kernel
theorem dX9_begins_38 : decode cX9_begins 38 = .ok (.iconst 0, 1) := by decide +kernel
theorem dX9_begins_39 : decode cX9_begins 39 = .ok (.istore_n 2, 1) := by decide +kernel
theorem dX9_begins_40 : decode cX9_begins 40 = .ok (.iload_n 2, 1) := by decide +kernel
theorem dX9_begins_41 : decode cX9_begins 41 = .ok (.bipush 6, 2) := by decide +kernel
theorem dX9_begins_43 : decode cX9_begins 43 = .ok (.if_icmp .ge 19, 3) := by decide +kernel
theorem dX9_begins_46 : decode cX9_begins 46 = .ok (.aload_n 0, 1) := by decide +kernel
theorem dX9_begins_47 : decode cX9_begins 47 = .ok (.getfield 7, 3) := by decide +kernel
theorem dX9_begins_50 : decode cX9_begins 50 = .ok (.bipush 109, 2) := by decide +kernel
theorem dX9_begins_52 : decode cX9_begins 52 = .ok (.iload_n 2, 1) := by decide +kernel
theorem dX9_begins_53 : decode cX9_begins 53 = .ok (.iadd, 1) := by decide +kernel
theorem dX9_begins_54 : decode cX9_begins 54 = .ok (.iload_n 2, 1) := by decide +kernel
theorem dX9_begins_55 : decode cX9_begins 55 = .ok (.iastore, 1) := by decide +kernel
theorem dX9_begins_56 : decode cX9_begins 56 = .ok (.iinc 2 1, 3) := by decide +kernel
theorem dX9_begins_59 : decode cX9_begins 59 = .ok (.goto (-19), 3) := by decide +kernel
theorem dX9_begins_62 : decode cX9_begins 62 = .ok (.return_, 1) := by decide +kernel
theorem dX9_isOne_0 : decode cX9_isOne 0 = .ok (.iload_n 1, 1) := by decide +kernel
theorem dX9_isOne_1 : decode cX9_isOne 1 = .ok (.iconst 0, 1) := by decide +kernel
theorem dX9_isOne_2 : decode cX9_isOne 2 = .ok (.aload_n 0, 1) := by decide +kernel
theorem dX9_isOne_3 : decode cX9_isOne 3 = .ok (.getfield 7, 3) := by decide +kernel
theorem dX9_isOne_6 : decode cX9_isOne 6 = .ok (.iconst 0, 1) := by decide +kernel
theorem dX9_isOne_7 : decode cX9_isOne 7 = .ok (.iaload, 1) := by decide +kernel
theorem dX9_isOne_8 : decode cX9_isOne 8 = .ok (.iconst 1, 1) := by decide +kernel
theorem dX9_isOne_9 : decode cX9_isOne 9 = .ok (.isub, 1) := by decide +kernel
theorem dX9_isOne_10 : decode cX9_isOne 10 = .ok (.invokestatic 86, 3) := by decide +kernel
theorem dX9_isOne_13 : decode cX9_isOne 13 = .ok (.ireturn, 1) := by decide +kernel
theorem dX9_placeOf_0 : decode cX9_placeOf 0 = .ok (.iconst 1, 1) := by decide +kernel
theorem dX9_placeOf_1 : decode cX9_placeOf 1 = .ok (.bipush 36, 2) := by decide +kernel
theorem dX9_placeOf_3 : decode cX9_placeOf 3 = .ok (.iload_n 0, 1) := by decide +kernel
theorem dX9_placeOf_4 : decode cX9_placeOf 4 = .ok (.imul, 1) := by decide +kernel
theorem dX9_placeOf_5 : decode cX9_placeOf 5 = .ok (.iadd, 1) := by decide +kernel
theorem dX9_placeOf_6 : decode cX9_placeOf 6 = .ok (.bipush 6, 2) := by decide +kernel
theorem dX9_placeOf_8 : decode cX9_placeOf 8 = .ok (.iload_n 1, 1) := by decide +kernel
theorem dX9_placeOf_9 : decode cX9_placeOf 9 = .ok (.imul, 1) := by decide +kernel
theorem dX9_placeOf_10 : decode cX9_placeOf 10 = .ok (.iadd, 1) := by decide +kernel
theorem dX9_placeOf_11 : decode cX9_placeOf 11 = .ok (.iload_n 2, 1) := by decide +kernel
theorem dX9_placeOf_12 : decode cX9_placeOf 12 = .ok (.iadd, 1) := by decide +kernel
theorem dX9_placeOf_13 : decode cX9_placeOf 13 = .ok (.ireturn, 1) := by decide +kernel
theorem dX9_flow_0 : decode cX9_flow 0 = .ok (.aload_n 0, 1) := by decide +kernel
theorem dX9_flow_1 : decode cX9_flow 1 = .ok (.getfield 7, 3) := by decide +kernel
theorem dX9_flow_4 : decode cX9_flow 4 = .ok (.iconst 0, 1) := by decide +kernel
theorem dX9_flow_5 : decode cX9_flow 5 = .ok (.iload_n 1, 1) := by decide +kernel
theorem dX9_flow_6 : decode cX9_flow 6 = .ok (.iload_n 2, 1) := by decide +kernel
theorem dX9_flow_7 : decode cX9_flow 7 = .ok (.invokestatic 90, 3) := by decide +kernel
theorem dX9_flow_10 : decode cX9_flow 10 = .ok (.iaload, 1) := by decide +kernel
theorem dX9_flow_11 : decode cX9_flow 11 = .ok (.ireturn, 1) := by decide +kernel
theorem dX9_far_0 : decode cX9_far 0 = .ok (.aload_n 0, 1) := by decide +kernel
theorem dX9_far_1 : decode cX9_far 1 = .ok (.getfield 7, 3) := by decide +kernel
theorem dX9_far_4 : decode cX9_far 4 = .ok (.iconst 1, 1) := by decide +kernel
theorem dX9_far_5 : decode cX9_far 5 = .ok (.iload_n 1, 1) := by decide +kernel
theorem dX9_far_6 : decode cX9_far 6 = .ok (.iload_n 2, 1) := by decide +kernel
theorem dX9_far_7 : decode cX9_far 7 = .ok (.invokestatic 90, 3) := by decide +kernel
theorem dX9_far_10 : decode cX9_far 10 = .ok (.iaload, 1) := by decide +kernel
theorem dX9_far_11 : decode cX9_far 11 = .ok (.ireturn, 1) := by decide +kernel
theorem dX9_price_0 : decode cX9_price 0 = .ok (.aload_n 0, 1) := by decide +kernel
theorem dX9_price_1 : decode cX9_price 1 = .ok (.getfield 7, 3) := by decide +kernel
theorem dX9_price_4 : decode cX9_price 4 = .ok (.iconst 2, 1) := by decide +kernel
theorem dX9_price_5 : decode cX9_price 5 = .ok (.iload_n 1, 1) := by decide +kernel
theorem dX9_price_6 : decode cX9_price 6 = .ok (.iload_n 2, 1) := by decide +kernel
theorem dX9_price_7 : decode cX9_price 7 = .ok (.invokestatic 90, 3) := by decide +kernel
theorem dX9_price_10 : decode cX9_price 10 = .ok (.iaload, 1) := by decide +kernel
theorem dX9_price_11 : decode cX9_price 11 = .ok (.ireturn, 1) := by decide +kernel
theorem dX9_resize_0 : decode cX9_resize 0 = .ok (.iload_n 1, 1) := by decide +kernel
theorem dX9_resize_1 : decode cX9_resize 1 = .ok (.iconst 1, 1) := by decide +kernel
theorem dX9_resize_2 : decode cX9_resize 2 = .ok (.bipush 6, 2) := by decide +kernel
theorem dX9_resize_4 : decode cX9_resize 4 = .ok (.invokestatic 86, 3) := by decide +kernel
theorem dX9_resize_7 : decode cX9_resize 7 = .ok (.ifCond .ne 9, 3) := by decide +kernel
theorem dX9_resize_10 : decode cX9_resize 10 = .ok (.aload_n 0, 1) := by decide +kernel
theorem dX9_resize_11 : decode cX9_resize 11 = .ok (.iconst 1, 1) := by decide +kernel
theorem dX9_resize_12 : decode cX9_resize 12 = .ok (.invokevirtual 94, 3) := by decide +kernel
theorem dX9_resize_15 : decode cX9_resize 15 = .ok (.ireturn, 1) := by decide +kernel
theorem dX9_resize_16 : decode cX9_resize 16 = .ok (.aload_n 0, 1) := by decide +kernel
theorem dX9_resize_17 : decode cX9_resize 17 = .ok (.invokevirtual 97, 3) := by decide +kernel
theorem dX9_resize_20 : decode cX9_resize 20 = .ok (.aload_n 0, 1) := by decide +kernel
theorem dX9_resize_21 : decode cX9_resize 21 = .ok (.getfield 7, 3) := by decide +kernel
theorem dX9_resize_24 : decode cX9_resize 24 = .ok (.iconst 0, 1) := by decide +kernel
theorem dX9_resize_25 : decode cX9_resize 25 = .ok (.iaload, 1) := by decide +kernel
theorem dX9_resize_26 : decode cX9_resize 26 = .ok (.istore_n 2, 1) := by decide +kernel
theorem dX9_resize_27 : decode cX9_resize 27 = .ok (.aload_n 0, 1) := by decide +kernel
theorem dX9_resize_28 : decode cX9_resize 28 = .ok (.iload_n 1, 1) := by decide +kernel
theorem dX9_resize_29 : decode cX9_resize 29 = .ok (.invokevirtual 71, 3) := by decide +kernel
theorem dX9_resize_32 : decode cX9_resize 32 = .ok (.aload_n 0, 1) := by decide +kernel
theorem dX9_resize_33 : decode cX9_resize 33 = .ok (.iload_n 2, 1) := by decide +kernel
theorem dX9_resize_34 : decode cX9_resize 34 = .ok (.invokevirtual 100, 3) := by decide +kernel
theorem dX9_resize_37 : decode cX9_resize 37 = .ok (.ireturn, 1) := by decide +kernel
theorem dX9_size_0 : decode cX9_size 0 = .ok (.aload_n 0, 1) := by decide +kernel
theorem dX9_size_1 : decode cX9_size 1 = .ok (.aload_n 0, 1) := by decide +kernel
theorem dX9_size_2 : decode cX9_size 2 = .ok (.getfield 7, 3) := by decide +kernel
theorem dX9_size_5 : decode cX9_size 5 = .ok (.iconst 0, 1) := by decide +kernel
theorem dX9_size_6 : decode cX9_size 6 = .ok (.iaload, 1) := by decide +kernel
theorem dX9_size_7 : decode cX9_size 7 = .ok (.invokevirtual 82, 3) := by decide +kernel
theorem dX9_size_10 : decode cX9_size 10 = .ok (.ireturn, 1) := by decide +kernel
theorem dX9_set_0 : decode cX9_set 0 = .ok (.aload_n 0, 1) := by decide +kernel
theorem dX9_set_1 : decode cX9_set 1 = .ok (.iload_n 2, 1) := by decide +kernel
theorem dX9_set_2 : decode cX9_set 2 = .ok (.invokevirtual 103, 3) := by decide +kernel
theorem dX9_set_5 : decode cX9_set 5 = .ok (.ifCond .eq 11, 3) := by decide +kernel
theorem dX9_set_8 : decode cX9_set 8 = .ok (.aload_n 0, 1) := by decide +kernel
theorem dX9_set_9 : decode cX9_set 9 = .ok (.iload_n 3, 1) := by decide +kernel
theorem dX9_set_10 : decode cX9_set 10 = .ok (.invokevirtual 103, 3) := by decide +kernel
theorem dX9_set_13 : decode cX9_set 13 = .ok (.ifCond .ne 9, 3) := by decide +kernel
theorem dX9_set_16 : decode cX9_set 16 = .ok (.aload_n 0, 1) := by decide +kernel
theorem dX9_set_17 : decode cX9_set 17 = .ok (.iconst 1, 1) := by decide +kernel
theorem dX9_set_18 : decode cX9_set 18 = .ok (.invokevirtual 94, 3) := by decide +kernel
theorem dX9_set_21 : decode cX9_set 21 = .ok (.ireturn, 1) := by decide +kernel
theorem dX9_set_22 : decode cX9_set 22 = .ok (.iload_n 1, 1) := by decide +kernel
theorem dX9_set_23 : decode cX9_set 23 = .ok (.iconst 0, 1) := by decide +kernel
theorem dX9_set_24 : decode cX9_set 24 = .ok (.iconst 2, 1) := by decide +kernel
theorem dX9_set_25 : decode cX9_set 25 = .ok (.invokestatic 86, 3) := by decide +kernel
theorem dX9_set_28 : decode cX9_set 28 = .ok (.ifCond .eq 14, 3) := by decide +kernel
theorem dX9_set_31 : decode cX9_set 31 = .ok (.iload 4, 2) := by decide +kernel
theorem dX9_set_33 : decode cX9_set 33 = .ok (.iconst 0, 1) := by decide +kernel
theorem dX9_set_34 : decode cX9_set 34 = .ok (.bipush 99, 2) := by decide +kernel
theorem dX9_set_36 : decode cX9_set 36 = .ok (.invokestatic 86, 3) := by decide +kernel
theorem dX9_set_39 : decode cX9_set 39 = .ok (.ifCond .ne 9, 3) := by decide +kernel
theorem dX9_set_42 : decode cX9_set 42 = .ok (.aload_n 0, 1) := by decide +kernel
theorem dX9_set_43 : decode cX9_set 43 = .ok (.iconst 2, 1) := by decide +kernel
theorem dX9_set_44 : decode cX9_set 44 = .ok (.invokevirtual 94, 3) := by decide +kernel
theorem dX9_set_47 : decode cX9_set 47 = .ok (.ireturn, 1) := by decide +kernel
theorem dX9_set_48 : decode cX9_set 48 = .ok (.aload_n 0, 1) := by decide +kernel
theorem dX9_set_49 : decode cX9_set 49 = .ok (.invokevirtual 97, 3) := by decide +kernel
theorem dX9_set_52 : decode cX9_set 52 = .ok (.aload_n 0, 1) := by decide +kernel
theorem dX9_set_53 : decode cX9_set 53 = .ok (.getfield 7, 3) := by decide +kernel
theorem dX9_set_56 : decode cX9_set 56 = .ok (.iload_n 1, 1) := by decide +kernel
theorem dX9_set_57 : decode cX9_set 57 = .ok (.iload_n 2, 1) := by decide +kernel
theorem dX9_set_58 : decode cX9_set 58 = .ok (.iload_n 3, 1) := by decide +kernel
theorem dX9_set_59 : decode cX9_set 59 = .ok (.invokestatic 90, 3) := by decide +kernel
theorem dX9_set_62 : decode cX9_set 62 = .ok (.iaload, 1) := by decide +kernel
theorem dX9_set_63 : decode cX9_set 63 = .ok (.istore 5, 2) := by decide +kernel
theorem dX9_set_65 : decode cX9_set 65 = .ok (.aload_n 0, 1) := by decide +kernel
theorem dX9_set_66 : decode cX9_set 66 = .ok (.getfield 7, 3) := by decide +kernel
theorem dX9_set_69 : decode cX9_set 69 = .ok (.iload_n 1, 1) := by decide +kernel
theorem dX9_set_70 : decode cX9_set 70 = .ok (.iload_n 2, 1) := by decide +kernel
theorem dX9_set_71 : decode cX9_set 71 = .ok (.iload_n 3, 1) := by decide +kernel
theorem dX9_set_72 : decode cX9_set 72 = .ok (.invokestatic 90, 3) := by decide +kernel
theorem dX9_set_75 : decode cX9_set 75 = .ok (.iload 4, 2) := by decide +kernel
theorem dX9_set_77 : decode cX9_set 77 = .ok (.iastore, 1) := by decide +kernel
theorem dX9_set_78 : decode cX9_set 78 = .ok (.aload_n 0, 1) := by decide +kernel
theorem dX9_set_79 : decode cX9_set 79 = .ok (.iload 5, 2) := by decide +kernel
theorem dX9_set_81 : decode cX9_set 81 = .ok (.invokevirtual 100, 3) := by decide +kernel
theorem dX9_set_84 : decode cX9_set 84 = .ok (.ireturn, 1) := by decide +kernel
theorem dX9_get_0 : decode cX9_get 0 = .ok (.aload_n 0, 1) := by decide +kernel
theorem dX9_get_1 : decode cX9_get 1 = .ok (.iload_n 2, 1) := by decide +kernel
theorem dX9_get_2 : decode cX9_get 2 = .ok (.invokevirtual 103, 3) := by decide +kernel
theorem dX9_get_5 : decode cX9_get 5 = .ok (.ifCond .eq 11, 3) := by decide +kernel
theorem dX9_get_8 : decode cX9_get 8 = .ok (.aload_n 0, 1) := by decide +kernel
theorem dX9_get_9 : decode cX9_get 9 = .ok (.iload_n 3, 1) := by decide +kernel
theorem dX9_get_10 : decode cX9_get 10 = .ok (.invokevirtual 103, 3) := by decide +kernel
theorem dX9_get_13 : decode cX9_get 13 = .ok (.ifCond .ne 9, 3) := by decide +kernel
theorem dX9_get_16 : decode cX9_get 16 = .ok (.aload_n 0, 1) := by decide +kernel
theorem dX9_get_17 : decode cX9_get 17 = .ok (.iconst 1, 1) := by decide +kernel
theorem dX9_get_18 : decode cX9_get 18 = .ok (.invokevirtual 94, 3) := by decide +kernel
theorem dX9_get_21 : decode cX9_get 21 = .ok (.ireturn, 1) := by decide +kernel
theorem dX9_get_22 : decode cX9_get 22 = .ok (.iload_n 1, 1) := by decide +kernel
theorem dX9_get_23 : decode cX9_get 23 = .ok (.iconst 0, 1) := by decide +kernel
theorem dX9_get_24 : decode cX9_get 24 = .ok (.iconst 2, 1) := by decide +kernel
theorem dX9_get_25 : decode cX9_get 25 = .ok (.invokestatic 86, 3) := by decide +kernel
theorem dX9_get_28 : decode cX9_get 28 = .ok (.ifCond .eq 21, 3) := by decide +kernel
theorem dX9_get_31 : decode cX9_get 31 = .ok (.aload_n 0, 1) := by decide +kernel
theorem dX9_get_32 : decode cX9_get 32 = .ok (.aload_n 0, 1) := by decide +kernel
theorem dX9_get_33 : decode cX9_get 33 = .ok (.getfield 7, 3) := by decide +kernel
theorem dX9_get_36 : decode cX9_get 36 = .ok (.iload_n 1, 1) := by decide +kernel
theorem dX9_get_37 : decode cX9_get 37 = .ok (.iload_n 2, 1) := by decide +kernel
theorem dX9_get_38 : decode cX9_get 38 = .ok (.iload_n 3, 1) := by decide +kernel
theorem dX9_get_39 : decode cX9_get 39 = .ok (.invokestatic 90, 3) := by decide +kernel
theorem dX9_get_42 : decode cX9_get 42 = .ok (.iaload, 1) := by decide +kernel
theorem dX9_get_43 : decode cX9_get 43 = .ok (.invokevirtual 82, 3) := by decide +kernel
theorem dX9_get_46 : decode cX9_get 46 = .ok (.goto 8, 3) := by decide +kernel
theorem dX9_get_49 : decode cX9_get 49 = .ok (.aload_n 0, 1) := by decide +kernel
theorem dX9_get_50 : decode cX9_get 50 = .ok (.iconst 2, 1) := by decide +kernel
theorem dX9_get_51 : decode cX9_get 51 = .ok (.invokevirtual 94, 3) := by decide +kernel
theorem dX9_get_54 : decode cX9_get 54 = .ok (.ireturn, 1) := by decide +kernel
theorem dX9_fill_0 : decode cX9_fill 0 = .ok (.iload_n 1, 1) := by decide +kernel
theorem dX9_fill_1 : decode cX9_fill 1 = .ok (.iconst 0, 1) := by decide +kernel
theorem dX9_fill_2 : decode cX9_fill 2 = .ok (.iconst 2, 1) := by decide +kernel
theorem dX9_fill_3 : decode cX9_fill 3 = .ok (.invokestatic 86, 3) := by decide +kernel
theorem dX9_fill_6 : decode cX9_fill 6 = .ok (.ifCond .eq 17, 3) := by decide +kernel
theorem dX9_fill_9 : decode cX9_fill 9 = .ok (.iload_n 2, 1) := by decide +kernel
theorem dX9_fill_10 : decode cX9_fill 10 = .ok (.ifCond .lt 13, 3) := by decide +kernel
theorem dX9_fill_13 : decode cX9_fill 13 = .ok (.iload_n 3, 1) := by decide +kernel
theorem dX9_fill_14 : decode cX9_fill 14 = .ok (.iconst 0, 1) := by decide +kernel
theorem dX9_fill_15 : decode cX9_fill 15 = .ok (.bipush 99, 2) := by decide +kernel
theorem dX9_fill_17 : decode cX9_fill 17 = .ok (.invokestatic 86, 3) := by decide +kernel
theorem dX9_fill_20 : decode cX9_fill 20 = .ok (.ifCond .ne 9, 3) := by decide +kernel
theorem dX9_fill_23 : decode cX9_fill 23 = .ok (.aload_n 0, 1) := by decide +kernel
theorem dX9_fill_24 : decode cX9_fill 24 = .ok (.iconst 1, 1) := by decide +kernel
theorem dX9_fill_25 : decode cX9_fill 25 = .ok (.invokevirtual 94, 3) := by decide +kernel
theorem dX9_fill_28 : decode cX9_fill 28 = .ok (.ireturn, 1) := by decide +kernel
theorem dX9_fill_29 : decode cX9_fill 29 = .ok (.aload_n 0, 1) := by decide +kernel
theorem dX9_fill_30 : decode cX9_fill 30 = .ok (.invokevirtual 97, 3) := by decide +kernel
theorem dX9_fill_33 : decode cX9_fill 33 = .ok (.iload_n 2, 1) := by decide +kernel
theorem dX9_fill_34 : decode cX9_fill 34 = .ok (.i2l, 1) := by decide +kernel
theorem dX9_fill_35 : decode cX9_fill 35 = .ok (.lstore 5, 2) := by decide +kernel
theorem dX9_fill_37 : decode cX9_fill 37 = .ok (.iconst 0, 1) := by decide +kernel
theorem dX9_fill_38 : decode cX9_fill 38 = .ok (.istore 7, 2) := by decide +kernel
theorem dX9_fill_40 : decode cX9_fill 40 = .ok (.iload 7, 2) := by decide +kernel
theorem dX9_fill_42 : decode cX9_fill 42 = .ok (.aload_n 0, 1) := by decide +kernel
theorem dX9_fill_43 : decode cX9_fill 43 = .ok (.getfield 7, 3) := by decide +kernel
theorem dX9_fill_46 : decode cX9_fill 46 = .ok (.iconst 0, 1) := by decide +kernel
theorem dX9_fill_47 : decode cX9_fill 47 = .ok (.iaload, 1) := by decide +kernel
theorem dX9_fill_48 : decode cX9_fill 48 = .ok (.aload_n 0, 1) := by decide +kernel
theorem dX9_fill_49 : decode cX9_fill 49 = .ok (.getfield 7, 3) := by decide +kernel
theorem dX9_fill_52 : decode cX9_fill 52 = .ok (.iconst 0, 1) := by decide +kernel
theorem dX9_fill_53 : decode cX9_fill 53 = .ok (.iaload, 1) := by decide +kernel
theorem dX9_fill_54 : decode cX9_fill 54 = .ok (.imul, 1) := by decide +kernel
theorem dX9_fill_55 : decode cX9_fill 55 = .ok (.if_icmp .ge 64, 3) := by decide +kernel
theorem dX9_fill_58 : decode cX9_fill 58 = .ok (.ldc2_w 107, 3) := by decide +kernel
theorem dX9_fill_61 : decode cX9_fill 61 = .ok (.lload 5, 2) := by decide +kernel
theorem dX9_fill_63 : decode cX9_fill 63 = .ok (.lmul, 1) := by decide +kernel
theorem dX9_fill_64 : decode cX9_fill 64 = .ok (.ldc2_w 109, 3) := by decide +kernel
theorem dX9_fill_67 : decode cX9_fill 67 = .ok (.ladd, 1) := by decide +kernel
theorem dX9_fill_68 : decode cX9_fill 68 = .ok (.ldc2_w 111, 3) := by decide +kernel
theorem dX9_fill_71 : decode cX9_fill 71 = .ok (.lrem, 1) := by decide +kernel
theorem dX9_fill_72 : decode cX9_fill 72 = .ok (.lstore 5, 2) := by decide +kernel
theorem dX9_fill_74 : decode cX9_fill 74 = .ok (.aload_n 0, 1) := by decide +kernel
theorem dX9_fill_75 : decode cX9_fill 75 = .ok (.getfield 7, 3) := by decide +kernel
theorem dX9_fill_78 : decode cX9_fill 78 = .ok (.iload_n 1, 1) := by decide +kernel
theorem dX9_fill_79 : decode cX9_fill 79 = .ok (.iload 7, 2) := by decide +kernel
theorem dX9_fill_81 : decode cX9_fill 81 = .ok (.aload_n 0, 1) := by decide +kernel
theorem dX9_fill_82 : decode cX9_fill 82 = .ok (.getfield 7, 3) := by decide +kernel
theorem dX9_fill_85 : decode cX9_fill 85 = .ok (.iconst 0, 1) := by decide +kernel
theorem dX9_fill_86 : decode cX9_fill 86 = .ok (.iaload, 1) := by decide +kernel
theorem dX9_fill_87 : decode cX9_fill 87 = .ok (.idiv, 1) := by decide +kernel
theorem dX9_fill_88 : decode cX9_fill 88 = .ok (.iload 7, 2) := by decide +kernel
theorem dX9_fill_90 : decode cX9_fill 90 = .ok (.aload_n 0, 1) := by decide +kernel
theorem dX9_fill_91 : decode cX9_fill 91 = .ok (.getfield 7, 3) := by decide +kernel
theorem dX9_fill_94 : decode cX9_fill 94 = .ok (.iconst 0, 1) := by decide +kernel
theorem dX9_fill_95 : decode cX9_fill 95 = .ok (.iaload, 1) := by decide +kernel
theorem dX9_fill_96 : decode cX9_fill 96 = .ok (.irem, 1) := by decide +kernel
theorem dX9_fill_97 : decode cX9_fill 97 = .ok (.invokestatic 90, 3) := by decide +kernel
theorem dX9_fill_100 : decode cX9_fill 100 = .ok (.lload 5, 2) := by decide +kernel
theorem dX9_fill_102 : decode cX9_fill 102 = .ok (.ldc2_w 113, 3) := by decide +kernel
theorem dX9_fill_105 : decode cX9_fill 105 = .ok (.ldiv, 1) := by decide +kernel
theorem dX9_fill_106 : decode cX9_fill 106 = .ok (.iload_n 3, 1) := by decide +kernel
theorem dX9_fill_107 : decode cX9_fill 107 = .ok (.i2l, 1) := by decide +kernel
theorem dX9_fill_108 : decode cX9_fill 108 = .ok (.lconst 1, 1) := by decide +kernel
theorem dX9_fill_109 : decode cX9_fill 109 = .ok (.ladd, 1) := by decide +kernel
theorem dX9_fill_110 : decode cX9_fill 110 = .ok (.lrem, 1) := by decide +kernel
theorem dX9_fill_111 : decode cX9_fill 111 = .ok (.l2i, 1) := by decide +kernel
theorem dX9_fill_112 : decode cX9_fill 112 = .ok (.iastore, 1) := by decide +kernel
theorem dX9_fill_113 : decode cX9_fill 113 = .ok (.iinc 7 1, 3) := by decide +kernel
theorem dX9_fill_116 : decode cX9_fill 116 = .ok (.goto (-76), 3) := by decide +kernel
theorem dX9_fill_119 : decode cX9_fill 119 = .ok (.iconst 0, 1) := by decide +kernel
theorem dX9_fill_120 : decode cX9_fill 120 = .ok (.istore 7, 2) := by decide +kernel
theorem dX9_fill_122 : decode cX9_fill 122 = .ok (.iconst 0, 1) := by decide +kernel
theorem dX9_fill_123 : decode cX9_fill 123 = .ok (.istore 8, 2) := by decide +kernel
theorem dX9_fill_125 : decode cX9_fill 125 = .ok (.iload 8, 2) := by decide +kernel
theorem dX9_fill_127 : decode cX9_fill 127 = .ok (.aload_n 0, 1) := by decide +kernel
theorem dX9_fill_128 : decode cX9_fill 128 = .ok (.getfield 7, 3) := by decide +kernel
theorem dX9_fill_131 : decode cX9_fill 131 = .ok (.iconst 0, 1) := by decide +kernel
theorem dX9_fill_132 : decode cX9_fill 132 = .ok (.iaload, 1) := by decide +kernel
theorem dX9_fill_133 : decode cX9_fill 133 = .ok (.if_icmp .ge 104, 3) := by decide +kernel
theorem dX9_fill_136 : decode cX9_fill 136 = .ok (.iconst 0, 1) := by decide +kernel
theorem dX9_fill_137 : decode cX9_fill 137 = .ok (.istore 9, 2) := by decide +kernel
theorem dX9_fill_139 : decode cX9_fill 139 = .ok (.iload 9, 2) := by decide +kernel
theorem dX9_fill_141 : decode cX9_fill 141 = .ok (.aload_n 0, 1) := by decide +kernel
theorem dX9_fill_142 : decode cX9_fill 142 = .ok (.getfield 7, 3) := by decide +kernel
theorem dX9_fill_145 : decode cX9_fill 145 = .ok (.iconst 0, 1) := by decide +kernel
theorem dX9_fill_146 : decode cX9_fill 146 = .ok (.iaload, 1) := by decide +kernel
theorem dX9_fill_147 : decode cX9_fill 147 = .ok (.if_icmp .ge 84, 3) := by decide +kernel
theorem dX9_fill_150 : decode cX9_fill 150 = .ok (.iload_n 1, 1) := by decide +kernel
theorem dX9_fill_151 : decode cX9_fill 151 = .ok (.iload 8, 2) := by decide +kernel
theorem dX9_fill_153 : decode cX9_fill 153 = .ok (.iload 9, 2) := by decide +kernel
theorem dX9_fill_155 : decode cX9_fill 155 = .ok (.invokestatic 90, 3) := by decide +kernel
theorem dX9_fill_158 : decode cX9_fill 158 = .ok (.istore 10, 2) := by decide +kernel
theorem dX9_fill_160 : decode cX9_fill 160 = .ok (.aload_n 0, 1) := by decide +kernel
theorem dX9_fill_161 : decode cX9_fill 161 = .ok (.getfield 7, 3) := by decide +kernel
theorem dX9_fill_164 : decode cX9_fill 164 = .ok (.iload 10, 2) := by decide +kernel
theorem dX9_fill_166 : decode cX9_fill 166 = .ok (.iload 4, 2) := by decide +kernel
theorem dX9_fill_168 : decode cX9_fill 168 = .ok (.ifCond .eq 10, 3) := by decide +kernel
theorem dX9_fill_171 : decode cX9_fill 171 = .ok (.iload 9, 2) := by decide +kernel
theorem dX9_fill_173 : decode cX9_fill 173 = .ok (.iload 8, 2) := by decide +kernel
theorem dX9_fill_175 : decode cX9_fill 175 = .ok (.if_icmp .le 13, 3) := by decide +kernel
theorem dX9_fill_178 : decode cX9_fill 178 = .ok (.aload_n 0, 1) := by decide +kernel
theorem dX9_fill_179 : decode cX9_fill 179 = .ok (.getfield 7, 3) := by decide +kernel
theorem dX9_fill_182 : decode cX9_fill 182 = .ok (.iload 10, 2) := by decide +kernel
theorem dX9_fill_184 : decode cX9_fill 184 = .ok (.iaload, 1) := by decide +kernel
theorem dX9_fill_185 : decode cX9_fill 185 = .ok (.goto 27, 3) := by decide +kernel
theorem dX9_fill_188 : decode cX9_fill 188 = .ok (.iload 8, 2) := by decide +kernel
theorem dX9_fill_190 : decode cX9_fill 190 = .ok (.iload 9, 2) := by decide +kernel
theorem dX9_fill_192 : decode cX9_fill 192 = .ok (.if_icmp .ne 7, 3) := by decide +kernel
theorem dX9_fill_195 : decode cX9_fill 195 = .ok (.iconst 0, 1) := by decide +kernel
theorem dX9_fill_196 : decode cX9_fill 196 = .ok (.goto 16, 3) := by decide +kernel
theorem dX9_fill_199 : decode cX9_fill 199 = .ok (.aload_n 0, 1) := by decide +kernel
theorem dX9_fill_200 : decode cX9_fill 200 = .ok (.getfield 7, 3) := by decide +kernel
theorem dX9_fill_203 : decode cX9_fill 203 = .ok (.iload_n 1, 1) := by decide +kernel
theorem dX9_fill_204 : decode cX9_fill 204 = .ok (.iload 9, 2) := by decide +kernel
theorem dX9_fill_206 : decode cX9_fill 206 = .ok (.iload 8, 2) := by decide +kernel
theorem dX9_fill_208 : decode cX9_fill 208 = .ok (.invokestatic 90, 3) := by decide +kernel
theorem dX9_fill_211 : decode cX9_fill 211 = .ok (.iaload, 1) := by decide +kernel
theorem dX9_fill_212 : decode cX9_fill 212 = .ok (.iastore, 1) := by decide +kernel
theorem dX9_fill_213 : decode cX9_fill 213 = .ok (.iload 7, 2) := by decide +kernel
theorem dX9_fill_215 : decode cX9_fill 215 = .ok (.aload_n 0, 1) := by decide +kernel
theorem dX9_fill_216 : decode cX9_fill 216 = .ok (.getfield 7, 3) := by decide +kernel
theorem dX9_fill_219 : decode cX9_fill 219 = .ok (.iload 10, 2) := by decide +kernel
theorem dX9_fill_221 : decode cX9_fill 221 = .ok (.iaload, 1) := by decide +kernel
theorem dX9_fill_222 : decode cX9_fill 222 = .ok (.iadd, 1) := by decide +kernel
theorem dX9_fill_223 : decode cX9_fill 223 = .ok (.istore 7, 2) := by decide +kernel
theorem dX9_fill_225 : decode cX9_fill 225 = .ok (.iinc 9 1, 3) := by decide +kernel
theorem dX9_fill_228 : decode cX9_fill 228 = .ok (.goto (-89), 3) := by decide +kernel
theorem dX9_fill_231 : decode cX9_fill 231 = .ok (.iinc 8 1, 3) := by decide +kernel
theorem dX9_fill_234 : decode cX9_fill 234 = .ok (.goto (-109), 3) := by decide +kernel
theorem dX9_fill_237 : decode cX9_fill 237 = .ok (.aload_n 0, 1) := by decide +kernel
theorem dX9_fill_238 : decode cX9_fill 238 = .ok (.iload 7, 2) := by decide +kernel
theorem dX9_fill_240 : decode cX9_fill 240 = .ok (.invokevirtual 100, 3) := by decide +kernel
theorem dX9_fill_243 : decode cX9_fill 243 = .ok (.ireturn, 1) := by decide +kernel
theorem dX9_takes_0 : decode cX9_takes 0 = .ok (.iconst 0, 1) := by decide +kernel
theorem dX9_takes_1 : decode cX9_takes 1 = .ok (.istore_n 1, 1) := by decide +kernel
theorem dX9_takes_2 : decode cX9_takes 2 = .ok (.iload_n 1, 1) := by decide +kernel
theorem dX9_takes_3 : decode cX9_takes 3 = .ok (.aload_n 0, 1) := by decide +kernel
theorem dX9_takes_4 : decode cX9_takes 4 = .ok (.getfield 7, 3) := by decide +kernel
theorem dX9_takes_7 : decode cX9_takes 7 = .ok (.iconst 0, 1) := by decide +kernel
theorem dX9_takes_8 : decode cX9_takes 8 = .ok (.iaload, 1) := by decide +kernel
theorem dX9_takes_9 : decode cX9_takes 9 = .ok (.if_icmp .ge 24, 3) := by decide +kernel
theorem dX9_takes_12 : decode cX9_takes 12 = .ok (.aload_n 0, 1) := by decide +kernel
theorem dX9_takes_13 : decode cX9_takes 13 = .ok (.getfield 22, 3) := by decide +kernel
theorem dX9_takes_16 : decode cX9_takes 16 = .ok (.iload_n 1, 1) := by decide +kernel
theorem dX9_takes_17 : decode cX9_takes 17 = .ok (.aload_n 0, 1) := by decide +kernel
theorem dX9_takes_18 : decode cX9_takes 18 = .ok (.getfield 7, 3) := by decide +kernel
theorem dX9_takes_21 : decode cX9_takes 21 = .ok (.bipush 109, 2) := by decide +kernel
theorem dX9_takes_23 : decode cX9_takes 23 = .ok (.iload_n 1, 1) := by decide +kernel
theorem dX9_takes_24 : decode cX9_takes 24 = .ok (.iadd, 1) := by decide +kernel
theorem dX9_takes_25 : decode cX9_takes 25 = .ok (.iaload, 1) := by decide +kernel
theorem dX9_takes_26 : decode cX9_takes 26 = .ok (.iastore, 1) := by decide +kernel
theorem dX9_takes_27 : decode cX9_takes 27 = .ok (.iinc 1 1, 3) := by decide +kernel
theorem dX9_takes_30 : decode cX9_takes 30 = .ok (.goto (-28), 3) := by decide +kernel
theorem dX9_takes_33 : decode cX9_takes 33 = .ok (.return_, 1) := by decide +kernel
theorem dX9_firsts_0 : decode cX9_firsts 0 = .ok (.iconst 0, 1) := by decide +kernel
theorem dX9_firsts_1 : decode cX9_firsts 1 = .ok (.istore_n 1, 1) := by decide +kernel
theorem dX9_firsts_2 : decode cX9_firsts 2 = .ok (.iload_n 1, 1) := by decide +kernel
theorem dX9_firsts_3 : decode cX9_firsts 3 = .ok (.bipush 6, 2) := by decide +kernel
theorem dX9_firsts_5 : decode cX9_firsts 5 = .ok (.if_icmp .ge 16, 3) := by decide +kernel
theorem dX9_firsts_8 : decode cX9_firsts 8 = .ok (.aload_n 0, 1) := by decide +kernel
theorem dX9_firsts_9 : decode cX9_firsts 9 = .ok (.getfield 22, 3) := by decide +kernel
theorem dX9_firsts_12 : decode cX9_firsts 12 = .ok (.iload_n 1, 1) := by decide +kernel
theorem dX9_firsts_13 : decode cX9_firsts 13 = .ok (.iload_n 1, 1) := by decide +kernel
theorem dX9_firsts_14 : decode cX9_firsts 14 = .ok (.iastore, 1) := by decide +kernel
theorem dX9_firsts_15 : decode cX9_firsts 15 = .ok (.iinc 1 1, 3) := by decide +kernel
theorem dX9_firsts_18 : decode cX9_firsts 18 = .ok (.goto (-16), 3) := by decide +kernel
theorem dX9_firsts_21 : decode cX9_firsts 21 = .ok (.return_, 1) := by decide +kernel
theorem dX9_swaps_0 : decode cX9_swaps 0 = .ok (.aload_n 0, 1) := by decide +kernel
theorem dX9_swaps_1 : decode cX9_swaps 1 = .ok (.getfield 22, 3) := by decide +kernel
theorem dX9_swaps_4 : decode cX9_swaps 4 = .ok (.iload_n 1, 1) := by decide +kernel
theorem dX9_swaps_5 : decode cX9_swaps 5 = .ok (.iaload, 1) := by decide +kernel
theorem dX9_swaps_6 : decode cX9_swaps 6 = .ok (.istore_n 3, 1) := by decide +kernel
theorem dX9_swaps_7 : decode cX9_swaps 7 = .ok (.aload_n 0, 1) := by decide +kernel
theorem dX9_swaps_8 : decode cX9_swaps 8 = .ok (.getfield 22, 3) := by decide +kernel
theorem dX9_swaps_11 : decode cX9_swaps 11 = .ok (.iload_n 1, 1) := by decide +kernel
theorem dX9_swaps_12 : decode cX9_swaps 12 = .ok (.aload_n 0, 1) := by decide +kernel
theorem dX9_swaps_13 : decode cX9_swaps 13 = .ok (.getfield 22, 3) := by decide +kernel
theorem dX9_swaps_16 : decode cX9_swaps 16 = .ok (.iload_n 2, 1) := by decide +kernel
theorem dX9_swaps_17 : decode cX9_swaps 17 = .ok (.iaload, 1) := by decide +kernel
theorem dX9_swaps_18 : decode cX9_swaps 18 = .ok (.iastore, 1) := by decide +kernel
theorem dX9_swaps_19 : decode cX9_swaps 19 = .ok (.aload_n 0, 1) := by decide +kernel
theorem dX9_swaps_20 : decode cX9_swaps 20 = .ok (.getfield 22, 3) := by decide +kernel
theorem dX9_swaps_23 : decode cX9_swaps 23 = .ok (.iload_n 2, 1) := by decide +kernel
theorem dX9_swaps_24 : decode cX9_swaps 24 = .ok (.iload_n 3, 1) := by decide +kernel
theorem dX9_swaps_25 : decode cX9_swaps 25 = .ok (.iastore, 1) := by decide +kernel
theorem dX9_swaps_26 : decode cX9_swaps 26 = .ok (.return_, 1) := by decide +kernel
theorem dX9_goesOn_0 : decode cX9_goesOn 0 = .ok (.aload_n 0, 1) := by decide +kernel
theorem dX9_goesOn_1 : decode cX9_goesOn 1 = .ok (.getfield 7, 3) := by decide +kernel
theorem dX9_goesOn_4 : decode cX9_goesOn 4 = .ok (.iconst 0, 1) := by decide +kernel
theorem dX9_goesOn_5 : decode cX9_goesOn 5 = .ok (.iaload, 1) := by decide +kernel
theorem dX9_goesOn_6 : decode cX9_goesOn 6 = .ok (.iconst 2, 1) := by decide +kernel
theorem dX9_goesOn_7 : decode cX9_goesOn 7 = .ok (.isub, 1) := by decide +kernel
theorem dX9_goesOn_8 : decode cX9_goesOn 8 = .ok (.istore_n 1, 1) := by decide +kernel
theorem dX9_goesOn_9 : decode cX9_goesOn 9 = .ok (.iload_n 1, 1) := by decide +kernel
theorem dX9_goesOn_10 : decode cX9_goesOn 10 = .ok (.ifCond .lt 26, 3) := by decide +kernel
theorem dX9_goesOn_13 : decode cX9_goesOn 13 = .ok (.aload_n 0, 1) := by decide +kernel
theorem dX9_goesOn_14 : decode cX9_goesOn 14 = .ok (.getfield 22, 3) := by decide +kernel
theorem dX9_goesOn_17 : decode cX9_goesOn 17 = .ok (.iload_n 1, 1) := by decide +kernel
theorem dX9_goesOn_18 : decode cX9_goesOn 18 = .ok (.iaload, 1) := by decide +kernel
theorem dX9_goesOn_19 : decode cX9_goesOn 19 = .ok (.aload_n 0, 1) := by decide +kernel
theorem dX9_goesOn_20 : decode cX9_goesOn 20 = .ok (.getfield 22, 3) := by decide +kernel
theorem dX9_goesOn_23 : decode cX9_goesOn 23 = .ok (.iload_n 1, 1) := by decide +kernel
theorem dX9_goesOn_24 : decode cX9_goesOn 24 = .ok (.iconst 1, 1) := by decide +kernel
theorem dX9_goesOn_25 : decode cX9_goesOn 25 = .ok (.iadd, 1) := by decide +kernel
theorem dX9_goesOn_26 : decode cX9_goesOn 26 = .ok (.iaload, 1) := by decide +kernel
theorem dX9_goesOn_27 : decode cX9_goesOn 27 = .ok (.if_icmp .le 9, 3) := by decide +kernel
theorem dX9_goesOn_30 : decode cX9_goesOn 30 = .ok (.iinc 1 (-1), 3) := by decide +kernel
theorem dX9_goesOn_33 : decode cX9_goesOn 33 = .ok (.goto (-24), 3) := by decide +kernel
theorem dX9_goesOn_36 : decode cX9_goesOn 36 = .ok (.iload_n 1, 1) := by decide +kernel
theorem dX9_goesOn_37 : decode cX9_goesOn 37 = .ok (.ifCond .ge 5, 3) := by decide +kernel
theorem dX9_goesOn_40 : decode cX9_goesOn 40 = .ok (.iconst 0, 1) := by decide +kernel
theorem dX9_goesOn_41 : decode cX9_goesOn 41 = .ok (.ireturn, 1) := by decide +kernel
theorem dX9_goesOn_42 : decode cX9_goesOn 42 = .ok (.aload_n 0, 1) := by decide +kernel
theorem dX9_goesOn_43 : decode cX9_goesOn 43 = .ok (.getfield 7, 3) := by decide +kernel
theorem dX9_goesOn_46 : decode cX9_goesOn 46 = .ok (.iconst 0, 1) := by decide +kernel
theorem dX9_goesOn_47 : decode cX9_goesOn 47 = .ok (.iaload, 1) := by decide +kernel
theorem dX9_goesOn_48 : decode cX9_goesOn 48 = .ok (.iconst 1, 1) := by decide +kernel
theorem dX9_goesOn_49 : decode cX9_goesOn 49 = .ok (.isub, 1) := by decide +kernel
theorem dX9_goesOn_50 : decode cX9_goesOn 50 = .ok (.istore_n 2, 1) := by decide +kernel
theorem dX9_goesOn_51 : decode cX9_goesOn 51 = .ok (.aload_n 0, 1) := by decide +kernel
theorem dX9_goesOn_52 : decode cX9_goesOn 52 = .ok (.getfield 22, 3) := by decide +kernel
theorem dX9_goesOn_55 : decode cX9_goesOn 55 = .ok (.iload_n 2, 1) := by decide +kernel
theorem dX9_goesOn_56 : decode cX9_goesOn 56 = .ok (.iaload, 1) := by decide +kernel
theorem dX9_goesOn_57 : decode cX9_goesOn 57 = .ok (.aload_n 0, 1) := by decide +kernel
theorem dX9_goesOn_58 : decode cX9_goesOn 58 = .ok (.getfield 22, 3) := by decide +kernel
theorem dX9_goesOn_61 : decode cX9_goesOn 61 = .ok (.iload_n 1, 1) := by decide +kernel
theorem dX9_goesOn_62 : decode cX9_goesOn 62 = .ok (.iaload, 1) := by decide +kernel
theorem dX9_goesOn_63 : decode cX9_goesOn 63 = .ok (.if_icmp .ge 9, 3) := by decide +kernel
theorem dX9_goesOn_66 : decode cX9_goesOn 66 = .ok (.iinc 2 (-1), 3) := by decide +kernel
theorem dX9_goesOn_69 : decode cX9_goesOn 69 = .ok (.goto (-18), 3) := by decide +kernel
theorem dX9_goesOn_72 : decode cX9_goesOn 72 = .ok (.aload_n 0, 1) := by decide +kernel
theorem dX9_goesOn_73 : decode cX9_goesOn 73 = .ok (.iload_n 1, 1) := by decide +kernel
theorem dX9_goesOn_74 : decode cX9_goesOn 74 = .ok (.iload_n 2, 1) := by decide +kernel
theorem dX9_goesOn_75 : decode cX9_goesOn 75 = .ok (.invokevirtual 115, 3) := by decide +kernel
theorem dX9_goesOn_78 : decode cX9_goesOn 78 = .ok (.iload_n 1, 1) := by decide +kernel
theorem dX9_goesOn_79 : decode cX9_goesOn 79 = .ok (.iconst 1, 1) := by decide +kernel
theorem dX9_goesOn_80 : decode cX9_goesOn 80 = .ok (.iadd, 1) := by decide +kernel
theorem dX9_goesOn_81 : decode cX9_goesOn 81 = .ok (.istore_n 3, 1) := by decide +kernel
theorem dX9_goesOn_82 : decode cX9_goesOn 82 = .ok (.aload_n 0, 1) := by decide +kernel
theorem dX9_goesOn_83 : decode cX9_goesOn 83 = .ok (.getfield 7, 3) := by decide +kernel
theorem dX9_goesOn_86 : decode cX9_goesOn 86 = .ok (.iconst 0, 1) := by decide +kernel
theorem dX9_goesOn_87 : decode cX9_goesOn 87 = .ok (.iaload, 1) := by decide +kernel
theorem dX9_goesOn_88 : decode cX9_goesOn 88 = .ok (.iconst 1, 1) := by decide +kernel
theorem dX9_goesOn_89 : decode cX9_goesOn 89 = .ok (.isub, 1) := by decide +kernel
theorem dX9_goesOn_90 : decode cX9_goesOn 90 = .ok (.istore 4, 2) := by decide +kernel
theorem dX9_goesOn_92 : decode cX9_goesOn 92 = .ok (.iload_n 3, 1) := by decide +kernel
theorem dX9_goesOn_93 : decode cX9_goesOn 93 = .ok (.iload 4, 2) := by decide +kernel
theorem dX9_goesOn_95 : decode cX9_goesOn 95 = .ok (.if_icmp .ge 19, 3) := by decide +kernel
theorem dX9_goesOn_98 : decode cX9_goesOn 98 = .ok (.aload_n 0, 1) := by decide +kernel
theorem dX9_goesOn_99 : decode cX9_goesOn 99 = .ok (.iload_n 3, 1) := by decide +kernel
theorem dX9_goesOn_100 : decode cX9_goesOn 100 = .ok (.iload 4, 2) := by decide +kernel
theorem dX9_goesOn_102 : decode cX9_goesOn 102 = .ok (.invokevirtual 115, 3) := by decide +kernel
theorem dX9_goesOn_105 : decode cX9_goesOn 105 = .ok (.iinc 3 1, 3) := by decide +kernel
theorem dX9_goesOn_108 : decode cX9_goesOn 108 = .ok (.iinc 4 (-1), 3) := by decide +kernel
theorem dX9_goesOn_111 : decode cX9_goesOn 111 = .ok (.goto (-19), 3) := by decide +kernel
theorem dX9_goesOn_114 : decode cX9_goesOn 114 = .ok (.iconst 1, 1) := by decide +kernel
theorem dX9_goesOn_115 : decode cX9_goesOn 115 = .ok (.ireturn, 1) := by decide +kernel
theorem dX9_costOf_0 : decode cX9_costOf 0 = .ok (.iconst 0, 1) := by decide +kernel
theorem dX9_costOf_1 : decode cX9_costOf 1 = .ok (.istore_n 1, 1) := by decide +kernel
theorem dX9_costOf_2 : decode cX9_costOf 2 = .ok (.iconst 0, 1) := by decide +kernel
theorem dX9_costOf_3 : decode cX9_costOf 3 = .ok (.istore_n 2, 1) := by decide +kernel
theorem dX9_costOf_4 : decode cX9_costOf 4 = .ok (.iload_n 2, 1) := by decide +kernel
theorem dX9_costOf_5 : decode cX9_costOf 5 = .ok (.aload_n 0, 1) := by decide +kernel
theorem dX9_costOf_6 : decode cX9_costOf 6 = .ok (.getfield 7, 3) := by decide +kernel
theorem dX9_costOf_9 : decode cX9_costOf 9 = .ok (.iconst 0, 1) := by decide +kernel
theorem dX9_costOf_10 : decode cX9_costOf 10 = .ok (.iaload, 1) := by decide +kernel
theorem dX9_costOf_11 : decode cX9_costOf 11 = .ok (.if_icmp .ge 67, 3) := by decide +kernel
theorem dX9_costOf_14 : decode cX9_costOf 14 = .ok (.iload_n 1, 1) := by decide +kernel
theorem dX9_costOf_15 : decode cX9_costOf 15 = .ok (.aload_n 0, 1) := by decide +kernel
theorem dX9_costOf_16 : decode cX9_costOf 16 = .ok (.iload_n 2, 1) := by decide +kernel
theorem dX9_costOf_17 : decode cX9_costOf 17 = .ok (.aload_n 0, 1) := by decide +kernel
theorem dX9_costOf_18 : decode cX9_costOf 18 = .ok (.getfield 22, 3) := by decide +kernel
theorem dX9_costOf_21 : decode cX9_costOf 21 = .ok (.iload_n 2, 1) := by decide +kernel
theorem dX9_costOf_22 : decode cX9_costOf 22 = .ok (.iaload, 1) := by decide +kernel
theorem dX9_costOf_23 : decode cX9_costOf 23 = .ok (.invokevirtual 119, 3) := by decide +kernel
theorem dX9_costOf_26 : decode cX9_costOf 26 = .ok (.iadd, 1) := by decide +kernel
theorem dX9_costOf_27 : decode cX9_costOf 27 = .ok (.istore_n 1, 1) := by decide +kernel
theorem dX9_costOf_28 : decode cX9_costOf 28 = .ok (.iconst 0, 1) := by decide +kernel
theorem dX9_costOf_29 : decode cX9_costOf 29 = .ok (.istore_n 3, 1) := by decide +kernel
theorem dX9_costOf_30 : decode cX9_costOf 30 = .ok (.iload_n 3, 1) := by decide +kernel
theorem dX9_costOf_31 : decode cX9_costOf 31 = .ok (.aload_n 0, 1) := by decide +kernel
theorem dX9_costOf_32 : decode cX9_costOf 32 = .ok (.getfield 7, 3) := by decide +kernel
theorem dX9_costOf_35 : decode cX9_costOf 35 = .ok (.iconst 0, 1) := by decide +kernel
theorem dX9_costOf_36 : decode cX9_costOf 36 = .ok (.iaload, 1) := by decide +kernel
theorem dX9_costOf_37 : decode cX9_costOf 37 = .ok (.if_icmp .ge 35, 3) := by decide +kernel
theorem dX9_costOf_40 : decode cX9_costOf 40 = .ok (.iload_n 1, 1) := by decide +kernel
theorem dX9_costOf_41 : decode cX9_costOf 41 = .ok (.aload_n 0, 1) := by decide +kernel
theorem dX9_costOf_42 : decode cX9_costOf 42 = .ok (.iload_n 2, 1) := by decide +kernel
theorem dX9_costOf_43 : decode cX9_costOf 43 = .ok (.iload_n 3, 1) := by decide +kernel
theorem dX9_costOf_44 : decode cX9_costOf 44 = .ok (.invokevirtual 123, 3) := by decide +kernel
theorem dX9_costOf_47 : decode cX9_costOf 47 = .ok (.aload_n 0, 1) := by decide +kernel
theorem dX9_costOf_48 : decode cX9_costOf 48 = .ok (.aload_n 0, 1) := by decide +kernel
theorem dX9_costOf_49 : decode cX9_costOf 49 = .ok (.getfield 22, 3) := by decide +kernel
theorem dX9_costOf_52 : decode cX9_costOf 52 = .ok (.iload_n 2, 1) := by decide +kernel
theorem dX9_costOf_53 : decode cX9_costOf 53 = .ok (.iaload, 1) := by decide +kernel
theorem dX9_costOf_54 : decode cX9_costOf 54 = .ok (.aload_n 0, 1) := by decide +kernel
theorem dX9_costOf_55 : decode cX9_costOf 55 = .ok (.getfield 22, 3) := by decide +kernel
theorem dX9_costOf_58 : decode cX9_costOf 58 = .ok (.iload_n 3, 1) := by decide +kernel
theorem dX9_costOf_59 : decode cX9_costOf 59 = .ok (.iaload, 1) := by decide +kernel
theorem dX9_costOf_60 : decode cX9_costOf 60 = .ok (.invokevirtual 126, 3) := by decide +kernel
theorem dX9_costOf_63 : decode cX9_costOf 63 = .ok (.imul, 1) := by decide +kernel
theorem dX9_costOf_64 : decode cX9_costOf 64 = .ok (.iadd, 1) := by decide +kernel
theorem dX9_costOf_65 : decode cX9_costOf 65 = .ok (.istore_n 1, 1) := by decide +kernel
theorem dX9_costOf_66 : decode cX9_costOf 66 = .ok (.iinc 3 1, 3) := by decide +kernel
theorem dX9_costOf_69 : decode cX9_costOf 69 = .ok (.goto (-39), 3) := by decide +kernel
theorem dX9_costOf_72 : decode cX9_costOf 72 = .ok (.iinc 2 1, 3) := by decide +kernel
theorem dX9_costOf_75 : decode cX9_costOf 75 = .ok (.goto (-71), 3) := by decide +kernel
theorem dX9_costOf_78 : decode cX9_costOf 78 = .ok (.iload_n 1, 1) := by decide +kernel
theorem dX9_costOf_79 : decode cX9_costOf 79 = .ok (.ireturn, 1) := by decide +kernel
theorem dX9_numberOf_0 : decode cX9_numberOf 0 = .ok (.iconst 0, 1) := by decide +kernel
theorem dX9_numberOf_1 : decode cX9_numberOf 1 = .ok (.istore_n 1, 1) := by decide +kernel
theorem dX9_numberOf_2 : decode cX9_numberOf 2 = .ok (.iconst 0, 1) := by decide +kernel
theorem dX9_numberOf_3 : decode cX9_numberOf 3 = .ok (.istore_n 2, 1) := by decide +kernel
theorem dX9_numberOf_4 : decode cX9_numberOf 4 = .ok (.iload_n 2, 1) := by decide +kernel
theorem dX9_numberOf_5 : decode cX9_numberOf 5 = .ok (.aload_n 0, 1) := by decide +kernel
theorem dX9_numberOf_6 : decode cX9_numberOf 6 = .ok (.getfield 7, 3) := by decide +kernel
theorem dX9_numberOf_9 : decode cX9_numberOf 9 = .ok (.iconst 0, 1) := by decide +kernel
theorem dX9_numberOf_10 : decode cX9_numberOf 10 = .ok (.iaload, 1) := by decide +kernel
theorem dX9_numberOf_11 : decode cX9_numberOf 11 = .ok (.if_icmp .ge 70, 3) := by decide +kernel
theorem dX9_numberOf_14 : decode cX9_numberOf 14 = .ok (.iconst 0, 1) := by decide +kernel
theorem dX9_numberOf_15 : decode cX9_numberOf 15 = .ok (.istore_n 3, 1) := by decide +kernel
theorem dX9_numberOf_16 : decode cX9_numberOf 16 = .ok (.iload_n 2, 1) := by decide +kernel
theorem dX9_numberOf_17 : decode cX9_numberOf 17 = .ok (.iconst 1, 1) := by decide +kernel
theorem dX9_numberOf_18 : decode cX9_numberOf 18 = .ok (.iadd, 1) := by decide +kernel
theorem dX9_numberOf_19 : decode cX9_numberOf 19 = .ok (.istore 4, 2) := by decide +kernel
theorem dX9_numberOf_21 : decode cX9_numberOf 21 = .ok (.iload 4, 2) := by decide +kernel
theorem dX9_numberOf_23 : decode cX9_numberOf 23 = .ok (.aload_n 0, 1) := by decide +kernel
theorem dX9_numberOf_24 : decode cX9_numberOf 24 = .ok (.getfield 7, 3) := by decide +kernel
theorem dX9_numberOf_27 : decode cX9_numberOf 27 = .ok (.iconst 0, 1) := by decide +kernel
theorem dX9_numberOf_28 : decode cX9_numberOf 28 = .ok (.iaload, 1) := by decide +kernel
theorem dX9_numberOf_29 : decode cX9_numberOf 29 = .ok (.if_icmp .ge 33, 3) := by decide +kernel
theorem dX9_numberOf_32 : decode cX9_numberOf 32 = .ok (.iload_n 3, 1) := by decide +kernel
theorem dX9_numberOf_33 : decode cX9_numberOf 33 = .ok (.aload_n 0, 1) := by decide +kernel
theorem dX9_numberOf_34 : decode cX9_numberOf 34 = .ok (.getfield 22, 3) := by decide +kernel
theorem dX9_numberOf_37 : decode cX9_numberOf 37 = .ok (.iload 4, 2) := by decide +kernel
theorem dX9_numberOf_39 : decode cX9_numberOf 39 = .ok (.iaload, 1) := by decide +kernel
theorem dX9_numberOf_40 : decode cX9_numberOf 40 = .ok (.aload_n 0, 1) := by decide +kernel
theorem dX9_numberOf_41 : decode cX9_numberOf 41 = .ok (.getfield 22, 3) := by decide +kernel
theorem dX9_numberOf_44 : decode cX9_numberOf 44 = .ok (.iload_n 2, 1) := by decide +kernel
theorem dX9_numberOf_45 : decode cX9_numberOf 45 = .ok (.iaload, 1) := by decide +kernel
theorem dX9_numberOf_46 : decode cX9_numberOf 46 = .ok (.if_icmp .ge 7, 3) := by decide +kernel
theorem dX9_numberOf_49 : decode cX9_numberOf 49 = .ok (.iconst 1, 1) := by decide +kernel
theorem dX9_numberOf_50 : decode cX9_numberOf 50 = .ok (.goto 4, 3) := by decide +kernel
theorem dX9_numberOf_53 : decode cX9_numberOf 53 = .ok (.iconst 0, 1) := by decide +kernel
theorem dX9_numberOf_54 : decode cX9_numberOf 54 = .ok (.iadd, 1) := by decide +kernel
theorem dX9_numberOf_55 : decode cX9_numberOf 55 = .ok (.istore_n 3, 1) := by decide +kernel
theorem dX9_numberOf_56 : decode cX9_numberOf 56 = .ok (.iinc 4 1, 3) := by decide +kernel
theorem dX9_numberOf_59 : decode cX9_numberOf 59 = .ok (.goto (-38), 3) := by decide +kernel
theorem dX9_numberOf_62 : decode cX9_numberOf 62 = .ok (.iload_n 1, 1) := by decide +kernel
theorem dX9_numberOf_63 : decode cX9_numberOf 63 = .ok (.aload_n 0, 1) := by decide +kernel
theorem dX9_numberOf_64 : decode cX9_numberOf 64 = .ok (.getfield 7, 3) := by decide +kernel
theorem dX9_numberOf_67 : decode cX9_numberOf 67 = .ok (.iconst 0, 1) := by decide +kernel
theorem dX9_numberOf_68 : decode cX9_numberOf 68 = .ok (.iaload, 1) := by decide +kernel
theorem dX9_numberOf_69 : decode cX9_numberOf 69 = .ok (.iload_n 2, 1) := by decide +kernel
theorem dX9_numberOf_70 : decode cX9_numberOf 70 = .ok (.isub, 1) := by decide +kernel
theorem dX9_numberOf_71 : decode cX9_numberOf 71 = .ok (.imul, 1) := by decide +kernel
theorem dX9_numberOf_72 : decode cX9_numberOf 72 = .ok (.iload_n 3, 1) := by decide +kernel
theorem dX9_numberOf_73 : decode cX9_numberOf 73 = .ok (.iadd, 1) := by decide +kernel
theorem dX9_numberOf_74 : decode cX9_numberOf 74 = .ok (.istore_n 1, 1) := by decide +kernel
theorem dX9_numberOf_75 : decode cX9_numberOf 75 = .ok (.iinc 2 1, 3) := by decide +kernel
theorem dX9_numberOf_78 : decode cX9_numberOf 78 = .ok (.goto (-74), 3) := by decide +kernel
theorem dX9_numberOf_81 : decode cX9_numberOf 81 = .ok (.iload_n 1, 1) := by decide +kernel
theorem dX9_numberOf_82 : decode cX9_numberOf 82 = .ok (.ireturn, 1) := by decide +kernel
theorem dX9_agrees_0 : decode cX9_agrees 0 = .ok (.iconst 1, 1) := by decide +kernel
theorem dX9_agrees_1 : decode cX9_agrees 1 = .ok (.istore_n 1, 1) := by decide +kernel
theorem dX9_agrees_2 : decode cX9_agrees 2 = .ok (.iconst 0, 1) := by decide +kernel
theorem dX9_agrees_3 : decode cX9_agrees 3 = .ok (.istore_n 2, 1) := by decide +kernel
theorem dX9_agrees_4 : decode cX9_agrees 4 = .ok (.iload_n 2, 1) := by decide +kernel
theorem dX9_agrees_5 : decode cX9_agrees 5 = .ok (.aload_n 0, 1) := by decide +kernel
theorem dX9_agrees_6 : decode cX9_agrees 6 = .ok (.getfield 7, 3) := by decide +kernel
theorem dX9_agrees_9 : decode cX9_agrees 9 = .ok (.iconst 0, 1) := by decide +kernel
theorem dX9_agrees_10 : decode cX9_agrees 10 = .ok (.iaload, 1) := by decide +kernel
theorem dX9_agrees_11 : decode cX9_agrees 11 = .ok (.if_icmp .ge 50, 3) := by decide +kernel
theorem dX9_agrees_14 : decode cX9_agrees 14 = .ok (.iload_n 1, 1) := by decide +kernel
theorem dX9_agrees_15 : decode cX9_agrees 15 = .ok (.ifCond .eq 38, 3) := by decide +kernel
theorem dX9_agrees_18 : decode cX9_agrees 18 = .ok (.aload_n 0, 1) := by decide +kernel
theorem dX9_agrees_19 : decode cX9_agrees 19 = .ok (.getfield 7, 3) := by decide +kernel
theorem dX9_agrees_22 : decode cX9_agrees 22 = .ok (.bipush 115, 2) := by decide +kernel
theorem dX9_agrees_24 : decode cX9_agrees 24 = .ok (.iload_n 2, 1) := by decide +kernel
theorem dX9_agrees_25 : decode cX9_agrees 25 = .ok (.iadd, 1) := by decide +kernel
theorem dX9_agrees_26 : decode cX9_agrees 26 = .ok (.iaload, 1) := by decide +kernel
theorem dX9_agrees_27 : decode cX9_agrees 27 = .ok (.iconst (-1), 1) := by decide +kernel
theorem dX9_agrees_28 : decode cX9_agrees 28 = .ok (.if_icmp .eq 21, 3) := by decide +kernel
theorem dX9_agrees_31 : decode cX9_agrees 31 = .ok (.aload_n 0, 1) := by decide +kernel
theorem dX9_agrees_32 : decode cX9_agrees 32 = .ok (.getfield 7, 3) := by decide +kernel
theorem dX9_agrees_35 : decode cX9_agrees 35 = .ok (.bipush 115, 2) := by decide +kernel
theorem dX9_agrees_37 : decode cX9_agrees 37 = .ok (.iload_n 2, 1) := by decide +kernel
theorem dX9_agrees_38 : decode cX9_agrees 38 = .ok (.iadd, 1) := by decide +kernel
theorem dX9_agrees_39 : decode cX9_agrees 39 = .ok (.iaload, 1) := by decide +kernel
theorem dX9_agrees_40 : decode cX9_agrees 40 = .ok (.aload_n 0, 1) := by decide +kernel
theorem dX9_agrees_41 : decode cX9_agrees 41 = .ok (.getfield 22, 3) := by decide +kernel
theorem dX9_agrees_44 : decode cX9_agrees 44 = .ok (.iload_n 2, 1) := by decide +kernel
theorem dX9_agrees_45 : decode cX9_agrees 45 = .ok (.iaload, 1) := by decide +kernel
theorem dX9_agrees_46 : decode cX9_agrees 46 = .ok (.if_icmp .ne 7, 3) := by decide +kernel
theorem dX9_agrees_49 : decode cX9_agrees 49 = .ok (.iconst 1, 1) := by decide +kernel
theorem dX9_agrees_50 : decode cX9_agrees 50 = .ok (.goto 4, 3) := by decide +kernel
theorem dX9_agrees_53 : decode cX9_agrees 53 = .ok (.iconst 0, 1) := by decide +kernel
theorem dX9_agrees_54 : decode cX9_agrees 54 = .ok (.istore_n 1, 1) := by decide +kernel
theorem dX9_agrees_55 : decode cX9_agrees 55 = .ok (.iinc 2 1, 3) := by decide +kernel
theorem dX9_agrees_58 : decode cX9_agrees 58 = .ok (.goto (-54), 3) := by decide +kernel
theorem dX9_agrees_61 : decode cX9_agrees 61 = .ok (.iload_n 1, 1) := by decide +kernel
theorem dX9_agrees_62 : decode cX9_agrees 62 = .ok (.ireturn, 1) := by decide +kernel
theorem dX9_location_0 : decode cX9_location 0 = .ok (.aload_n 0, 1) := by decide +kernel
theorem dX9_location_1 : decode cX9_location 1 = .ok (.iload_n 1, 1) := by decide +kernel
theorem dX9_location_2 : decode cX9_location 2 = .ok (.invokevirtual 103, 3) := by decide +kernel
theorem dX9_location_5 : decode cX9_location 5 = .ok (.ifCond .eq 19, 3) := by decide +kernel
theorem dX9_location_8 : decode cX9_location 8 = .ok (.aload_n 0, 1) := by decide +kernel
theorem dX9_location_9 : decode cX9_location 9 = .ok (.aload_n 0, 1) := by decide +kernel
theorem dX9_location_10 : decode cX9_location 10 = .ok (.getfield 7, 3) := by decide +kernel
theorem dX9_location_13 : decode cX9_location 13 = .ok (.bipush 109, 2) := by decide +kernel
theorem dX9_location_15 : decode cX9_location 15 = .ok (.iload_n 1, 1) := by decide +kernel
theorem dX9_location_16 : decode cX9_location 16 = .ok (.iadd, 1) := by decide +kernel
theorem dX9_location_17 : decode cX9_location 17 = .ok (.iaload, 1) := by decide +kernel
theorem dX9_location_18 : decode cX9_location 18 = .ok (.invokevirtual 82, 3) := by decide +kernel
theorem dX9_location_21 : decode cX9_location 21 = .ok (.goto 8, 3) := by decide +kernel
theorem dX9_location_24 : decode cX9_location 24 = .ok (.aload_n 0, 1) := by decide +kernel
theorem dX9_location_25 : decode cX9_location 25 = .ok (.iconst 1, 1) := by decide +kernel
theorem dX9_location_26 : decode cX9_location 26 = .ok (.invokevirtual 94, 3) := by decide +kernel
theorem dX9_location_29 : decode cX9_location 29 = .ok (.ireturn, 1) := by decide +kernel
theorem dX9_presentCost_0 : decode cX9_presentCost 0 = .ok (.aload_n 0, 1) := by decide +kernel
theorem dX9_presentCost_1 : decode cX9_presentCost 1 = .ok (.invokevirtual 129, 3) := by decide +kernel
theorem dX9_presentCost_4 : decode cX9_presentCost 4 = .ok (.aload_n 0, 1) := by decide +kernel
theorem dX9_presentCost_5 : decode cX9_presentCost 5 = .ok (.invokevirtual 132, 3) := by decide +kernel
theorem dX9_presentCost_8 : decode cX9_presentCost 8 = .ok (.ireturn, 1) := by decide +kernel
theorem dX9_cost_0 : decode cX9_cost 0 = .ok (.aload_n 0, 1) := by decide +kernel
theorem dX9_cost_1 : decode cX9_cost 1 = .ok (.aload_n 0, 1) := by decide +kernel
theorem dX9_cost_2 : decode cX9_cost 2 = .ok (.invokevirtual 136, 3) := by decide +kernel
theorem dX9_cost_5 : decode cX9_cost 5 = .ok (.invokevirtual 82, 3) := by decide +kernel
theorem dX9_cost_8 : decode cX9_cost 8 = .ok (.ireturn, 1) := by decide +kernel
theorem dX9_assignments_0 : decode cX9_assignments 0 = .ok (.iconst 1, 1) := by decide +kernel
theorem dX9_assignments_1 : decode cX9_assignments 1 = .ok (.istore_n 1, 1) := by decide +kernel
theorem dX9_assignments_2 : decode cX9_assignments 2 = .ok (.iconst 2, 1) := by decide +kernel
theorem dX9_assignments_3 : decode cX9_assignments 3 = .ok (.istore_n 2, 1) := by decide +kernel
theorem dX9_assignments_4 : decode cX9_assignments 4 = .ok (.iload_n 2, 1) := by decide +kernel
theorem dX9_assignments_5 : decode cX9_assignments 5 = .ok (.aload_n 0, 1) := by decide +kernel
theorem dX9_assignments_6 : decode cX9_assignments 6 = .ok (.getfield 7, 3) := by decide +kernel
theorem dX9_assignments_9 : decode cX9_assignments 9 = .ok (.iconst 0, 1) := by decide +kernel
theorem dX9_assignments_10 : decode cX9_assignments 10 = .ok (.iaload, 1) := by decide +kernel
theorem dX9_assignments_11 : decode cX9_assignments 11 = .ok (.if_icmp .gt 13, 3) := by decide +kernel
theorem dX9_assignments_14 : decode cX9_assignments 14 = .ok (.iload_n 1, 1) := by decide +kernel
theorem dX9_assignments_15 : decode cX9_assignments 15 = .ok (.iload_n 2, 1) := by decide +kernel
theorem dX9_assignments_16 : decode cX9_assignments 16 = .ok (.imul, 1) := by decide +kernel
theorem dX9_assignments_17 : decode cX9_assignments 17 = .ok (.istore_n 1, 1) := by decide +kernel
theorem dX9_assignments_18 : decode cX9_assignments 18 = .ok (.iinc 2 1, 3) := by decide +kernel
theorem dX9_assignments_21 : decode cX9_assignments 21 = .ok (.goto (-17), 3) := by decide +kernel
theorem dX9_assignments_24 : decode cX9_assignments 24 = .ok (.iload_n 1, 1) := by decide +kernel
theorem dX9_assignments_25 : decode cX9_assignments 25 = .ok (.ireturn, 1) := by decide +kernel
theorem dX9_keeps_0 : decode cX9_keeps 0 = .ok (.iconst 0, 1) := by decide +kernel
theorem dX9_keeps_1 : decode cX9_keeps 1 = .ok (.istore_n 1, 1) := by decide +kernel
theorem dX9_keeps_2 : decode cX9_keeps 2 = .ok (.iload_n 1, 1) := by decide +kernel
theorem dX9_keeps_3 : decode cX9_keeps 3 = .ok (.aload_n 0, 1) := by decide +kernel
theorem dX9_keeps_4 : decode cX9_keeps 4 = .ok (.getfield 7, 3) := by decide +kernel
theorem dX9_keeps_7 : decode cX9_keeps 7 = .ok (.iconst 0, 1) := by decide +kernel
theorem dX9_keeps_8 : decode cX9_keeps 8 = .ok (.iaload, 1) := by decide +kernel
theorem dX9_keeps_9 : decode cX9_keeps 9 = .ok (.if_icmp .ge 24, 3) := by decide +kernel
theorem dX9_keeps_12 : decode cX9_keeps 12 = .ok (.aload_n 0, 1) := by decide +kernel
theorem dX9_keeps_13 : decode cX9_keeps 13 = .ok (.getfield 7, 3) := by decide +kernel
theorem dX9_keeps_16 : decode cX9_keeps 16 = .ok (.bipush 109, 2) := by decide +kernel
theorem dX9_keeps_18 : decode cX9_keeps 18 = .ok (.iload_n 1, 1) := by decide +kernel
theorem dX9_keeps_19 : decode cX9_keeps 19 = .ok (.iadd, 1) := by decide +kernel
theorem dX9_keeps_20 : decode cX9_keeps 20 = .ok (.aload_n 0, 1) := by decide +kernel
theorem dX9_keeps_21 : decode cX9_keeps 21 = .ok (.getfield 22, 3) := by decide +kernel
theorem dX9_keeps_24 : decode cX9_keeps 24 = .ok (.iload_n 1, 1) := by decide +kernel
theorem dX9_keeps_25 : decode cX9_keeps 25 = .ok (.iaload, 1) := by decide +kernel
theorem dX9_keeps_26 : decode cX9_keeps 26 = .ok (.iastore, 1) := by decide +kernel
theorem dX9_keeps_27 : decode cX9_keeps 27 = .ok (.iinc 1 1, 3) := by decide +kernel
theorem dX9_keeps_30 : decode cX9_keeps 30 = .ok (.goto (-28), 3) := by decide +kernel
theorem dX9_keeps_33 : decode cX9_keeps 33 = .ok (.return_, 1) := by decide +kernel
theorem dX9_choose_0 : decode cX9_choose 0 = .ok (.iload_n 1, 1) := by decide +kernel
theorem dX9_choose_1 : decode cX9_choose 1 = .ok (.iconst 0, 1) := by decide +kernel
theorem dX9_choose_2 : decode cX9_choose 2 = .ok (.aload_n 0, 1) := by decide +kernel
theorem dX9_choose_3 : decode cX9_choose 3 = .ok (.invokevirtual 139, 3) := by decide +kernel
theorem dX9_choose_6 : decode cX9_choose 6 = .ok (.iconst 1, 1) := by decide +kernel
theorem dX9_choose_7 : decode cX9_choose 7 = .ok (.isub, 1) := by decide +kernel
theorem dX9_choose_8 : decode cX9_choose 8 = .ok (.invokestatic 86, 3) := by decide +kernel
theorem dX9_choose_11 : decode cX9_choose 11 = .ok (.ifCond .ne 9, 3) := by decide +kernel
theorem dX9_choose_14 : decode cX9_choose 14 = .ok (.aload_n 0, 1) := by decide +kernel
theorem dX9_choose_15 : decode cX9_choose 15 = .ok (.iconst 1, 1) := by decide +kernel
theorem dX9_choose_16 : decode cX9_choose 16 = .ok (.invokevirtual 94, 3) := by decide +kernel
theorem dX9_choose_19 : decode cX9_choose 19 = .ok (.ireturn, 1) := by decide +kernel
theorem dX9_choose_20 : decode cX9_choose 20 = .ok (.aload_n 0, 1) := by decide +kernel
theorem dX9_choose_21 : decode cX9_choose 21 = .ok (.invokevirtual 97, 3) := by decide +kernel
theorem dX9_choose_24 : decode cX9_choose 24 = .ok (.aload_n 0, 1) := by decide +kernel
theorem dX9_choose_25 : decode cX9_choose 25 = .ok (.invokevirtual 142, 3) := by decide +kernel
theorem dX9_choose_28 : decode cX9_choose 28 = .ok (.iconst 1, 1) := by decide +kernel
theorem dX9_choose_29 : decode cX9_choose 29 = .ok (.istore_n 2, 1) := by decide +kernel
theorem dX9_choose_30 : decode cX9_choose 30 = .ok (.iconst 0, 1) := by decide +kernel
theorem dX9_choose_31 : decode cX9_choose 31 = .ok (.istore_n 3, 1) := by decide +kernel
theorem dX9_choose_32 : decode cX9_choose 32 = .ok (.iload_n 3, 1) := by decide +kernel
theorem dX9_choose_33 : decode cX9_choose 33 = .ok (.iload_n 1, 1) := by decide +kernel
theorem dX9_choose_34 : decode cX9_choose 34 = .ok (.if_icmp .ge 18, 3) := by decide +kernel
theorem dX9_choose_37 : decode cX9_choose 37 = .ok (.iload_n 2, 1) := by decide +kernel
theorem dX9_choose_38 : decode cX9_choose 38 = .ok (.ifCond .eq 14, 3) := by decide +kernel
theorem dX9_choose_41 : decode cX9_choose 41 = .ok (.aload_n 0, 1) := by decide +kernel
theorem dX9_choose_42 : decode cX9_choose 42 = .ok (.invokevirtual 145, 3) := by decide +kernel
theorem dX9_choose_45 : decode cX9_choose 45 = .ok (.istore_n 2, 1) := by decide +kernel
theorem dX9_choose_46 : decode cX9_choose 46 = .ok (.iinc 3 1, 3) := by decide +kernel
theorem dX9_choose_49 : decode cX9_choose 49 = .ok (.goto (-17), 3) := by decide +kernel
theorem dX9_choose_52 : decode cX9_choose 52 = .ok (.aload_n 0, 1) := by decide +kernel
theorem dX9_choose_53 : decode cX9_choose 53 = .ok (.invokevirtual 149, 3) := by decide +kernel
theorem dX9_choose_56 : decode cX9_choose 56 = .ok (.aload_n 0, 1) := by decide +kernel
theorem dX9_choose_57 : decode cX9_choose 57 = .ok (.aload_n 0, 1) := by decide +kernel
theorem dX9_choose_58 : decode cX9_choose 58 = .ok (.invokevirtual 132, 3) := by decide +kernel
theorem dX9_choose_61 : decode cX9_choose 61 = .ok (.invokevirtual 100, 3) := by decide +kernel
theorem dX9_choose_64 : decode cX9_choose 64 = .ok (.ireturn, 1) := by decide +kernel
theorem dX9_number_0 : decode cX9_number 0 = .ok (.aload_n 0, 1) := by decide +kernel
theorem dX9_number_1 : decode cX9_number 1 = .ok (.invokevirtual 129, 3) := by decide +kernel
theorem dX9_number_4 : decode cX9_number 4 = .ok (.aload_n 0, 1) := by decide +kernel
theorem dX9_number_5 : decode cX9_number 5 = .ok (.aload_n 0, 1) := by decide +kernel
theorem dX9_number_6 : decode cX9_number 6 = .ok (.invokevirtual 152, 3) := by decide +kernel
theorem dX9_number_9 : decode cX9_number 9 = .ok (.invokevirtual 82, 3) := by decide +kernel
theorem dX9_number_12 : decode cX9_number 12 = .ok (.ireturn, 1) := by decide +kernel
theorem dX9_gainOf_0 : decode cX9_gainOf 0 = .ok (.aload_n 0, 1) := by decide +kernel
theorem dX9_gainOf_1 : decode cX9_gainOf 1 = .ok (.invokevirtual 132, 3) := by decide +kernel
theorem dX9_gainOf_4 : decode cX9_gainOf 4 = .ok (.istore_n 3, 1) := by decide +kernel
theorem dX9_gainOf_5 : decode cX9_gainOf 5 = .ok (.aload_n 0, 1) := by decide +kernel
theorem dX9_gainOf_6 : decode cX9_gainOf 6 = .ok (.iload_n 1, 1) := by decide +kernel
theorem dX9_gainOf_7 : decode cX9_gainOf 7 = .ok (.iload_n 2, 1) := by decide +kernel
theorem dX9_gainOf_8 : decode cX9_gainOf 8 = .ok (.invokevirtual 115, 3) := by decide +kernel
theorem dX9_gainOf_11 : decode cX9_gainOf 11 = .ok (.aload_n 0, 1) := by decide +kernel
theorem dX9_gainOf_12 : decode cX9_gainOf 12 = .ok (.invokevirtual 132, 3) := by decide +kernel
theorem dX9_gainOf_15 : decode cX9_gainOf 15 = .ok (.istore 4, 2) := by decide +kernel
theorem dX9_gainOf_17 : decode cX9_gainOf 17 = .ok (.aload_n 0, 1) := by decide +kernel
theorem dX9_gainOf_18 : decode cX9_gainOf 18 = .ok (.iload_n 1, 1) := by decide +kernel
theorem dX9_gainOf_19 : decode cX9_gainOf 19 = .ok (.iload_n 2, 1) := by decide +kernel
theorem dX9_gainOf_20 : decode cX9_gainOf 20 = .ok (.invokevirtual 115, 3) := by decide +kernel
theorem dX9_gainOf_23 : decode cX9_gainOf 23 = .ok (.iload_n 3, 1) := by decide +kernel
theorem dX9_gainOf_24 : decode cX9_gainOf 24 = .ok (.iload 4, 2) := by decide +kernel
theorem dX9_gainOf_26 : decode cX9_gainOf 26 = .ok (.isub, 1) := by decide +kernel
theorem dX9_gainOf_27 : decode cX9_gainOf 27 = .ok (.ireturn, 1) := by decide +kernel
theorem dX9_exchange_0 : decode cX9_exchange 0 = .ok (.aload_n 0, 1) := by decide +kernel
theorem dX9_exchange_1 : decode cX9_exchange 1 = .ok (.iload_n 1, 1) := by decide +kernel
theorem dX9_exchange_2 : decode cX9_exchange 2 = .ok (.invokevirtual 103, 3) := by decide +kernel
theorem dX9_exchange_5 : decode cX9_exchange 5 = .ok (.ifCond .eq 11, 3) := by decide +kernel
theorem dX9_exchange_8 : decode cX9_exchange 8 = .ok (.aload_n 0, 1) := by decide +kernel
theorem dX9_exchange_9 : decode cX9_exchange 9 = .ok (.iload_n 2, 1) := by decide +kernel
theorem dX9_exchange_10 : decode cX9_exchange 10 = .ok (.invokevirtual 103, 3) := by decide +kernel
theorem dX9_exchange_13 : decode cX9_exchange 13 = .ok (.ifCond .ne 9, 3) := by decide +kernel
theorem dX9_exchange_16 : decode cX9_exchange 16 = .ok (.aload_n 0, 1) := by decide +kernel
theorem dX9_exchange_17 : decode cX9_exchange 17 = .ok (.iconst 1, 1) := by decide +kernel
theorem dX9_exchange_18 : decode cX9_exchange 18 = .ok (.invokevirtual 94, 3) := by decide +kernel
theorem dX9_exchange_21 : decode cX9_exchange 21 = .ok (.ireturn, 1) := by decide +kernel
theorem dX9_exchange_22 : decode cX9_exchange 22 = .ok (.aload_n 0, 1) := by decide +kernel
theorem dX9_exchange_23 : decode cX9_exchange 23 = .ok (.invokevirtual 97, 3) := by decide +kernel
theorem dX9_exchange_26 : decode cX9_exchange 26 = .ok (.aload_n 0, 1) := by decide +kernel
theorem dX9_exchange_27 : decode cX9_exchange 27 = .ok (.invokevirtual 129, 3) := by decide +kernel
theorem dX9_exchange_30 : decode cX9_exchange 30 = .ok (.aload_n 0, 1) := by decide +kernel
theorem dX9_exchange_31 : decode cX9_exchange 31 = .ok (.iload_n 1, 1) := by decide +kernel
theorem dX9_exchange_32 : decode cX9_exchange 32 = .ok (.iload_n 2, 1) := by decide +kernel
theorem dX9_exchange_33 : decode cX9_exchange 33 = .ok (.invokevirtual 155, 3) := by decide +kernel
theorem dX9_exchange_36 : decode cX9_exchange 36 = .ok (.istore_n 3, 1) := by decide +kernel
theorem dX9_exchange_37 : decode cX9_exchange 37 = .ok (.aload_n 0, 1) := by decide +kernel
theorem dX9_exchange_38 : decode cX9_exchange 38 = .ok (.iload_n 1, 1) := by decide +kernel
theorem dX9_exchange_39 : decode cX9_exchange 39 = .ok (.iload_n 2, 1) := by decide +kernel
theorem dX9_exchange_40 : decode cX9_exchange 40 = .ok (.invokevirtual 115, 3) := by decide +kernel
theorem dX9_exchange_43 : decode cX9_exchange 43 = .ok (.aload_n 0, 1) := by decide +kernel
theorem dX9_exchange_44 : decode cX9_exchange 44 = .ok (.invokevirtual 149, 3) := by decide +kernel
theorem dX9_exchange_47 : decode cX9_exchange 47 = .ok (.aload_n 0, 1) := by decide +kernel
theorem dX9_exchange_48 : decode cX9_exchange 48 = .ok (.iload_n 3, 1) := by decide +kernel
theorem dX9_exchange_49 : decode cX9_exchange 49 = .ok (.invokevirtual 100, 3) := by decide +kernel
theorem dX9_exchange_52 : decode cX9_exchange 52 = .ok (.ireturn, 1) := by decide +kernel
theorem dX9_gain_0 : decode cX9_gain 0 = .ok (.aload_n 0, 1) := by decide +kernel
theorem dX9_gain_1 : decode cX9_gain 1 = .ok (.iload_n 1, 1) := by decide +kernel
theorem dX9_gain_2 : decode cX9_gain 2 = .ok (.invokevirtual 103, 3) := by decide +kernel
theorem dX9_gain_5 : decode cX9_gain 5 = .ok (.ifCond .eq 11, 3) := by decide +kernel
theorem dX9_gain_8 : decode cX9_gain 8 = .ok (.aload_n 0, 1) := by decide +kernel
theorem dX9_gain_9 : decode cX9_gain 9 = .ok (.iload_n 2, 1) := by decide +kernel
theorem dX9_gain_10 : decode cX9_gain 10 = .ok (.invokevirtual 103, 3) := by decide +kernel
theorem dX9_gain_13 : decode cX9_gain 13 = .ok (.ifCond .ne 9, 3) := by decide +kernel
theorem dX9_gain_16 : decode cX9_gain 16 = .ok (.aload_n 0, 1) := by decide +kernel
theorem dX9_gain_17 : decode cX9_gain 17 = .ok (.iconst 1, 1) := by decide +kernel
theorem dX9_gain_18 : decode cX9_gain 18 = .ok (.invokevirtual 94, 3) := by decide +kernel
theorem dX9_gain_21 : decode cX9_gain 21 = .ok (.ireturn, 1) := by decide +kernel
theorem dX9_gain_22 : decode cX9_gain 22 = .ok (.aload_n 0, 1) := by decide +kernel
theorem dX9_gain_23 : decode cX9_gain 23 = .ok (.invokevirtual 129, 3) := by decide +kernel
theorem dX9_gain_26 : decode cX9_gain 26 = .ok (.aload_n 0, 1) := by decide +kernel
theorem dX9_gain_27 : decode cX9_gain 27 = .ok (.aload_n 0, 1) := by decide +kernel
theorem dX9_gain_28 : decode cX9_gain 28 = .ok (.iload_n 1, 1) := by decide +kernel
theorem dX9_gain_29 : decode cX9_gain 29 = .ok (.iload_n 2, 1) := by decide +kernel
theorem dX9_gain_30 : decode cX9_gain 30 = .ok (.invokevirtual 155, 3) := by decide +kernel
theorem dX9_gain_33 : decode cX9_gain 33 = .ok (.invokevirtual 82, 3) := by decide +kernel
theorem dX9_gain_36 : decode cX9_gain 36 = .ok (.ireturn, 1) := by decide +kernel
theorem dX9_bestOf_0 : decode cX9_bestOf 0 = .ok (.iconst (-1), 1) := by decide +kernel
theorem dX9_bestOf_1 : decode cX9_bestOf 1 = .ok (.istore_n 1, 1) := by decide +kernel
theorem dX9_bestOf_2 : decode cX9_bestOf 2 = .ok (.iconst 0, 1) := by decide +kernel
theorem dX9_bestOf_3 : decode cX9_bestOf 3 = .ok (.istore_n 2, 1) := by decide +kernel
theorem dX9_bestOf_4 : decode cX9_bestOf 4 = .ok (.iconst 0, 1) := by decide +kernel
theorem dX9_bestOf_5 : decode cX9_bestOf 5 = .ok (.istore_n 3, 1) := by decide +kernel
theorem dX9_bestOf_6 : decode cX9_bestOf 6 = .ok (.iload_n 3, 1) := by decide +kernel
theorem dX9_bestOf_7 : decode cX9_bestOf 7 = .ok (.aload_n 0, 1) := by decide +kernel
theorem dX9_bestOf_8 : decode cX9_bestOf 8 = .ok (.getfield 7, 3) := by decide +kernel
theorem dX9_bestOf_11 : decode cX9_bestOf 11 = .ok (.iconst 0, 1) := by decide +kernel
theorem dX9_bestOf_12 : decode cX9_bestOf 12 = .ok (.iaload, 1) := by decide +kernel
theorem dX9_bestOf_13 : decode cX9_bestOf 13 = .ok (.if_icmp .ge 110, 3) := by decide +kernel
theorem dX9_bestOf_16 : decode cX9_bestOf 16 = .ok (.iload_n 3, 1) := by decide +kernel
theorem dX9_bestOf_17 : decode cX9_bestOf 17 = .ok (.iconst 1, 1) := by decide +kernel
theorem dX9_bestOf_18 : decode cX9_bestOf 18 = .ok (.iadd, 1) := by decide +kernel
theorem dX9_bestOf_19 : decode cX9_bestOf 19 = .ok (.istore 4, 2) := by decide +kernel
theorem dX9_bestOf_21 : decode cX9_bestOf 21 = .ok (.iload 4, 2) := by decide +kernel
theorem dX9_bestOf_23 : decode cX9_bestOf 23 = .ok (.aload_n 0, 1) := by decide +kernel
theorem dX9_bestOf_24 : decode cX9_bestOf 24 = .ok (.getfield 7, 3) := by decide +kernel
theorem dX9_bestOf_27 : decode cX9_bestOf 27 = .ok (.iconst 0, 1) := by decide +kernel
theorem dX9_bestOf_28 : decode cX9_bestOf 28 = .ok (.iaload, 1) := by decide +kernel
theorem dX9_bestOf_29 : decode cX9_bestOf 29 = .ok (.if_icmp .ge 88, 3) := by decide +kernel
theorem dX9_bestOf_32 : decode cX9_bestOf 32 = .ok (.aload_n 0, 1) := by decide +kernel
theorem dX9_bestOf_33 : decode cX9_bestOf 33 = .ok (.getfield 7, 3) := by decide +kernel
theorem dX9_bestOf_36 : decode cX9_bestOf 36 = .ok (.bipush 115, 2) := by decide +kernel
theorem dX9_bestOf_38 : decode cX9_bestOf 38 = .ok (.iload_n 3, 1) := by decide +kernel
theorem dX9_bestOf_39 : decode cX9_bestOf 39 = .ok (.iadd, 1) := by decide +kernel
theorem dX9_bestOf_40 : decode cX9_bestOf 40 = .ok (.iaload, 1) := by decide +kernel
theorem dX9_bestOf_41 : decode cX9_bestOf 41 = .ok (.iconst (-1), 1) := by decide +kernel
theorem dX9_bestOf_42 : decode cX9_bestOf 42 = .ok (.if_icmp .ne 21, 3) := by decide +kernel
theorem dX9_bestOf_45 : decode cX9_bestOf 45 = .ok (.aload_n 0, 1) := by decide +kernel
theorem dX9_bestOf_46 : decode cX9_bestOf 46 = .ok (.getfield 7, 3) := by decide +kernel
theorem dX9_bestOf_49 : decode cX9_bestOf 49 = .ok (.bipush 115, 2) := by decide +kernel
theorem dX9_bestOf_51 : decode cX9_bestOf 51 = .ok (.iload 4, 2) := by decide +kernel
theorem dX9_bestOf_53 : decode cX9_bestOf 53 = .ok (.iadd, 1) := by decide +kernel
theorem dX9_bestOf_54 : decode cX9_bestOf 54 = .ok (.iaload, 1) := by decide +kernel
theorem dX9_bestOf_55 : decode cX9_bestOf 55 = .ok (.iconst (-1), 1) := by decide +kernel
theorem dX9_bestOf_56 : decode cX9_bestOf 56 = .ok (.if_icmp .ne 7, 3) := by decide +kernel
theorem dX9_bestOf_59 : decode cX9_bestOf 59 = .ok (.iconst 1, 1) := by decide +kernel
theorem dX9_bestOf_60 : decode cX9_bestOf 60 = .ok (.goto 4, 3) := by decide +kernel
theorem dX9_bestOf_63 : decode cX9_bestOf 63 = .ok (.iconst 0, 1) := by decide +kernel
theorem dX9_bestOf_64 : decode cX9_bestOf 64 = .ok (.istore 5, 2) := by decide +kernel
theorem dX9_bestOf_66 : decode cX9_bestOf 66 = .ok (.iload 5, 2) := by decide +kernel
theorem dX9_bestOf_68 : decode cX9_bestOf 68 = .ok (.ifCond .eq 13, 3) := by decide +kernel
theorem dX9_bestOf_71 : decode cX9_bestOf 71 = .ok (.aload_n 0, 1) := by decide +kernel
theorem dX9_bestOf_72 : decode cX9_bestOf 72 = .ok (.iload_n 3, 1) := by decide +kernel
theorem dX9_bestOf_73 : decode cX9_bestOf 73 = .ok (.iload 4, 2) := by decide +kernel
theorem dX9_bestOf_75 : decode cX9_bestOf 75 = .ok (.invokevirtual 155, 3) := by decide +kernel
theorem dX9_bestOf_78 : decode cX9_bestOf 78 = .ok (.goto 4, 3) := by decide +kernel
theorem dX9_bestOf_81 : decode cX9_bestOf 81 = .ok (.iconst 0, 1) := by decide +kernel
theorem dX9_bestOf_82 : decode cX9_bestOf 82 = .ok (.istore 6, 2) := by decide +kernel
theorem dX9_bestOf_84 : decode cX9_bestOf 84 = .ok (.iload 5, 2) := by decide +kernel
theorem dX9_bestOf_86 : decode cX9_bestOf 86 = .ok (.ifCond .eq 25, 3) := by decide +kernel
theorem dX9_bestOf_89 : decode cX9_bestOf 89 = .ok (.iload_n 1, 1) := by decide +kernel
theorem dX9_bestOf_90 : decode cX9_bestOf 90 = .ok (.iconst (-1), 1) := by decide +kernel
theorem dX9_bestOf_91 : decode cX9_bestOf 91 = .ok (.if_icmp .eq 9, 3) := by decide +kernel
theorem dX9_bestOf_94 : decode cX9_bestOf 94 = .ok (.iload 6, 2) := by decide +kernel
theorem dX9_bestOf_96 : decode cX9_bestOf 96 = .ok (.iload_n 2, 1) := by decide +kernel
theorem dX9_bestOf_97 : decode cX9_bestOf 97 = .ok (.if_icmp .le 14, 3) := by decide +kernel
theorem dX9_bestOf_100 : decode cX9_bestOf 100 = .ok (.bipush 10, 2) := by decide +kernel
theorem dX9_bestOf_102 : decode cX9_bestOf 102 = .ok (.iload_n 3, 1) := by decide +kernel
theorem dX9_bestOf_103 : decode cX9_bestOf 103 = .ok (.imul, 1) := by decide +kernel
theorem dX9_bestOf_104 : decode cX9_bestOf 104 = .ok (.iload 4, 2) := by decide +kernel
theorem dX9_bestOf_106 : decode cX9_bestOf 106 = .ok (.iadd, 1) := by decide +kernel
theorem dX9_bestOf_107 : decode cX9_bestOf 107 = .ok (.istore_n 1, 1) := by decide +kernel
theorem dX9_bestOf_108 : decode cX9_bestOf 108 = .ok (.iload 6, 2) := by decide +kernel
theorem dX9_bestOf_110 : decode cX9_bestOf 110 = .ok (.istore_n 2, 1) := by decide +kernel
theorem dX9_bestOf_111 : decode cX9_bestOf 111 = .ok (.iinc 4 1, 3) := by decide +kernel
theorem dX9_bestOf_114 : decode cX9_bestOf 114 = .ok (.goto (-93), 3) := by decide +kernel
theorem dX9_bestOf_117 : decode cX9_bestOf 117 = .ok (.iinc 3 1, 3) := by decide +kernel
theorem dX9_bestOf_120 : decode cX9_bestOf 120 = .ok (.goto (-114), 3) := by decide +kernel
theorem dX9_bestOf_123 : decode cX9_bestOf 123 = .ok (.iload_n 1, 1) := by decide +kernel
theorem dX9_bestOf_124 : decode cX9_bestOf 124 = .ok (.ireturn, 1) := by decide +kernel
theorem dX9_bestExchange_0 : decode cX9_bestExchange 0 = .ok (.aload_n 0, 1) := by decide +kernel
theorem dX9_bestExchange_1 : decode cX9_bestExchange 1 = .ok (.invokevirtual 129, 3) := by decide +kernel
theorem dX9_bestExchange_4 : decode cX9_bestExchange 4 = .ok (.aload_n 0, 1) := by decide +kernel
theorem dX9_bestExchange_5 : decode cX9_bestExchange 5 = .ok (.aload_n 0, 1) := by decide +kernel
theorem dX9_bestExchange_6 : decode cX9_bestExchange 6 = .ok (.invokevirtual 158, 3) := by decide +kernel
theorem dX9_bestExchange_9 : decode cX9_bestExchange 9 = .ok (.invokevirtual 82, 3) := by decide +kernel
theorem dX9_bestExchange_12 : decode cX9_bestExchange 12 = .ok (.ireturn, 1) := by decide +kernel
theorem dX9_isLocal_0 : decode cX9_isLocal 0 = .ok (.aload_n 0, 1) := by decide +kernel
theorem dX9_isLocal_1 : decode cX9_isLocal 1 = .ok (.invokevirtual 158, 3) := by decide +kernel
theorem dX9_isLocal_4 : decode cX9_isLocal 4 = .ok (.istore_n 1, 1) := by decide +kernel
theorem dX9_isLocal_5 : decode cX9_isLocal 5 = .ok (.iload_n 1, 1) := by decide +kernel
theorem dX9_isLocal_6 : decode cX9_isLocal 6 = .ok (.iconst (-1), 1) := by decide +kernel
theorem dX9_isLocal_7 : decode cX9_isLocal 7 = .ok (.if_icmp .eq 18, 3) := by decide +kernel
theorem dX9_isLocal_10 : decode cX9_isLocal 10 = .ok (.aload_n 0, 1) := by decide +kernel
theorem dX9_isLocal_11 : decode cX9_isLocal 11 = .ok (.iload_n 1, 1) := by decide +kernel
theorem dX9_isLocal_12 : decode cX9_isLocal 12 = .ok (.bipush 10, 2) := by decide +kernel
theorem dX9_isLocal_14 : decode cX9_isLocal 14 = .ok (.idiv, 1) := by decide +kernel
theorem dX9_isLocal_15 : decode cX9_isLocal 15 = .ok (.iload_n 1, 1) := by decide +kernel
theorem dX9_isLocal_16 : decode cX9_isLocal 16 = .ok (.bipush 10, 2) := by decide +kernel
theorem dX9_isLocal_18 : decode cX9_isLocal 18 = .ok (.irem, 1) := by decide +kernel
theorem dX9_isLocal_19 : decode cX9_isLocal 19 = .ok (.invokevirtual 155, 3) := by decide +kernel
theorem dX9_isLocal_22 : decode cX9_isLocal 22 = .ok (.ifCond .gt 7, 3) := by decide +kernel
theorem dX9_isLocal_25 : decode cX9_isLocal 25 = .ok (.iconst 1, 1) := by decide +kernel
theorem dX9_isLocal_26 : decode cX9_isLocal 26 = .ok (.goto 4, 3) := by decide +kernel
theorem dX9_isLocal_29 : decode cX9_isLocal 29 = .ok (.iconst 0, 1) := by decide +kernel
theorem dX9_isLocal_30 : decode cX9_isLocal 30 = .ok (.ireturn, 1) := by decide +kernel
theorem dX9_descend_0 : decode cX9_descend 0 = .ok (.aload_n 0, 1) := by decide +kernel
theorem dX9_descend_1 : decode cX9_descend 1 = .ok (.invokevirtual 97, 3) := by decide +kernel
theorem dX9_descend_4 : decode cX9_descend 4 = .ok (.aload_n 0, 1) := by decide +kernel
theorem dX9_descend_5 : decode cX9_descend 5 = .ok (.invokevirtual 129, 3) := by decide +kernel
theorem dX9_descend_8 : decode cX9_descend 8 = .ok (.iconst 0, 1) := by decide +kernel
theorem dX9_descend_9 : decode cX9_descend 9 = .ok (.istore_n 1, 1) := by decide +kernel
theorem dX9_descend_10 : decode cX9_descend 10 = .ok (.aload_n 0, 1) := by decide +kernel
theorem dX9_descend_11 : decode cX9_descend 11 = .ok (.invokevirtual 161, 3) := by decide +kernel
theorem dX9_descend_14 : decode cX9_descend 14 = .ok (.ifCond .ne 26, 3) := by decide +kernel
theorem dX9_descend_17 : decode cX9_descend 17 = .ok (.aload_n 0, 1) := by decide +kernel
theorem dX9_descend_18 : decode cX9_descend 18 = .ok (.invokevirtual 158, 3) := by decide +kernel
theorem dX9_descend_21 : decode cX9_descend 21 = .ok (.istore_n 2, 1) := by decide +kernel
theorem dX9_descend_22 : decode cX9_descend 22 = .ok (.aload_n 0, 1) := by decide +kernel
theorem dX9_descend_23 : decode cX9_descend 23 = .ok (.iload_n 2, 1) := by decide +kernel
theorem dX9_descend_24 : decode cX9_descend 24 = .ok (.bipush 10, 2) := by decide +kernel
theorem dX9_descend_26 : decode cX9_descend 26 = .ok (.idiv, 1) := by decide +kernel
theorem dX9_descend_27 : decode cX9_descend 27 = .ok (.iload_n 2, 1) := by decide +kernel
theorem dX9_descend_28 : decode cX9_descend 28 = .ok (.bipush 10, 2) := by decide +kernel
theorem dX9_descend_30 : decode cX9_descend 30 = .ok (.irem, 1) := by decide +kernel
theorem dX9_descend_31 : decode cX9_descend 31 = .ok (.invokevirtual 115, 3) := by decide +kernel
theorem dX9_descend_34 : decode cX9_descend 34 = .ok (.iinc 1 1, 3) := by decide +kernel
theorem dX9_descend_37 : decode cX9_descend 37 = .ok (.goto (-27), 3) := by decide +kernel
theorem dX9_descend_40 : decode cX9_descend 40 = .ok (.aload_n 0, 1) := by decide +kernel
theorem dX9_descend_41 : decode cX9_descend 41 = .ok (.invokevirtual 149, 3) := by decide +kernel
theorem dX9_descend_44 : decode cX9_descend 44 = .ok (.aload_n 0, 1) := by decide +kernel
theorem dX9_descend_45 : decode cX9_descend 45 = .ok (.iload_n 1, 1) := by decide +kernel
theorem dX9_descend_46 : decode cX9_descend 46 = .ok (.invokevirtual 100, 3) := by decide +kernel
theorem dX9_descend_49 : decode cX9_descend 49 = .ok (.ireturn, 1) := by decide +kernel
theorem dX9_within_0 : decode cX9_within 0 = .ok (.iconst 0, 1) := by decide +kernel
theorem dX9_within_1 : decode cX9_within 1 = .ok (.istore_n 2, 1) := by decide +kernel
theorem dX9_within_2 : decode cX9_within 2 = .ok (.aload_n 0, 1) := by decide +kernel
theorem dX9_within_3 : decode cX9_within 3 = .ok (.invokevirtual 142, 3) := by decide +kernel
theorem dX9_within_6 : decode cX9_within 6 = .ok (.iconst 1, 1) := by decide +kernel
theorem dX9_within_7 : decode cX9_within 7 = .ok (.istore_n 3, 1) := by decide +kernel
theorem dX9_within_8 : decode cX9_within 8 = .ok (.iload_n 3, 1) := by decide +kernel
theorem dX9_within_9 : decode cX9_within 9 = .ok (.ifCond .eq 34, 3) := by decide +kernel
theorem dX9_within_12 : decode cX9_within 12 = .ok (.iload_n 2, 1) := by decide +kernel
theorem dX9_within_13 : decode cX9_within 13 = .ok (.aload_n 0, 1) := by decide +kernel
theorem dX9_within_14 : decode cX9_within 14 = .ok (.invokevirtual 164, 3) := by decide +kernel
theorem dX9_within_17 : decode cX9_within 17 = .ok (.ifCond .eq 15, 3) := by decide +kernel
theorem dX9_within_20 : decode cX9_within 20 = .ok (.aload_n 0, 1) := by decide +kernel
theorem dX9_within_21 : decode cX9_within 21 = .ok (.invokevirtual 132, 3) := by decide +kernel
theorem dX9_within_24 : decode cX9_within 24 = .ok (.iload_n 1, 1) := by decide +kernel
theorem dX9_within_25 : decode cX9_within 25 = .ok (.if_icmp .gt 7, 3) := by decide +kernel
theorem dX9_within_28 : decode cX9_within 28 = .ok (.iconst 1, 1) := by decide +kernel
theorem dX9_within_29 : decode cX9_within 29 = .ok (.goto 4, 3) := by decide +kernel
theorem dX9_within_32 : decode cX9_within 32 = .ok (.iconst 0, 1) := by decide +kernel
theorem dX9_within_33 : decode cX9_within 33 = .ok (.iadd, 1) := by decide +kernel
theorem dX9_within_34 : decode cX9_within 34 = .ok (.istore_n 2, 1) := by decide +kernel
theorem dX9_within_35 : decode cX9_within 35 = .ok (.aload_n 0, 1) := by decide +kernel
theorem dX9_within_36 : decode cX9_within 36 = .ok (.invokevirtual 145, 3) := by decide +kernel
theorem dX9_within_39 : decode cX9_within 39 = .ok (.istore_n 3, 1) := by decide +kernel
theorem dX9_within_40 : decode cX9_within 40 = .ok (.goto (-32), 3) := by decide +kernel
theorem dX9_within_43 : decode cX9_within 43 = .ok (.aload_n 0, 1) := by decide +kernel
theorem dX9_within_44 : decode cX9_within 44 = .ok (.iload_n 2, 1) := by decide +kernel
theorem dX9_within_45 : decode cX9_within 45 = .ok (.invokevirtual 82, 3) := by decide +kernel
theorem dX9_within_48 : decode cX9_within 48 = .ok (.ireturn, 1) := by decide +kernel
theorem dX9_least_0 : decode cX9_least 0 = .ok (.ldc 167, 2) := by decide +kernel
theorem dX9_least_2 : decode cX9_least 2 = .ok (.istore_n 1, 1) := by decide +kernel
theorem dX9_least_3 : decode cX9_least 3 = .ok (.aload_n 0, 1) := by decide +kernel
theorem dX9_least_4 : decode cX9_least 4 = .ok (.invokevirtual 142, 3) := by decide +kernel
theorem dX9_least_7 : decode cX9_least 7 = .ok (.iconst 1, 1) := by decide +kernel
theorem dX9_least_8 : decode cX9_least 8 = .ok (.istore_n 2, 1) := by decide +kernel
theorem dX9_least_9 : decode cX9_least 9 = .ok (.iload_n 2, 1) := by decide +kernel
theorem dX9_least_10 : decode cX9_least 10 = .ok (.ifCond .eq 39, 3) := by decide +kernel
theorem dX9_least_13 : decode cX9_least 13 = .ok (.aload_n 0, 1) := by decide +kernel
theorem dX9_least_14 : decode cX9_least 14 = .ok (.invokevirtual 164, 3) := by decide +kernel
theorem dX9_least_17 : decode cX9_least 17 = .ok (.ifCond .eq 10, 3) := by decide +kernel
theorem dX9_least_20 : decode cX9_least 20 = .ok (.aload_n 0, 1) := by decide +kernel
theorem dX9_least_21 : decode cX9_least 21 = .ok (.invokevirtual 132, 3) := by decide +kernel
theorem dX9_least_24 : decode cX9_least 24 = .ok (.goto 5, 3) := by decide +kernel
theorem dX9_least_27 : decode cX9_least 27 = .ok (.ldc 167, 2) := by decide +kernel
theorem dX9_least_29 : decode cX9_least 29 = .ok (.istore_n 3, 1) := by decide +kernel
theorem dX9_least_30 : decode cX9_least 30 = .ok (.iload_n 3, 1) := by decide +kernel
theorem dX9_least_31 : decode cX9_least 31 = .ok (.iload_n 1, 1) := by decide +kernel
theorem dX9_least_32 : decode cX9_least 32 = .ok (.if_icmp .ge 7, 3) := by decide +kernel
theorem dX9_least_35 : decode cX9_least 35 = .ok (.iload_n 3, 1) := by decide +kernel
theorem dX9_least_36 : decode cX9_least 36 = .ok (.goto 4, 3) := by decide +kernel
theorem dX9_least_39 : decode cX9_least 39 = .ok (.iload_n 1, 1) := by decide +kernel
theorem dX9_least_40 : decode cX9_least 40 = .ok (.istore_n 1, 1) := by decide +kernel
theorem dX9_least_41 : decode cX9_least 41 = .ok (.aload_n 0, 1) := by decide +kernel
theorem dX9_least_42 : decode cX9_least 42 = .ok (.invokevirtual 145, 3) := by decide +kernel
theorem dX9_least_45 : decode cX9_least 45 = .ok (.istore_n 2, 1) := by decide +kernel
theorem dX9_least_46 : decode cX9_least 46 = .ok (.goto (-37), 3) := by decide +kernel
theorem dX9_least_49 : decode cX9_least 49 = .ok (.iload_n 1, 1) := by decide +kernel
theorem dX9_least_50 : decode cX9_least 50 = .ok (.ireturn, 1) := by decide +kernel
theorem dX9_optimum_0 : decode cX9_optimum 0 = .ok (.aload_n 0, 1) := by decide +kernel
theorem dX9_optimum_1 : decode cX9_optimum 1 = .ok (.aload_n 0, 1) := by decide +kernel
theorem dX9_optimum_2 : decode cX9_optimum 2 = .ok (.invokevirtual 168, 3) := by decide +kernel
theorem dX9_optimum_5 : decode cX9_optimum 5 = .ok (.invokevirtual 82, 3) := by decide +kernel
theorem dX9_optimum_8 : decode cX9_optimum 8 = .ok (.ireturn, 1) := by decide +kernel
theorem dX9_optimumAt_0 : decode cX9_optimumAt 0 = .ok (.aload_n 0, 1) := by decide +kernel
theorem dX9_optimumAt_1 : decode cX9_optimumAt 1 = .ok (.invokevirtual 168, 3) := by decide +kernel
theorem dX9_optimumAt_4 : decode cX9_optimumAt 4 = .ok (.istore_n 2, 1) := by decide +kernel
theorem dX9_optimumAt_5 : decode cX9_optimumAt 5 = .ok (.iconst 0, 1) := by decide +kernel
theorem dX9_optimumAt_6 : decode cX9_optimumAt 6 = .ok (.istore_n 3, 1) := by decide +kernel
theorem dX9_optimumAt_7 : decode cX9_optimumAt 7 = .ok (.iconst 0, 1) := by decide +kernel
theorem dX9_optimumAt_8 : decode cX9_optimumAt 8 = .ok (.istore 4, 2) := by decide +kernel
theorem dX9_optimumAt_10 : decode cX9_optimumAt 10 = .ok (.iconst (-1), 1) := by decide +kernel
theorem dX9_optimumAt_11 : decode cX9_optimumAt 11 = .ok (.istore 5, 2) := by decide +kernel
theorem dX9_optimumAt_13 : decode cX9_optimumAt 13 = .ok (.aload_n 0, 1) := by decide +kernel
theorem dX9_optimumAt_14 : decode cX9_optimumAt 14 = .ok (.invokevirtual 142, 3) := by decide +kernel
theorem dX9_optimumAt_17 : decode cX9_optimumAt 17 = .ok (.iconst 1, 1) := by decide +kernel
theorem dX9_optimumAt_18 : decode cX9_optimumAt 18 = .ok (.istore 6, 2) := by decide +kernel
theorem dX9_optimumAt_20 : decode cX9_optimumAt 20 = .ok (.iload 6, 2) := by decide +kernel
theorem dX9_optimumAt_22 : decode cX9_optimumAt 22 = .ok (.ifCond .eq 69, 3) := by decide +kernel
theorem dX9_optimumAt_25 : decode cX9_optimumAt 25 = .ok (.aload_n 0, 1) := by decide +kernel
theorem dX9_optimumAt_26 : decode cX9_optimumAt 26 = .ok (.invokevirtual 164, 3) := by decide +kernel
theorem dX9_optimumAt_29 : decode cX9_optimumAt 29 = .ok (.ifCond .eq 15, 3) := by decide +kernel
theorem dX9_optimumAt_32 : decode cX9_optimumAt 32 = .ok (.aload_n 0, 1) := by decide +kernel
theorem dX9_optimumAt_33 : decode cX9_optimumAt 33 = .ok (.invokevirtual 132, 3) := by decide +kernel
theorem dX9_optimumAt_36 : decode cX9_optimumAt 36 = .ok (.iload_n 2, 1) := by decide +kernel
theorem dX9_optimumAt_37 : decode cX9_optimumAt 37 = .ok (.if_icmp .ne 7, 3) := by decide +kernel
theorem dX9_optimumAt_40 : decode cX9_optimumAt 40 = .ok (.iconst 1, 1) := by decide +kernel
theorem dX9_optimumAt_41 : decode cX9_optimumAt 41 = .ok (.goto 4, 3) := by decide +kernel
theorem dX9_optimumAt_44 : decode cX9_optimumAt 44 = .ok (.iconst 0, 1) := by decide +kernel
theorem dX9_optimumAt_45 : decode cX9_optimumAt 45 = .ok (.istore 7, 2) := by decide +kernel
theorem dX9_optimumAt_47 : decode cX9_optimumAt 47 = .ok (.iload 7, 2) := by decide +kernel
theorem dX9_optimumAt_49 : decode cX9_optimumAt 49 = .ok (.ifCond .eq 13, 3) := by decide +kernel
theorem dX9_optimumAt_52 : decode cX9_optimumAt 52 = .ok (.iload_n 3, 1) := by decide +kernel
theorem dX9_optimumAt_53 : decode cX9_optimumAt 53 = .ok (.iload_n 1, 1) := by decide +kernel
theorem dX9_optimumAt_54 : decode cX9_optimumAt 54 = .ok (.if_icmp .ne 8, 3) := by decide +kernel
theorem dX9_optimumAt_57 : decode cX9_optimumAt 57 = .ok (.iload 4, 2) := by decide +kernel
theorem dX9_optimumAt_59 : decode cX9_optimumAt 59 = .ok (.goto 5, 3) := by decide +kernel
theorem dX9_optimumAt_62 : decode cX9_optimumAt 62 = .ok (.iload 5, 2) := by decide +kernel
theorem dX9_optimumAt_64 : decode cX9_optimumAt 64 = .ok (.istore 5, 2) := by decide +kernel
theorem dX9_optimumAt_66 : decode cX9_optimumAt 66 = .ok (.iload_n 3, 1) := by decide +kernel
theorem dX9_optimumAt_67 : decode cX9_optimumAt 67 = .ok (.iload 7, 2) := by decide +kernel
theorem dX9_optimumAt_69 : decode cX9_optimumAt 69 = .ok (.ifCond .eq 7, 3) := by decide +kernel
theorem dX9_optimumAt_72 : decode cX9_optimumAt 72 = .ok (.iconst 1, 1) := by decide +kernel
theorem dX9_optimumAt_73 : decode cX9_optimumAt 73 = .ok (.goto 4, 3) := by decide +kernel
theorem dX9_optimumAt_76 : decode cX9_optimumAt 76 = .ok (.iconst 0, 1) := by decide +kernel
theorem dX9_optimumAt_77 : decode cX9_optimumAt 77 = .ok (.iadd, 1) := by decide +kernel
theorem dX9_optimumAt_78 : decode cX9_optimumAt 78 = .ok (.istore_n 3, 1) := by decide +kernel
theorem dX9_optimumAt_79 : decode cX9_optimumAt 79 = .ok (.iinc 4 1, 3) := by decide +kernel
theorem dX9_optimumAt_82 : decode cX9_optimumAt 82 = .ok (.aload_n 0, 1) := by decide +kernel
theorem dX9_optimumAt_83 : decode cX9_optimumAt 83 = .ok (.invokevirtual 145, 3) := by decide +kernel
theorem dX9_optimumAt_86 : decode cX9_optimumAt 86 = .ok (.istore 6, 2) := by decide +kernel
theorem dX9_optimumAt_88 : decode cX9_optimumAt 88 = .ok (.goto (-68), 3) := by decide +kernel
theorem dX9_optimumAt_91 : decode cX9_optimumAt 91 = .ok (.iload_n 1, 1) := by decide +kernel
theorem dX9_optimumAt_92 : decode cX9_optimumAt 92 = .ok (.ifCond .ge 7, 3) := by decide +kernel
theorem dX9_optimumAt_95 : decode cX9_optimumAt 95 = .ok (.iload_n 3, 1) := by decide +kernel
theorem dX9_optimumAt_96 : decode cX9_optimumAt 96 = .ok (.goto 5, 3) := by decide +kernel
theorem dX9_optimumAt_99 : decode cX9_optimumAt 99 = .ok (.iload 5, 2) := by decide +kernel
theorem dX9_optimumAt_101 : decode cX9_optimumAt 101 = .ok (.ireturn, 1) := by decide +kernel
theorem dX9_optima_0 : decode cX9_optima 0 = .ok (.aload_n 0, 1) := by decide +kernel
theorem dX9_optima_1 : decode cX9_optima 1 = .ok (.aload_n 0, 1) := by decide +kernel
theorem dX9_optima_2 : decode cX9_optima 2 = .ok (.iconst (-1), 1) := by decide +kernel
theorem dX9_optima_3 : decode cX9_optima 3 = .ok (.invokevirtual 171, 3) := by decide +kernel
theorem dX9_optima_6 : decode cX9_optima 6 = .ok (.invokevirtual 82, 3) := by decide +kernel
theorem dX9_optima_9 : decode cX9_optima 9 = .ok (.ireturn, 1) := by decide +kernel
theorem dX9_optimal_0 : decode cX9_optimal 0 = .ok (.aload_n 0, 1) := by decide +kernel
theorem dX9_optimal_1 : decode cX9_optimal 1 = .ok (.iload_n 1, 1) := by decide +kernel
theorem dX9_optimal_2 : decode cX9_optimal 2 = .ok (.ifCond .ge 7, 3) := by decide +kernel
theorem dX9_optimal_5 : decode cX9_optimal 5 = .ok (.iconst (-1), 1) := by decide +kernel
theorem dX9_optimal_6 : decode cX9_optimal 6 = .ok (.goto 8, 3) := by decide +kernel
theorem dX9_optimal_9 : decode cX9_optimal 9 = .ok (.aload_n 0, 1) := by decide +kernel
theorem dX9_optimal_10 : decode cX9_optimal 10 = .ok (.iload_n 1, 1) := by decide +kernel
theorem dX9_optimal_11 : decode cX9_optimal 11 = .ok (.invokevirtual 171, 3) := by decide +kernel
theorem dX9_optimal_14 : decode cX9_optimal 14 = .ok (.invokevirtual 82, 3) := by decide +kernel
theorem dX9_optimal_17 : decode cX9_optimal 17 = .ok (.ireturn, 1) := by decide +kernel
theorem dX9_divisor_0 : decode cX9_divisor 0 = .ok (.iload_n 0, 1) := by decide +kernel
theorem dX9_divisor_1 : decode cX9_divisor 1 = .ok (.istore_n 2, 1) := by decide +kernel
theorem dX9_divisor_2 : decode cX9_divisor 2 = .ok (.iload_n 1, 1) := by decide +kernel
theorem dX9_divisor_3 : decode cX9_divisor 3 = .ok (.istore_n 3, 1) := by decide +kernel
theorem dX9_divisor_4 : decode cX9_divisor 4 = .ok (.iload_n 3, 1) := by decide +kernel
theorem dX9_divisor_5 : decode cX9_divisor 5 = .ok (.ifCond .le 16, 3) := by decide +kernel
theorem dX9_divisor_8 : decode cX9_divisor 8 = .ok (.iload_n 2, 1) := by decide +kernel
theorem dX9_divisor_9 : decode cX9_divisor 9 = .ok (.iload_n 3, 1) := by decide +kernel
theorem dX9_divisor_10 : decode cX9_divisor 10 = .ok (.irem, 1) := by decide +kernel
theorem dX9_divisor_11 : decode cX9_divisor 11 = .ok (.istore 4, 2) := by decide +kernel
theorem dX9_divisor_13 : decode cX9_divisor 13 = .ok (.iload_n 3, 1) := by decide +kernel
theorem dX9_divisor_14 : decode cX9_divisor 14 = .ok (.istore_n 2, 1) := by decide +kernel
theorem dX9_divisor_15 : decode cX9_divisor 15 = .ok (.iload 4, 2) := by decide +kernel
theorem dX9_divisor_17 : decode cX9_divisor 17 = .ok (.istore_n 3, 1) := by decide +kernel
theorem dX9_divisor_18 : decode cX9_divisor 18 = .ok (.goto (-14), 3) := by decide +kernel
theorem dX9_divisor_21 : decode cX9_divisor 21 = .ok (.iload_n 2, 1) := by decide +kernel
theorem dX9_divisor_22 : decode cX9_divisor 22 = .ok (.ireturn, 1) := by decide +kernel
theorem dX9_mean_0 : decode cX9_mean 0 = .ok (.iload_n 1, 1) := by decide +kernel
theorem dX9_mean_1 : decode cX9_mean 1 = .ok (.iconst 0, 1) := by decide +kernel
theorem dX9_mean_2 : decode cX9_mean 2 = .ok (.iconst 1, 1) := by decide +kernel
theorem dX9_mean_3 : decode cX9_mean 3 = .ok (.invokestatic 86, 3) := by decide +kernel
theorem dX9_mean_6 : decode cX9_mean 6 = .ok (.ifCond .ne 9, 3) := by decide +kernel
theorem dX9_mean_9 : decode cX9_mean 9 = .ok (.aload_n 0, 1) := by decide +kernel
theorem dX9_mean_10 : decode cX9_mean 10 = .ok (.iconst 1, 1) := by decide +kernel
theorem dX9_mean_11 : decode cX9_mean 11 = .ok (.invokevirtual 94, 3) := by decide +kernel
theorem dX9_mean_14 : decode cX9_mean 14 = .ok (.ireturn, 1) := by decide +kernel
theorem dX9_mean_15 : decode cX9_mean 15 = .ok (.iconst 0, 1) := by decide +kernel
theorem dX9_mean_16 : decode cX9_mean 16 = .ok (.istore_n 2, 1) := by decide +kernel
theorem dX9_mean_17 : decode cX9_mean 17 = .ok (.iconst 0, 1) := by decide +kernel
theorem dX9_mean_18 : decode cX9_mean 18 = .ok (.istore_n 3, 1) := by decide +kernel
theorem dX9_mean_19 : decode cX9_mean 19 = .ok (.aload_n 0, 1) := by decide +kernel
theorem dX9_mean_20 : decode cX9_mean 20 = .ok (.invokevirtual 142, 3) := by decide +kernel
theorem dX9_mean_23 : decode cX9_mean 23 = .ok (.iconst 1, 1) := by decide +kernel
theorem dX9_mean_24 : decode cX9_mean 24 = .ok (.istore 4, 2) := by decide +kernel
theorem dX9_mean_26 : decode cX9_mean 26 = .ok (.iload 4, 2) := by decide +kernel
theorem dX9_mean_28 : decode cX9_mean 28 = .ok (.ifCond .eq 47, 3) := by decide +kernel
theorem dX9_mean_31 : decode cX9_mean 31 = .ok (.aload_n 0, 1) := by decide +kernel
theorem dX9_mean_32 : decode cX9_mean 32 = .ok (.invokevirtual 164, 3) := by decide +kernel
theorem dX9_mean_35 : decode cX9_mean 35 = .ok (.istore 5, 2) := by decide +kernel
theorem dX9_mean_37 : decode cX9_mean 37 = .ok (.iload_n 2, 1) := by decide +kernel
theorem dX9_mean_38 : decode cX9_mean 38 = .ok (.iload 5, 2) := by decide +kernel
theorem dX9_mean_40 : decode cX9_mean 40 = .ok (.ifCond .eq 10, 3) := by decide +kernel
theorem dX9_mean_43 : decode cX9_mean 43 = .ok (.aload_n 0, 1) := by decide +kernel
theorem dX9_mean_44 : decode cX9_mean 44 = .ok (.invokevirtual 132, 3) := by decide +kernel
theorem dX9_mean_47 : decode cX9_mean 47 = .ok (.goto 4, 3) := by decide +kernel
theorem dX9_mean_50 : decode cX9_mean 50 = .ok (.iconst 0, 1) := by decide +kernel
theorem dX9_mean_51 : decode cX9_mean 51 = .ok (.iadd, 1) := by decide +kernel
theorem dX9_mean_52 : decode cX9_mean 52 = .ok (.istore_n 2, 1) := by decide +kernel
theorem dX9_mean_53 : decode cX9_mean 53 = .ok (.iload_n 3, 1) := by decide +kernel
theorem dX9_mean_54 : decode cX9_mean 54 = .ok (.iload 5, 2) := by decide +kernel
theorem dX9_mean_56 : decode cX9_mean 56 = .ok (.ifCond .eq 7, 3) := by decide +kernel
theorem dX9_mean_59 : decode cX9_mean 59 = .ok (.iconst 1, 1) := by decide +kernel
theorem dX9_mean_60 : decode cX9_mean 60 = .ok (.goto 4, 3) := by decide +kernel
theorem dX9_mean_63 : decode cX9_mean 63 = .ok (.iconst 0, 1) := by decide +kernel
theorem dX9_mean_64 : decode cX9_mean 64 = .ok (.iadd, 1) := by decide +kernel
theorem dX9_mean_65 : decode cX9_mean 65 = .ok (.istore_n 3, 1) := by decide +kernel
theorem dX9_mean_66 : decode cX9_mean 66 = .ok (.aload_n 0, 1) := by decide +kernel
theorem dX9_mean_67 : decode cX9_mean 67 = .ok (.invokevirtual 145, 3) := by decide +kernel
theorem dX9_mean_70 : decode cX9_mean 70 = .ok (.istore 4, 2) := by decide +kernel
theorem dX9_mean_72 : decode cX9_mean 72 = .ok (.goto (-46), 3) := by decide +kernel
theorem dX9_mean_75 : decode cX9_mean 75 = .ok (.iload_n 2, 1) := by decide +kernel
theorem dX9_mean_76 : decode cX9_mean 76 = .ok (.iload_n 3, 1) := by decide +kernel
theorem dX9_mean_77 : decode cX9_mean 77 = .ok (.invokestatic 174, 3) := by decide +kernel
theorem dX9_mean_80 : decode cX9_mean 80 = .ok (.istore 5, 2) := by decide +kernel
theorem dX9_mean_82 : decode cX9_mean 82 = .ok (.aload_n 0, 1) := by decide +kernel
theorem dX9_mean_83 : decode cX9_mean 83 = .ok (.iload_n 1, 1) := by decide +kernel
theorem dX9_mean_84 : decode cX9_mean 84 = .ok (.ifCond .ne 10, 3) := by decide +kernel
theorem dX9_mean_87 : decode cX9_mean 87 = .ok (.iload_n 2, 1) := by decide +kernel
theorem dX9_mean_88 : decode cX9_mean 88 = .ok (.iload 5, 2) := by decide +kernel
theorem dX9_mean_90 : decode cX9_mean 90 = .ok (.idiv, 1) := by decide +kernel
theorem dX9_mean_91 : decode cX9_mean 91 = .ok (.goto 7, 3) := by decide +kernel
theorem dX9_mean_94 : decode cX9_mean 94 = .ok (.iload_n 3, 1) := by decide +kernel
theorem dX9_mean_95 : decode cX9_mean 95 = .ok (.iload 5, 2) := by decide +kernel
theorem dX9_mean_97 : decode cX9_mean 97 = .ok (.idiv, 1) := by decide +kernel
theorem dX9_mean_98 : decode cX9_mean 98 = .ok (.invokevirtual 82, 3) := by decide +kernel
theorem dX9_mean_101 : decode cX9_mean 101 = .ok (.ireturn, 1) := by decide +kernel
theorem dX9_localOptima_0 : decode cX9_localOptima 0 = .ok (.iconst 0, 1) := by decide +kernel
theorem dX9_localOptima_1 : decode cX9_localOptima 1 = .ok (.istore_n 1, 1) := by decide +kernel
theorem dX9_localOptima_2 : decode cX9_localOptima 2 = .ok (.aload_n 0, 1) := by decide +kernel
theorem dX9_localOptima_3 : decode cX9_localOptima 3 = .ok (.invokevirtual 142, 3) := by decide +kernel
theorem dX9_localOptima_6 : decode cX9_localOptima 6 = .ok (.iconst 1, 1) := by decide +kernel
theorem dX9_localOptima_7 : decode cX9_localOptima 7 = .ok (.istore_n 2, 1) := by decide +kernel
theorem dX9_localOptima_8 : decode cX9_localOptima 8 = .ok (.iload_n 2, 1) := by decide +kernel
theorem dX9_localOptima_9 : decode cX9_localOptima 9 = .ok (.ifCond .eq 33, 3) := by decide +kernel
theorem dX9_localOptima_12 : decode cX9_localOptima 12 = .ok (.iload_n 1, 1) := by decide +kernel
theorem dX9_localOptima_13 : decode cX9_localOptima 13 = .ok (.aload_n 0, 1) := by decide +kernel
theorem dX9_localOptima_14 : decode cX9_localOptima 14 = .ok (.invokevirtual 164, 3) := by decide +kernel
theorem dX9_localOptima_17 : decode cX9_localOptima 17 = .ok (.ifCond .eq 14, 3) := by decide +kernel
theorem dX9_localOptima_20 : decode cX9_localOptima 20 = .ok (.aload_n 0, 1) := by decide +kernel
theorem dX9_localOptima_21 : decode cX9_localOptima 21 = .ok (.invokevirtual 161, 3) := by decide +kernel
theorem dX9_localOptima_24 : decode cX9_localOptima 24 = .ok (.ifCond .eq 7, 3) := by decide +kernel
theorem dX9_localOptima_27 : decode cX9_localOptima 27 = .ok (.iconst 1, 1) := by decide +kernel
theorem dX9_localOptima_28 : decode cX9_localOptima 28 = .ok (.goto 4, 3) := by decide +kernel
theorem dX9_localOptima_31 : decode cX9_localOptima 31 = .ok (.iconst 0, 1) := by decide +kernel
theorem dX9_localOptima_32 : decode cX9_localOptima 32 = .ok (.iadd, 1) := by decide +kernel
theorem dX9_localOptima_33 : decode cX9_localOptima 33 = .ok (.istore_n 1, 1) := by decide +kernel
theorem dX9_localOptima_34 : decode cX9_localOptima 34 = .ok (.aload_n 0, 1) := by decide +kernel
theorem dX9_localOptima_35 : decode cX9_localOptima 35 = .ok (.invokevirtual 145, 3) := by decide +kernel
theorem dX9_localOptima_38 : decode cX9_localOptima 38 = .ok (.istore_n 2, 1) := by decide +kernel
theorem dX9_localOptima_39 : decode cX9_localOptima 39 = .ok (.goto (-31), 3) := by decide +kernel
theorem dX9_localOptima_42 : decode cX9_localOptima 42 = .ok (.aload_n 0, 1) := by decide +kernel
theorem dX9_localOptima_43 : decode cX9_localOptima 43 = .ok (.iload_n 1, 1) := by decide +kernel
theorem dX9_localOptima_44 : decode cX9_localOptima 44 = .ok (.invokevirtual 82, 3) := by decide +kernel
theorem dX9_localOptima_47 : decode cX9_localOptima 47 = .ok (.ireturn, 1) := by decide +kernel
theorem dX9_looks_0 : decode cX9_looks 0 = .ok (.iconst 0, 1) := by decide +kernel
theorem dX9_looks_1 : decode cX9_looks 1 = .ok (.istore_n 1, 1) := by decide +kernel
theorem dX9_looks_2 : decode cX9_looks 2 = .ok (.iload_n 1, 1) := by decide +kernel
theorem dX9_looks_3 : decode cX9_looks 3 = .ok (.bipush 6, 2) := by decide +kernel
theorem dX9_looks_5 : decode cX9_looks 5 = .ok (.if_icmp .ge 24, 3) := by decide +kernel
theorem dX9_looks_8 : decode cX9_looks 8 = .ok (.aload_n 0, 1) := by decide +kernel
theorem dX9_looks_9 : decode cX9_looks 9 = .ok (.getfield 25, 3) := by decide +kernel
theorem dX9_looks_12 : decode cX9_looks 12 = .ok (.iload_n 1, 1) := by decide +kernel
theorem dX9_looks_13 : decode cX9_looks 13 = .ok (.aload_n 0, 1) := by decide +kernel
theorem dX9_looks_14 : decode cX9_looks 14 = .ok (.getfield 7, 3) := by decide +kernel
theorem dX9_looks_17 : decode cX9_looks 17 = .ok (.bipush 115, 2) := by decide +kernel
theorem dX9_looks_19 : decode cX9_looks 19 = .ok (.iload_n 1, 1) := by decide +kernel
theorem dX9_looks_20 : decode cX9_looks 20 = .ok (.iadd, 1) := by decide +kernel
theorem dX9_looks_21 : decode cX9_looks 21 = .ok (.iaload, 1) := by decide +kernel
theorem dX9_looks_22 : decode cX9_looks 22 = .ok (.iastore, 1) := by decide +kernel
theorem dX9_looks_23 : decode cX9_looks 23 = .ok (.iinc 1 1, 3) := by decide +kernel
theorem dX9_looks_26 : decode cX9_looks 26 = .ok (.goto (-24), 3) := by decide +kernel
theorem dX9_looks_29 : decode cX9_looks 29 = .ok (.return_, 1) := by decide +kernel
theorem dX9_pairs_0 : decode cX9_pairs 0 = .ok (.iconst 0, 1) := by decide +kernel
theorem dX9_pairs_1 : decode cX9_pairs 1 = .ok (.istore_n 1, 1) := by decide +kernel
theorem dX9_pairs_2 : decode cX9_pairs 2 = .ok (.iconst 0, 1) := by decide +kernel
theorem dX9_pairs_3 : decode cX9_pairs 3 = .ok (.istore_n 2, 1) := by decide +kernel
theorem dX9_pairs_4 : decode cX9_pairs 4 = .ok (.iload_n 2, 1) := by decide +kernel
theorem dX9_pairs_5 : decode cX9_pairs 5 = .ok (.aload_n 0, 1) := by decide +kernel
theorem dX9_pairs_6 : decode cX9_pairs 6 = .ok (.getfield 7, 3) := by decide +kernel
theorem dX9_pairs_9 : decode cX9_pairs 9 = .ok (.iconst 0, 1) := by decide +kernel
theorem dX9_pairs_10 : decode cX9_pairs 10 = .ok (.iaload, 1) := by decide +kernel
theorem dX9_pairs_11 : decode cX9_pairs 11 = .ok (.if_icmp .ge 27, 3) := by decide +kernel
theorem dX9_pairs_14 : decode cX9_pairs 14 = .ok (.iload_n 1, 1) := by decide +kernel
theorem dX9_pairs_15 : decode cX9_pairs 15 = .ok (.aload_n 0, 1) := by decide +kernel
theorem dX9_pairs_16 : decode cX9_pairs 16 = .ok (.getfield 25, 3) := by decide +kernel
theorem dX9_pairs_19 : decode cX9_pairs 19 = .ok (.iload_n 2, 1) := by decide +kernel
theorem dX9_pairs_20 : decode cX9_pairs 20 = .ok (.iaload, 1) := by decide +kernel
theorem dX9_pairs_21 : decode cX9_pairs 21 = .ok (.iconst (-1), 1) := by decide +kernel
theorem dX9_pairs_22 : decode cX9_pairs 22 = .ok (.if_icmp .ne 7, 3) := by decide +kernel
theorem dX9_pairs_25 : decode cX9_pairs 25 = .ok (.iconst 0, 1) := by decide +kernel
theorem dX9_pairs_26 : decode cX9_pairs 26 = .ok (.goto 4, 3) := by decide +kernel
theorem dX9_pairs_29 : decode cX9_pairs 29 = .ok (.iconst 1, 1) := by decide +kernel
theorem dX9_pairs_30 : decode cX9_pairs 30 = .ok (.iadd, 1) := by decide +kernel
theorem dX9_pairs_31 : decode cX9_pairs 31 = .ok (.istore_n 1, 1) := by decide +kernel
theorem dX9_pairs_32 : decode cX9_pairs 32 = .ok (.iinc 2 1, 3) := by decide +kernel
theorem dX9_pairs_35 : decode cX9_pairs 35 = .ok (.goto (-31), 3) := by decide +kernel
theorem dX9_pairs_38 : decode cX9_pairs 38 = .ok (.iload_n 1, 1) := by decide +kernel
theorem dX9_pairs_39 : decode cX9_pairs 39 = .ok (.ireturn, 1) := by decide +kernel
theorem dX9_isTaken_0 : decode cX9_isTaken 0 = .ok (.iconst 0, 1) := by decide +kernel
theorem dX9_isTaken_1 : decode cX9_isTaken 1 = .ok (.istore_n 2, 1) := by decide +kernel
theorem dX9_isTaken_2 : decode cX9_isTaken 2 = .ok (.iconst 0, 1) := by decide +kernel
theorem dX9_isTaken_3 : decode cX9_isTaken 3 = .ok (.istore_n 3, 1) := by decide +kernel
theorem dX9_isTaken_4 : decode cX9_isTaken 4 = .ok (.iload_n 3, 1) := by decide +kernel
theorem dX9_isTaken_5 : decode cX9_isTaken 5 = .ok (.aload_n 0, 1) := by decide +kernel
theorem dX9_isTaken_6 : decode cX9_isTaken 6 = .ok (.getfield 7, 3) := by decide +kernel
theorem dX9_isTaken_9 : decode cX9_isTaken 9 = .ok (.iconst 0, 1) := by decide +kernel
theorem dX9_isTaken_10 : decode cX9_isTaken 10 = .ok (.iaload, 1) := by decide +kernel
theorem dX9_isTaken_11 : decode cX9_isTaken 11 = .ok (.if_icmp .ge 29, 3) := by decide +kernel
theorem dX9_isTaken_14 : decode cX9_isTaken 14 = .ok (.iload_n 2, 1) := by decide +kernel
theorem dX9_isTaken_15 : decode cX9_isTaken 15 = .ok (.ifCond .ne 13, 3) := by decide +kernel
theorem dX9_isTaken_18 : decode cX9_isTaken 18 = .ok (.aload_n 0, 1) := by decide +kernel
theorem dX9_isTaken_19 : decode cX9_isTaken 19 = .ok (.getfield 25, 3) := by decide +kernel
theorem dX9_isTaken_22 : decode cX9_isTaken 22 = .ok (.iload_n 3, 1) := by decide +kernel
theorem dX9_isTaken_23 : decode cX9_isTaken 23 = .ok (.iaload, 1) := by decide +kernel
theorem dX9_isTaken_24 : decode cX9_isTaken 24 = .ok (.iload_n 1, 1) := by decide +kernel
theorem dX9_isTaken_25 : decode cX9_isTaken 25 = .ok (.if_icmp .ne 7, 3) := by decide +kernel
theorem dX9_isTaken_28 : decode cX9_isTaken 28 = .ok (.iconst 1, 1) := by decide +kernel
theorem dX9_isTaken_29 : decode cX9_isTaken 29 = .ok (.goto 4, 3) := by decide +kernel
theorem dX9_isTaken_32 : decode cX9_isTaken 32 = .ok (.iconst 0, 1) := by decide +kernel
theorem dX9_isTaken_33 : decode cX9_isTaken 33 = .ok (.istore_n 2, 1) := by decide +kernel
theorem dX9_isTaken_34 : decode cX9_isTaken 34 = .ok (.iinc 3 1, 3) := by decide +kernel
theorem dX9_isTaken_37 : decode cX9_isTaken 37 = .ok (.goto (-33), 3) := by decide +kernel
theorem dX9_isTaken_40 : decode cX9_isTaken 40 = .ok (.iload_n 2, 1) := by decide +kernel
theorem dX9_isTaken_41 : decode cX9_isTaken 41 = .ok (.ireturn, 1) := by decide +kernel
theorem dX9_areFree_0 : decode cX9_areFree 0 = .ok (.aload_n 0, 1) := by decide +kernel
theorem dX9_areFree_1 : decode cX9_areFree 1 = .ok (.invokevirtual 177, 3) := by decide +kernel
theorem dX9_areFree_4 : decode cX9_areFree 4 = .ok (.aload_n 0, 1) := by decide +kernel
theorem dX9_areFree_5 : decode cX9_areFree 5 = .ok (.getfield 25, 3) := by decide +kernel
theorem dX9_areFree_8 : decode cX9_areFree 8 = .ok (.iload_n 1, 1) := by decide +kernel
theorem dX9_areFree_9 : decode cX9_areFree 9 = .ok (.iaload, 1) := by decide +kernel
theorem dX9_areFree_10 : decode cX9_areFree 10 = .ok (.iconst (-1), 1) := by decide +kernel
theorem dX9_areFree_11 : decode cX9_areFree 11 = .ok (.if_icmp .ne 15, 3) := by decide +kernel
theorem dX9_areFree_14 : decode cX9_areFree 14 = .ok (.aload_n 0, 1) := by decide +kernel
theorem dX9_areFree_15 : decode cX9_areFree 15 = .ok (.iload_n 2, 1) := by decide +kernel
theorem dX9_areFree_16 : decode cX9_areFree 16 = .ok (.invokevirtual 180, 3) := by decide +kernel
theorem dX9_areFree_19 : decode cX9_areFree 19 = .ok (.ifCond .ne 7, 3) := by decide +kernel
theorem dX9_areFree_22 : decode cX9_areFree 22 = .ok (.iconst 1, 1) := by decide +kernel
theorem dX9_areFree_23 : decode cX9_areFree 23 = .ok (.goto 4, 3) := by decide +kernel
theorem dX9_areFree_26 : decode cX9_areFree 26 = .ok (.iconst 0, 1) := by decide +kernel
theorem dX9_areFree_27 : decode cX9_areFree 27 = .ok (.ireturn, 1) := by decide +kernel
theorem dX9_fix_0 : decode cX9_fix 0 = .ok (.aload_n 0, 1) := by decide +kernel
theorem dX9_fix_1 : decode cX9_fix 1 = .ok (.iload_n 1, 1) := by decide +kernel
theorem dX9_fix_2 : decode cX9_fix 2 = .ok (.invokevirtual 103, 3) := by decide +kernel
theorem dX9_fix_5 : decode cX9_fix 5 = .ok (.ifCond .eq 11, 3) := by decide +kernel
theorem dX9_fix_8 : decode cX9_fix 8 = .ok (.aload_n 0, 1) := by decide +kernel
theorem dX9_fix_9 : decode cX9_fix 9 = .ok (.iload_n 2, 1) := by decide +kernel
theorem dX9_fix_10 : decode cX9_fix 10 = .ok (.invokevirtual 103, 3) := by decide +kernel
theorem dX9_fix_13 : decode cX9_fix 13 = .ok (.ifCond .ne 9, 3) := by decide +kernel
theorem dX9_fix_16 : decode cX9_fix 16 = .ok (.aload_n 0, 1) := by decide +kernel
theorem dX9_fix_17 : decode cX9_fix 17 = .ok (.iconst 1, 1) := by decide +kernel
theorem dX9_fix_18 : decode cX9_fix 18 = .ok (.invokevirtual 94, 3) := by decide +kernel
theorem dX9_fix_21 : decode cX9_fix 21 = .ok (.ireturn, 1) := by decide +kernel
theorem dX9_fix_22 : decode cX9_fix 22 = .ok (.aload_n 0, 1) := by decide +kernel
theorem dX9_fix_23 : decode cX9_fix 23 = .ok (.iload_n 1, 1) := by decide +kernel
theorem dX9_fix_24 : decode cX9_fix 24 = .ok (.iload_n 2, 1) := by decide +kernel
theorem dX9_fix_25 : decode cX9_fix 25 = .ok (.invokevirtual 183, 3) := by decide +kernel
theorem dX9_fix_28 : decode cX9_fix 28 = .ok (.ifCond .ne 9, 3) := by decide +kernel
theorem dX9_fix_31 : decode cX9_fix 31 = .ok (.aload_n 0, 1) := by decide +kernel
theorem dX9_fix_32 : decode cX9_fix 32 = .ok (.iconst 2, 1) := by decide +kernel
theorem dX9_fix_33 : decode cX9_fix 33 = .ok (.invokevirtual 94, 3) := by decide +kernel
theorem dX9_fix_36 : decode cX9_fix 36 = .ok (.ireturn, 1) := by decide +kernel
theorem dX9_fix_37 : decode cX9_fix 37 = .ok (.aload_n 0, 1) := by decide +kernel
theorem dX9_fix_38 : decode cX9_fix 38 = .ok (.invokevirtual 97, 3) := by decide +kernel
theorem dX9_fix_41 : decode cX9_fix 41 = .ok (.aload_n 0, 1) := by decide +kernel
theorem dX9_fix_42 : decode cX9_fix 42 = .ok (.getfield 7, 3) := by decide +kernel
theorem dX9_fix_45 : decode cX9_fix 45 = .ok (.bipush 115, 2) := by decide +kernel
theorem dX9_fix_47 : decode cX9_fix 47 = .ok (.iload_n 1, 1) := by decide +kernel
theorem dX9_fix_48 : decode cX9_fix 48 = .ok (.iadd, 1) := by decide +kernel
theorem dX9_fix_49 : decode cX9_fix 49 = .ok (.iload_n 2, 1) := by decide +kernel
theorem dX9_fix_50 : decode cX9_fix 50 = .ok (.iastore, 1) := by decide +kernel
theorem dX9_fix_51 : decode cX9_fix 51 = .ok (.aload_n 0, 1) := by decide +kernel
theorem dX9_fix_52 : decode cX9_fix 52 = .ok (.invokevirtual 177, 3) := by decide +kernel
theorem dX9_fix_55 : decode cX9_fix 55 = .ok (.aload_n 0, 1) := by decide +kernel
theorem dX9_fix_56 : decode cX9_fix 56 = .ok (.aload_n 0, 1) := by decide +kernel
theorem dX9_fix_57 : decode cX9_fix 57 = .ok (.invokevirtual 187, 3) := by decide +kernel
theorem dX9_fix_60 : decode cX9_fix 60 = .ok (.invokevirtual 100, 3) := by decide +kernel
theorem dX9_fix_63 : decode cX9_fix 63 = .ok (.ireturn, 1) := by decide +kernel
theorem dX9_free_0 : decode cX9_free 0 = .ok (.aload_n 0, 1) := by decide +kernel
theorem dX9_free_1 : decode cX9_free 1 = .ok (.iload_n 1, 1) := by decide +kernel
theorem dX9_free_2 : decode cX9_free 2 = .ok (.invokevirtual 103, 3) := by decide +kernel
theorem dX9_free_5 : decode cX9_free 5 = .ok (.ifCond .ne 9, 3) := by decide +kernel
theorem dX9_free_8 : decode cX9_free 8 = .ok (.aload_n 0, 1) := by decide +kernel
theorem dX9_free_9 : decode cX9_free 9 = .ok (.iconst 1, 1) := by decide +kernel
theorem dX9_free_10 : decode cX9_free 10 = .ok (.invokevirtual 94, 3) := by decide +kernel
theorem dX9_free_13 : decode cX9_free 13 = .ok (.ireturn, 1) := by decide +kernel
theorem dX9_free_14 : decode cX9_free 14 = .ok (.aload_n 0, 1) := by decide +kernel
theorem dX9_free_15 : decode cX9_free 15 = .ok (.getfield 7, 3) := by decide +kernel
theorem dX9_free_18 : decode cX9_free 18 = .ok (.bipush 115, 2) := by decide +kernel
theorem dX9_free_20 : decode cX9_free 20 = .ok (.iload_n 1, 1) := by decide +kernel
theorem dX9_free_21 : decode cX9_free 21 = .ok (.iadd, 1) := by decide +kernel
theorem dX9_free_22 : decode cX9_free 22 = .ok (.iaload, 1) := by decide +kernel
theorem dX9_free_23 : decode cX9_free 23 = .ok (.iconst (-1), 1) := by decide +kernel
theorem dX9_free_24 : decode cX9_free 24 = .ok (.if_icmp .ne 9, 3) := by decide +kernel
theorem dX9_free_27 : decode cX9_free 27 = .ok (.aload_n 0, 1) := by decide +kernel
theorem dX9_free_28 : decode cX9_free 28 = .ok (.iconst 2, 1) := by decide +kernel
theorem dX9_free_29 : decode cX9_free 29 = .ok (.invokevirtual 94, 3) := by decide +kernel
theorem dX9_free_32 : decode cX9_free 32 = .ok (.ireturn, 1) := by decide +kernel
theorem dX9_free_33 : decode cX9_free 33 = .ok (.aload_n 0, 1) := by decide +kernel
theorem dX9_free_34 : decode cX9_free 34 = .ok (.invokevirtual 97, 3) := by decide +kernel
theorem dX9_free_37 : decode cX9_free 37 = .ok (.aload_n 0, 1) := by decide +kernel
theorem dX9_free_38 : decode cX9_free 38 = .ok (.getfield 7, 3) := by decide +kernel
theorem dX9_free_41 : decode cX9_free 41 = .ok (.bipush 115, 2) := by decide +kernel
theorem dX9_free_43 : decode cX9_free 43 = .ok (.iload_n 1, 1) := by decide +kernel
theorem dX9_free_44 : decode cX9_free 44 = .ok (.iadd, 1) := by decide +kernel
theorem dX9_free_45 : decode cX9_free 45 = .ok (.iaload, 1) := by decide +kernel
theorem dX9_free_46 : decode cX9_free 46 = .ok (.istore_n 2, 1) := by decide +kernel
theorem dX9_free_47 : decode cX9_free 47 = .ok (.aload_n 0, 1) := by decide +kernel
theorem dX9_free_48 : decode cX9_free 48 = .ok (.getfield 7, 3) := by decide +kernel
theorem dX9_free_51 : decode cX9_free 51 = .ok (.bipush 115, 2) := by decide +kernel
theorem dX9_free_53 : decode cX9_free 53 = .ok (.iload_n 1, 1) := by decide +kernel
theorem dX9_free_54 : decode cX9_free 54 = .ok (.iadd, 1) := by decide +kernel
theorem dX9_free_55 : decode cX9_free 55 = .ok (.iconst (-1), 1) := by decide +kernel
theorem dX9_free_56 : decode cX9_free 56 = .ok (.iastore, 1) := by decide +kernel
theorem dX9_free_57 : decode cX9_free 57 = .ok (.aload_n 0, 1) := by decide +kernel
theorem dX9_free_58 : decode cX9_free 58 = .ok (.iload_n 2, 1) := by decide +kernel
theorem dX9_free_59 : decode cX9_free 59 = .ok (.invokevirtual 100, 3) := by decide +kernel
theorem dX9_free_62 : decode cX9_free 62 = .ok (.ireturn, 1) := by decide +kernel
theorem dX9_fixed_0 : decode cX9_fixed 0 = .ok (.aload_n 0, 1) := by decide +kernel
theorem dX9_fixed_1 : decode cX9_fixed 1 = .ok (.iload_n 1, 1) := by decide +kernel
theorem dX9_fixed_2 : decode cX9_fixed 2 = .ok (.invokevirtual 103, 3) := by decide +kernel
theorem dX9_fixed_5 : decode cX9_fixed 5 = .ok (.ifCond .eq 19, 3) := by decide +kernel
theorem dX9_fixed_8 : decode cX9_fixed 8 = .ok (.aload_n 0, 1) := by decide +kernel
theorem dX9_fixed_9 : decode cX9_fixed 9 = .ok (.aload_n 0, 1) := by decide +kernel
theorem dX9_fixed_10 : decode cX9_fixed 10 = .ok (.getfield 7, 3) := by decide +kernel
theorem dX9_fixed_13 : decode cX9_fixed 13 = .ok (.bipush 115, 2) := by decide +kernel
theorem dX9_fixed_15 : decode cX9_fixed 15 = .ok (.iload_n 1, 1) := by decide +kernel
theorem dX9_fixed_16 : decode cX9_fixed 16 = .ok (.iadd, 1) := by decide +kernel
theorem dX9_fixed_17 : decode cX9_fixed 17 = .ok (.iaload, 1) := by decide +kernel
theorem dX9_fixed_18 : decode cX9_fixed 18 = .ok (.invokevirtual 82, 3) := by decide +kernel
theorem dX9_fixed_21 : decode cX9_fixed 21 = .ok (.goto 8, 3) := by decide +kernel
theorem dX9_fixed_24 : decode cX9_fixed 24 = .ok (.aload_n 0, 1) := by decide +kernel
theorem dX9_fixed_25 : decode cX9_fixed 25 = .ok (.iconst 1, 1) := by decide +kernel
theorem dX9_fixed_26 : decode cX9_fixed 26 = .ok (.invokevirtual 94, 3) := by decide +kernel
theorem dX9_fixed_29 : decode cX9_fixed 29 = .ok (.ireturn, 1) := by decide +kernel
theorem dX9_fixedPart_0 : decode cX9_fixedPart 0 = .ok (.iconst 0, 1) := by decide +kernel
theorem dX9_fixedPart_1 : decode cX9_fixedPart 1 = .ok (.istore_n 1, 1) := by decide +kernel
theorem dX9_fixedPart_2 : decode cX9_fixedPart 2 = .ok (.iconst 0, 1) := by decide +kernel
theorem dX9_fixedPart_3 : decode cX9_fixedPart 3 = .ok (.istore_n 2, 1) := by decide +kernel
theorem dX9_fixedPart_4 : decode cX9_fixedPart 4 = .ok (.iload_n 2, 1) := by decide +kernel
theorem dX9_fixedPart_5 : decode cX9_fixedPart 5 = .ok (.aload_n 0, 1) := by decide +kernel
theorem dX9_fixedPart_6 : decode cX9_fixedPart 6 = .ok (.getfield 7, 3) := by decide +kernel
theorem dX9_fixedPart_9 : decode cX9_fixedPart 9 = .ok (.iconst 0, 1) := by decide +kernel
theorem dX9_fixedPart_10 : decode cX9_fixedPart 10 = .ok (.iaload, 1) := by decide +kernel
theorem dX9_fixedPart_11 : decode cX9_fixedPart 11 = .ok (.if_icmp .ge 105, 3) := by decide +kernel
theorem dX9_fixedPart_14 : decode cX9_fixedPart 14 = .ok (.iload_n 1, 1) := by decide +kernel
theorem dX9_fixedPart_15 : decode cX9_fixedPart 15 = .ok (.aload_n 0, 1) := by decide +kernel
theorem dX9_fixedPart_16 : decode cX9_fixedPart 16 = .ok (.getfield 25, 3) := by decide +kernel
theorem dX9_fixedPart_19 : decode cX9_fixedPart 19 = .ok (.iload_n 2, 1) := by decide +kernel
theorem dX9_fixedPart_20 : decode cX9_fixedPart 20 = .ok (.iaload, 1) := by decide +kernel
theorem dX9_fixedPart_21 : decode cX9_fixedPart 21 = .ok (.iconst (-1), 1) := by decide +kernel
theorem dX9_fixedPart_22 : decode cX9_fixedPart 22 = .ok (.if_icmp .ne 7, 3) := by decide +kernel
theorem dX9_fixedPart_25 : decode cX9_fixedPart 25 = .ok (.iconst 0, 1) := by decide +kernel
theorem dX9_fixedPart_26 : decode cX9_fixedPart 26 = .ok (.goto 14, 3) := by decide +kernel
theorem dX9_fixedPart_29 : decode cX9_fixedPart 29 = .ok (.aload_n 0, 1) := by decide +kernel
theorem dX9_fixedPart_30 : decode cX9_fixedPart 30 = .ok (.iload_n 2, 1) := by decide +kernel
theorem dX9_fixedPart_31 : decode cX9_fixedPart 31 = .ok (.aload_n 0, 1) := by decide +kernel
theorem dX9_fixedPart_32 : decode cX9_fixedPart 32 = .ok (.getfield 25, 3) := by decide +kernel
theorem dX9_fixedPart_35 : decode cX9_fixedPart 35 = .ok (.iload_n 2, 1) := by decide +kernel
theorem dX9_fixedPart_36 : decode cX9_fixedPart 36 = .ok (.iaload, 1) := by decide +kernel
theorem dX9_fixedPart_37 : decode cX9_fixedPart 37 = .ok (.invokevirtual 119, 3) := by decide +kernel
theorem dX9_fixedPart_40 : decode cX9_fixedPart 40 = .ok (.iadd, 1) := by decide +kernel
theorem dX9_fixedPart_41 : decode cX9_fixedPart 41 = .ok (.istore_n 1, 1) := by decide +kernel
theorem dX9_fixedPart_42 : decode cX9_fixedPart 42 = .ok (.iconst 0, 1) := by decide +kernel
theorem dX9_fixedPart_43 : decode cX9_fixedPart 43 = .ok (.istore_n 3, 1) := by decide +kernel
theorem dX9_fixedPart_44 : decode cX9_fixedPart 44 = .ok (.iload_n 3, 1) := by decide +kernel
theorem dX9_fixedPart_45 : decode cX9_fixedPart 45 = .ok (.aload_n 0, 1) := by decide +kernel
theorem dX9_fixedPart_46 : decode cX9_fixedPart 46 = .ok (.getfield 7, 3) := by decide +kernel
theorem dX9_fixedPart_49 : decode cX9_fixedPart 49 = .ok (.iconst 0, 1) := by decide +kernel
theorem dX9_fixedPart_50 : decode cX9_fixedPart 50 = .ok (.iaload, 1) := by decide +kernel
theorem dX9_fixedPart_51 : decode cX9_fixedPart 51 = .ok (.if_icmp .ge 59, 3) := by decide +kernel
theorem dX9_fixedPart_54 : decode cX9_fixedPart 54 = .ok (.iload_n 1, 1) := by decide +kernel
theorem dX9_fixedPart_55 : decode cX9_fixedPart 55 = .ok (.aload_n 0, 1) := by decide +kernel
theorem dX9_fixedPart_56 : decode cX9_fixedPart 56 = .ok (.getfield 25, 3) := by decide +kernel
theorem dX9_fixedPart_59 : decode cX9_fixedPart 59 = .ok (.iload_n 2, 1) := by decide +kernel
theorem dX9_fixedPart_60 : decode cX9_fixedPart 60 = .ok (.iaload, 1) := by decide +kernel
theorem dX9_fixedPart_61 : decode cX9_fixedPart 61 = .ok (.iconst (-1), 1) := by decide +kernel
theorem dX9_fixedPart_62 : decode cX9_fixedPart 62 = .ok (.if_icmp .eq 13, 3) := by decide +kernel
theorem dX9_fixedPart_65 : decode cX9_fixedPart 65 = .ok (.aload_n 0, 1) := by decide +kernel
theorem dX9_fixedPart_66 : decode cX9_fixedPart 66 = .ok (.getfield 25, 3) := by decide +kernel
theorem dX9_fixedPart_69 : decode cX9_fixedPart 69 = .ok (.iload_n 3, 1) := by decide +kernel
theorem dX9_fixedPart_70 : decode cX9_fixedPart 70 = .ok (.iaload, 1) := by decide +kernel
theorem dX9_fixedPart_71 : decode cX9_fixedPart 71 = .ok (.iconst (-1), 1) := by decide +kernel
theorem dX9_fixedPart_72 : decode cX9_fixedPart 72 = .ok (.if_icmp .ne 7, 3) := by decide +kernel
theorem dX9_fixedPart_75 : decode cX9_fixedPart 75 = .ok (.iconst 0, 1) := by decide +kernel
theorem dX9_fixedPart_76 : decode cX9_fixedPart 76 = .ok (.goto 26, 3) := by decide +kernel
theorem dX9_fixedPart_79 : decode cX9_fixedPart 79 = .ok (.aload_n 0, 1) := by decide +kernel
theorem dX9_fixedPart_80 : decode cX9_fixedPart 80 = .ok (.iload_n 2, 1) := by decide +kernel
theorem dX9_fixedPart_81 : decode cX9_fixedPart 81 = .ok (.iload_n 3, 1) := by decide +kernel
theorem dX9_fixedPart_82 : decode cX9_fixedPart 82 = .ok (.invokevirtual 123, 3) := by decide +kernel
theorem dX9_fixedPart_85 : decode cX9_fixedPart 85 = .ok (.aload_n 0, 1) := by decide +kernel
theorem dX9_fixedPart_86 : decode cX9_fixedPart 86 = .ok (.aload_n 0, 1) := by decide +kernel
theorem dX9_fixedPart_87 : decode cX9_fixedPart 87 = .ok (.getfield 25, 3) := by decide +kernel
theorem dX9_fixedPart_90 : decode cX9_fixedPart 90 = .ok (.iload_n 2, 1) := by decide +kernel
theorem dX9_fixedPart_91 : decode cX9_fixedPart 91 = .ok (.iaload, 1) := by decide +kernel
theorem dX9_fixedPart_92 : decode cX9_fixedPart 92 = .ok (.aload_n 0, 1) := by decide +kernel
theorem dX9_fixedPart_93 : decode cX9_fixedPart 93 = .ok (.getfield 25, 3) := by decide +kernel
theorem dX9_fixedPart_96 : decode cX9_fixedPart 96 = .ok (.iload_n 3, 1) := by decide +kernel
theorem dX9_fixedPart_97 : decode cX9_fixedPart 97 = .ok (.iaload, 1) := by decide +kernel
theorem dX9_fixedPart_98 : decode cX9_fixedPart 98 = .ok (.invokevirtual 126, 3) := by decide +kernel
theorem dX9_fixedPart_101 : decode cX9_fixedPart 101 = .ok (.imul, 1) := by decide +kernel
theorem dX9_fixedPart_102 : decode cX9_fixedPart 102 = .ok (.iadd, 1) := by decide +kernel
theorem dX9_fixedPart_103 : decode cX9_fixedPart 103 = .ok (.istore_n 1, 1) := by decide +kernel
theorem dX9_fixedPart_104 : decode cX9_fixedPart 104 = .ok (.iinc 3 1, 3) := by decide +kernel
theorem dX9_fixedPart_107 : decode cX9_fixedPart 107 = .ok (.goto (-63), 3) := by decide +kernel
theorem dX9_fixedPart_110 : decode cX9_fixedPart 110 = .ok (.iinc 2 1, 3) := by decide +kernel
theorem dX9_fixedPart_113 : decode cX9_fixedPart 113 = .ok (.goto (-109), 3) := by decide +kernel
theorem dX9_fixedPart_116 : decode cX9_fixedPart 116 = .ok (.iload_n 1, 1) := by decide +kernel
theorem dX9_fixedPart_117 : decode cX9_fixedPart 117 = .ok (.ireturn, 1) := by decide +kernel
theorem dX9_fixedCost_0 : decode cX9_fixedCost 0 = .ok (.aload_n 0, 1) := by decide +kernel
theorem dX9_fixedCost_1 : decode cX9_fixedCost 1 = .ok (.invokevirtual 177, 3) := by decide +kernel
theorem dX9_fixedCost_4 : decode cX9_fixedCost 4 = .ok (.aload_n 0, 1) := by decide +kernel
theorem dX9_fixedCost_5 : decode cX9_fixedCost 5 = .ok (.aload_n 0, 1) := by decide +kernel
theorem dX9_fixedCost_6 : decode cX9_fixedCost 6 = .ok (.invokevirtual 190, 3) := by decide +kernel
theorem dX9_fixedCost_9 : decode cX9_fixedCost 9 = .ok (.invokevirtual 82, 3) := by decide +kernel
theorem dX9_fixedCost_12 : decode cX9_fixedCost 12 = .ok (.ireturn, 1) := by decide +kernel
theorem dX9_sorts_0 : decode cX9_sorts 0 = .ok (.iconst 1, 1) := by decide +kernel
theorem dX9_sorts_1 : decode cX9_sorts 1 = .ok (.istore_n 2, 1) := by decide +kernel
theorem dX9_sorts_2 : decode cX9_sorts 2 = .ok (.iload_n 2, 1) := by decide +kernel
theorem dX9_sorts_3 : decode cX9_sorts 3 = .ok (.iload_n 1, 1) := by decide +kernel
theorem dX9_sorts_4 : decode cX9_sorts 4 = .ok (.if_icmp .ge 52, 3) := by decide +kernel
theorem dX9_sorts_7 : decode cX9_sorts 7 = .ok (.iload_n 2, 1) := by decide +kernel
theorem dX9_sorts_8 : decode cX9_sorts 8 = .ok (.istore_n 3, 1) := by decide +kernel
theorem dX9_sorts_9 : decode cX9_sorts 9 = .ok (.iload_n 3, 1) := by decide +kernel
theorem dX9_sorts_10 : decode cX9_sorts 10 = .ok (.ifCond .le 40, 3) := by decide +kernel
theorem dX9_sorts_13 : decode cX9_sorts 13 = .ok (.aload_n 0, 1) := by decide +kernel
theorem dX9_sorts_14 : decode cX9_sorts 14 = .ok (.iload_n 3, 1) := by decide +kernel
theorem dX9_sorts_15 : decode cX9_sorts 15 = .ok (.iaload, 1) := by decide +kernel
theorem dX9_sorts_16 : decode cX9_sorts 16 = .ok (.aload_n 0, 1) := by decide +kernel
theorem dX9_sorts_17 : decode cX9_sorts 17 = .ok (.iload_n 3, 1) := by decide +kernel
theorem dX9_sorts_18 : decode cX9_sorts 18 = .ok (.iconst 1, 1) := by decide +kernel
theorem dX9_sorts_19 : decode cX9_sorts 19 = .ok (.isub, 1) := by decide +kernel
theorem dX9_sorts_20 : decode cX9_sorts 20 = .ok (.iaload, 1) := by decide +kernel
theorem dX9_sorts_21 : decode cX9_sorts 21 = .ok (.if_icmp .ge 29, 3) := by decide +kernel
theorem dX9_sorts_24 : decode cX9_sorts 24 = .ok (.aload_n 0, 1) := by decide +kernel
theorem dX9_sorts_25 : decode cX9_sorts 25 = .ok (.iload_n 3, 1) := by decide +kernel
theorem dX9_sorts_26 : decode cX9_sorts 26 = .ok (.iaload, 1) := by decide +kernel
theorem dX9_sorts_27 : decode cX9_sorts 27 = .ok (.istore 4, 2) := by decide +kernel
theorem dX9_sorts_29 : decode cX9_sorts 29 = .ok (.aload_n 0, 1) := by decide +kernel
theorem dX9_sorts_30 : decode cX9_sorts 30 = .ok (.iload_n 3, 1) := by decide +kernel
theorem dX9_sorts_31 : decode cX9_sorts 31 = .ok (.aload_n 0, 1) := by decide +kernel
theorem dX9_sorts_32 : decode cX9_sorts 32 = .ok (.iload_n 3, 1) := by decide +kernel
theorem dX9_sorts_33 : decode cX9_sorts 33 = .ok (.iconst 1, 1) := by decide +kernel
theorem dX9_sorts_34 : decode cX9_sorts 34 = .ok (.isub, 1) := by decide +kernel
theorem dX9_sorts_35 : decode cX9_sorts 35 = .ok (.iaload, 1) := by decide +kernel
theorem dX9_sorts_36 : decode cX9_sorts 36 = .ok (.iastore, 1) := by decide +kernel
theorem dX9_sorts_37 : decode cX9_sorts 37 = .ok (.aload_n 0, 1) := by decide +kernel
theorem dX9_sorts_38 : decode cX9_sorts 38 = .ok (.iload_n 3, 1) := by decide +kernel
theorem dX9_sorts_39 : decode cX9_sorts 39 = .ok (.iconst 1, 1) := by decide +kernel
theorem dX9_sorts_40 : decode cX9_sorts 40 = .ok (.isub, 1) := by decide +kernel
theorem dX9_sorts_41 : decode cX9_sorts 41 = .ok (.iload 4, 2) := by decide +kernel
theorem dX9_sorts_43 : decode cX9_sorts 43 = .ok (.iastore, 1) := by decide +kernel
theorem dX9_sorts_44 : decode cX9_sorts 44 = .ok (.iinc 3 (-1), 3) := by decide +kernel
theorem dX9_sorts_47 : decode cX9_sorts 47 = .ok (.goto (-38), 3) := by decide +kernel
theorem dX9_sorts_50 : decode cX9_sorts 50 = .ok (.iinc 2 1, 3) := by decide +kernel
theorem dX9_sorts_53 : decode cX9_sorts 53 = .ok (.goto (-51), 3) := by decide +kernel
theorem dX9_sorts_56 : decode cX9_sorts 56 = .ok (.return_, 1) := by decide +kernel
theorem dX9_leastProduct_0 : decode cX9_leastProduct 0 = .ok (.iconst 0, 1) := by decide +kernel
theorem dX9_leastProduct_1 : decode cX9_leastProduct 1 = .ok (.istore_n 3, 1) := by decide +kernel
theorem dX9_leastProduct_2 : decode cX9_leastProduct 2 = .ok (.iconst 0, 1) := by decide +kernel
theorem dX9_leastProduct_3 : decode cX9_leastProduct 3 = .ok (.istore 4, 2) := by decide +kernel
theorem dX9_leastProduct_5 : decode cX9_leastProduct 5 = .ok (.iload 4, 2) := by decide +kernel
theorem dX9_leastProduct_7 : decode cX9_leastProduct 7 = .ok (.aload_n 0, 1) := by decide +kernel
theorem dX9_leastProduct_8 : decode cX9_leastProduct 8 = .ok (.getfield 7, 3) := by decide +kernel
theorem dX9_leastProduct_11 : decode cX9_leastProduct 11 = .ok (.iconst 0, 1) := by decide +kernel
theorem dX9_leastProduct_12 : decode cX9_leastProduct 12 = .ok (.iaload, 1) := by decide +kernel
theorem dX9_leastProduct_13 : decode cX9_leastProduct 13 = .ok (.if_icmp .ge 42, 3) := by decide +kernel
theorem dX9_leastProduct_16 : decode cX9_leastProduct 16 = .ok (.iload 4, 2) := by decide +kernel
theorem dX9_leastProduct_18 : decode cX9_leastProduct 18 = .ok (.iload_n 1, 1) := by decide +kernel
theorem dX9_leastProduct_19 : decode cX9_leastProduct 19 = .ok (.if_icmp .eq 30, 3) := by decide +kernel
theorem dX9_leastProduct_22 : decode cX9_leastProduct 22 = .ok (.aload_n 0, 1) := by decide +kernel
theorem dX9_leastProduct_23 : decode cX9_leastProduct 23 = .ok (.getfield 25, 3) := by decide +kernel
theorem dX9_leastProduct_26 : decode cX9_leastProduct 26 = .ok (.iload 4, 2) := by decide +kernel
theorem dX9_leastProduct_28 : decode cX9_leastProduct 28 = .ok (.iaload, 1) := by decide +kernel
theorem dX9_leastProduct_29 : decode cX9_leastProduct 29 = .ok (.iconst (-1), 1) := by decide +kernel
theorem dX9_leastProduct_30 : decode cX9_leastProduct 30 = .ok (.if_icmp .ne 19, 3) := by decide +kernel
theorem dX9_leastProduct_33 : decode cX9_leastProduct 33 = .ok (.aload_n 0, 1) := by decide +kernel
theorem dX9_leastProduct_34 : decode cX9_leastProduct 34 = .ok (.getfield 28, 3) := by decide +kernel
theorem dX9_leastProduct_37 : decode cX9_leastProduct 37 = .ok (.iload_n 3, 1) := by decide +kernel
theorem dX9_leastProduct_38 : decode cX9_leastProduct 38 = .ok (.aload_n 0, 1) := by decide +kernel
theorem dX9_leastProduct_39 : decode cX9_leastProduct 39 = .ok (.iload_n 1, 1) := by decide +kernel
theorem dX9_leastProduct_40 : decode cX9_leastProduct 40 = .ok (.iload 4, 2) := by decide +kernel
theorem dX9_leastProduct_42 : decode cX9_leastProduct 42 = .ok (.invokevirtual 123, 3) := by decide +kernel
theorem dX9_leastProduct_45 : decode cX9_leastProduct 45 = .ok (.iastore, 1) := by decide +kernel
theorem dX9_leastProduct_46 : decode cX9_leastProduct 46 = .ok (.iinc 3 1, 3) := by decide +kernel
theorem dX9_leastProduct_49 : decode cX9_leastProduct 49 = .ok (.iinc 4 1, 3) := by decide +kernel
theorem dX9_leastProduct_52 : decode cX9_leastProduct 52 = .ok (.goto (-47), 3) := by decide +kernel
theorem dX9_leastProduct_55 : decode cX9_leastProduct 55 = .ok (.iconst 0, 1) := by decide +kernel
theorem dX9_leastProduct_56 : decode cX9_leastProduct 56 = .ok (.istore 4, 2) := by decide +kernel
theorem dX9_leastProduct_58 : decode cX9_leastProduct 58 = .ok (.iconst 0, 1) := by decide +kernel
theorem dX9_leastProduct_59 : decode cX9_leastProduct 59 = .ok (.istore 5, 2) := by decide +kernel
theorem dX9_leastProduct_61 : decode cX9_leastProduct 61 = .ok (.iload 5, 2) := by decide +kernel
theorem dX9_leastProduct_63 : decode cX9_leastProduct 63 = .ok (.aload_n 0, 1) := by decide +kernel
theorem dX9_leastProduct_64 : decode cX9_leastProduct 64 = .ok (.getfield 7, 3) := by decide +kernel
theorem dX9_leastProduct_67 : decode cX9_leastProduct 67 = .ok (.iconst 0, 1) := by decide +kernel
theorem dX9_leastProduct_68 : decode cX9_leastProduct 68 = .ok (.iaload, 1) := by decide +kernel
theorem dX9_leastProduct_69 : decode cX9_leastProduct 69 = .ok (.if_icmp .ge 41, 3) := by decide +kernel
theorem dX9_leastProduct_72 : decode cX9_leastProduct 72 = .ok (.iload 5, 2) := by decide +kernel
theorem dX9_leastProduct_74 : decode cX9_leastProduct 74 = .ok (.iload_n 2, 1) := by decide +kernel
theorem dX9_leastProduct_75 : decode cX9_leastProduct 75 = .ok (.if_icmp .eq 29, 3) := by decide +kernel
theorem dX9_leastProduct_78 : decode cX9_leastProduct 78 = .ok (.aload_n 0, 1) := by decide +kernel
theorem dX9_leastProduct_79 : decode cX9_leastProduct 79 = .ok (.iload 5, 2) := by decide +kernel
theorem dX9_leastProduct_81 : decode cX9_leastProduct 81 = .ok (.invokevirtual 180, 3) := by decide +kernel
theorem dX9_leastProduct_84 : decode cX9_leastProduct 84 = .ok (.ifCond .ne 20, 3) := by decide +kernel
theorem dX9_leastProduct_87 : decode cX9_leastProduct 87 = .ok (.aload_n 0, 1) := by decide +kernel
theorem dX9_leastProduct_88 : decode cX9_leastProduct 88 = .ok (.getfield 31, 3) := by decide +kernel
theorem dX9_leastProduct_91 : decode cX9_leastProduct 91 = .ok (.iload 4, 2) := by decide +kernel
theorem dX9_leastProduct_93 : decode cX9_leastProduct 93 = .ok (.aload_n 0, 1) := by decide +kernel
theorem dX9_leastProduct_94 : decode cX9_leastProduct 94 = .ok (.iload_n 2, 1) := by decide +kernel
theorem dX9_leastProduct_95 : decode cX9_leastProduct 95 = .ok (.iload 5, 2) := by decide +kernel
theorem dX9_leastProduct_97 : decode cX9_leastProduct 97 = .ok (.invokevirtual 126, 3) := by decide +kernel
theorem dX9_leastProduct_100 : decode cX9_leastProduct 100 = .ok (.iastore, 1) := by decide +kernel
theorem dX9_leastProduct_101 : decode cX9_leastProduct 101 = .ok (.iinc 4 1, 3) := by decide +kernel
theorem dX9_leastProduct_104 : decode cX9_leastProduct 104 = .ok (.iinc 5 1, 3) := by decide +kernel
theorem dX9_leastProduct_107 : decode cX9_leastProduct 107 = .ok (.goto (-46), 3) := by decide +kernel
theorem dX9_leastProduct_110 : decode cX9_leastProduct 110 = .ok (.aload_n 0, 1) := by decide +kernel
theorem dX9_leastProduct_111 : decode cX9_leastProduct 111 = .ok (.getfield 28, 3) := by decide +kernel
theorem dX9_leastProduct_114 : decode cX9_leastProduct 114 = .ok (.iload_n 3, 1) := by decide +kernel
theorem dX9_leastProduct_115 : decode cX9_leastProduct 115 = .ok (.invokestatic 193, 3) := by decide +kernel
theorem dX9_leastProduct_118 : decode cX9_leastProduct 118 = .ok (.aload_n 0, 1) := by decide +kernel
theorem dX9_leastProduct_119 : decode cX9_leastProduct 119 = .ok (.getfield 31, 3) := by decide +kernel
theorem dX9_leastProduct_122 : decode cX9_leastProduct 122 = .ok (.iload 4, 2) := by decide +kernel
theorem dX9_leastProduct_124 : decode cX9_leastProduct 124 = .ok (.invokestatic 193, 3) := by decide +kernel
theorem dX9_leastProduct_127 : decode cX9_leastProduct 127 = .ok (.iconst 0, 1) := by decide +kernel
theorem dX9_leastProduct_128 : decode cX9_leastProduct 128 = .ok (.istore 5, 2) := by decide +kernel
theorem dX9_leastProduct_130 : decode cX9_leastProduct 130 = .ok (.iconst 0, 1) := by decide +kernel
theorem dX9_leastProduct_131 : decode cX9_leastProduct 131 = .ok (.istore 6, 2) := by decide +kernel
theorem dX9_leastProduct_133 : decode cX9_leastProduct 133 = .ok (.iload 6, 2) := by decide +kernel
theorem dX9_leastProduct_135 : decode cX9_leastProduct 135 = .ok (.iload_n 3, 1) := by decide +kernel
theorem dX9_leastProduct_136 : decode cX9_leastProduct 136 = .ok (.if_icmp .ge 33, 3) := by decide +kernel
theorem dX9_leastProduct_139 : decode cX9_leastProduct 139 = .ok (.iload 5, 2) := by decide +kernel
theorem dX9_leastProduct_141 : decode cX9_leastProduct 141 = .ok (.aload_n 0, 1) := by decide +kernel
theorem dX9_leastProduct_142 : decode cX9_leastProduct 142 = .ok (.getfield 28, 3) := by decide +kernel
theorem dX9_leastProduct_145 : decode cX9_leastProduct 145 = .ok (.iload 6, 2) := by decide +kernel
theorem dX9_leastProduct_147 : decode cX9_leastProduct 147 = .ok (.iaload, 1) := by decide +kernel
theorem dX9_leastProduct_148 : decode cX9_leastProduct 148 = .ok (.aload_n 0, 1) := by decide +kernel
theorem dX9_leastProduct_149 : decode cX9_leastProduct 149 = .ok (.getfield 31, 3) := by decide +kernel
theorem dX9_leastProduct_152 : decode cX9_leastProduct 152 = .ok (.iload_n 3, 1) := by decide +kernel
theorem dX9_leastProduct_153 : decode cX9_leastProduct 153 = .ok (.iconst 1, 1) := by decide +kernel
theorem dX9_leastProduct_154 : decode cX9_leastProduct 154 = .ok (.isub, 1) := by decide +kernel
theorem dX9_leastProduct_155 : decode cX9_leastProduct 155 = .ok (.iload 6, 2) := by decide +kernel
theorem dX9_leastProduct_157 : decode cX9_leastProduct 157 = .ok (.isub, 1) := by decide +kernel
theorem dX9_leastProduct_158 : decode cX9_leastProduct 158 = .ok (.iaload, 1) := by decide +kernel
theorem dX9_leastProduct_159 : decode cX9_leastProduct 159 = .ok (.imul, 1) := by decide +kernel
theorem dX9_leastProduct_160 : decode cX9_leastProduct 160 = .ok (.iadd, 1) := by decide +kernel
theorem dX9_leastProduct_161 : decode cX9_leastProduct 161 = .ok (.istore 5, 2) := by decide +kernel
theorem dX9_leastProduct_163 : decode cX9_leastProduct 163 = .ok (.iinc 6 1, 3) := by decide +kernel
theorem dX9_leastProduct_166 : decode cX9_leastProduct 166 = .ok (.goto (-33), 3) := by decide +kernel
theorem dX9_leastProduct_169 : decode cX9_leastProduct 169 = .ok (.iload 5, 2) := by decide +kernel
theorem dX9_leastProduct_171 : decode cX9_leastProduct 171 = .ok (.ireturn, 1) := by decide +kernel
theorem dX9_entryOf_0 : decode cX9_entryOf 0 = .ok (.aload_n 0, 1) := by decide +kernel
theorem dX9_entryOf_1 : decode cX9_entryOf 1 = .ok (.iload_n 1, 1) := by decide +kernel
theorem dX9_entryOf_2 : decode cX9_entryOf 2 = .ok (.iload_n 2, 1) := by decide +kernel
theorem dX9_entryOf_3 : decode cX9_entryOf 3 = .ok (.invokevirtual 119, 3) := by decide +kernel
theorem dX9_entryOf_6 : decode cX9_entryOf 6 = .ok (.aload_n 0, 1) := by decide +kernel
theorem dX9_entryOf_7 : decode cX9_entryOf 7 = .ok (.iload_n 1, 1) := by decide +kernel
theorem dX9_entryOf_8 : decode cX9_entryOf 8 = .ok (.iload_n 1, 1) := by decide +kernel
theorem dX9_entryOf_9 : decode cX9_entryOf 9 = .ok (.invokevirtual 123, 3) := by decide +kernel
theorem dX9_entryOf_12 : decode cX9_entryOf 12 = .ok (.aload_n 0, 1) := by decide +kernel
theorem dX9_entryOf_13 : decode cX9_entryOf 13 = .ok (.iload_n 2, 1) := by decide +kernel
theorem dX9_entryOf_14 : decode cX9_entryOf 14 = .ok (.iload_n 2, 1) := by decide +kernel
theorem dX9_entryOf_15 : decode cX9_entryOf 15 = .ok (.invokevirtual 126, 3) := by decide +kernel
theorem dX9_entryOf_18 : decode cX9_entryOf 18 = .ok (.imul, 1) := by decide +kernel
theorem dX9_entryOf_19 : decode cX9_entryOf 19 = .ok (.iadd, 1) := by decide +kernel
theorem dX9_entryOf_20 : decode cX9_entryOf 20 = .ok (.istore_n 3, 1) := by decide +kernel
theorem dX9_entryOf_21 : decode cX9_entryOf 21 = .ok (.iconst 0, 1) := by decide +kernel
theorem dX9_entryOf_22 : decode cX9_entryOf 22 = .ok (.istore 4, 2) := by decide +kernel
theorem dX9_entryOf_24 : decode cX9_entryOf 24 = .ok (.iload 4, 2) := by decide +kernel
theorem dX9_entryOf_26 : decode cX9_entryOf 26 = .ok (.aload_n 0, 1) := by decide +kernel
theorem dX9_entryOf_27 : decode cX9_entryOf 27 = .ok (.getfield 7, 3) := by decide +kernel
theorem dX9_entryOf_30 : decode cX9_entryOf 30 = .ok (.iconst 0, 1) := by decide +kernel
theorem dX9_entryOf_31 : decode cX9_entryOf 31 = .ok (.iaload, 1) := by decide +kernel
theorem dX9_entryOf_32 : decode cX9_entryOf 32 = .ok (.if_icmp .ge 68, 3) := by decide +kernel
theorem dX9_entryOf_35 : decode cX9_entryOf 35 = .ok (.iload_n 3, 1) := by decide +kernel
theorem dX9_entryOf_36 : decode cX9_entryOf 36 = .ok (.aload_n 0, 1) := by decide +kernel
theorem dX9_entryOf_37 : decode cX9_entryOf 37 = .ok (.getfield 25, 3) := by decide +kernel
theorem dX9_entryOf_40 : decode cX9_entryOf 40 = .ok (.iload 4, 2) := by decide +kernel
theorem dX9_entryOf_42 : decode cX9_entryOf 42 = .ok (.iaload, 1) := by decide +kernel
theorem dX9_entryOf_43 : decode cX9_entryOf 43 = .ok (.iconst (-1), 1) := by decide +kernel
theorem dX9_entryOf_44 : decode cX9_entryOf 44 = .ok (.if_icmp .ne 7, 3) := by decide +kernel
theorem dX9_entryOf_47 : decode cX9_entryOf 47 = .ok (.iconst 0, 1) := by decide +kernel
theorem dX9_entryOf_48 : decode cX9_entryOf 48 = .ok (.goto 44, 3) := by decide +kernel
theorem dX9_entryOf_51 : decode cX9_entryOf 51 = .ok (.aload_n 0, 1) := by decide +kernel
theorem dX9_entryOf_52 : decode cX9_entryOf 52 = .ok (.iload_n 1, 1) := by decide +kernel
theorem dX9_entryOf_53 : decode cX9_entryOf 53 = .ok (.iload 4, 2) := by decide +kernel
theorem dX9_entryOf_55 : decode cX9_entryOf 55 = .ok (.invokevirtual 123, 3) := by decide +kernel
theorem dX9_entryOf_58 : decode cX9_entryOf 58 = .ok (.aload_n 0, 1) := by decide +kernel
theorem dX9_entryOf_59 : decode cX9_entryOf 59 = .ok (.iload_n 2, 1) := by decide +kernel
theorem dX9_entryOf_60 : decode cX9_entryOf 60 = .ok (.aload_n 0, 1) := by decide +kernel
theorem dX9_entryOf_61 : decode cX9_entryOf 61 = .ok (.getfield 25, 3) := by decide +kernel
theorem dX9_entryOf_64 : decode cX9_entryOf 64 = .ok (.iload 4, 2) := by decide +kernel
theorem dX9_entryOf_66 : decode cX9_entryOf 66 = .ok (.iaload, 1) := by decide +kernel
theorem dX9_entryOf_67 : decode cX9_entryOf 67 = .ok (.invokevirtual 126, 3) := by decide +kernel
theorem dX9_entryOf_70 : decode cX9_entryOf 70 = .ok (.imul, 1) := by decide +kernel
theorem dX9_entryOf_71 : decode cX9_entryOf 71 = .ok (.aload_n 0, 1) := by decide +kernel
theorem dX9_entryOf_72 : decode cX9_entryOf 72 = .ok (.iload 4, 2) := by decide +kernel
theorem dX9_entryOf_74 : decode cX9_entryOf 74 = .ok (.iload_n 1, 1) := by decide +kernel
theorem dX9_entryOf_75 : decode cX9_entryOf 75 = .ok (.invokevirtual 123, 3) := by decide +kernel
theorem dX9_entryOf_78 : decode cX9_entryOf 78 = .ok (.aload_n 0, 1) := by decide +kernel
theorem dX9_entryOf_79 : decode cX9_entryOf 79 = .ok (.aload_n 0, 1) := by decide +kernel
theorem dX9_entryOf_80 : decode cX9_entryOf 80 = .ok (.getfield 25, 3) := by decide +kernel
theorem dX9_entryOf_83 : decode cX9_entryOf 83 = .ok (.iload 4, 2) := by decide +kernel
theorem dX9_entryOf_85 : decode cX9_entryOf 85 = .ok (.iaload, 1) := by decide +kernel
theorem dX9_entryOf_86 : decode cX9_entryOf 86 = .ok (.iload_n 2, 1) := by decide +kernel
theorem dX9_entryOf_87 : decode cX9_entryOf 87 = .ok (.invokevirtual 126, 3) := by decide +kernel
theorem dX9_entryOf_90 : decode cX9_entryOf 90 = .ok (.imul, 1) := by decide +kernel
theorem dX9_entryOf_91 : decode cX9_entryOf 91 = .ok (.iadd, 1) := by decide +kernel
theorem dX9_entryOf_92 : decode cX9_entryOf 92 = .ok (.iadd, 1) := by decide +kernel
theorem dX9_entryOf_93 : decode cX9_entryOf 93 = .ok (.istore_n 3, 1) := by decide +kernel
theorem dX9_entryOf_94 : decode cX9_entryOf 94 = .ok (.iinc 4 1, 3) := by decide +kernel
theorem dX9_entryOf_97 : decode cX9_entryOf 97 = .ok (.goto (-73), 3) := by decide +kernel
theorem dX9_entryOf_100 : decode cX9_entryOf 100 = .ok (.iload_n 3, 1) := by decide +kernel
theorem dX9_entryOf_101 : decode cX9_entryOf 101 = .ok (.aload_n 0, 1) := by decide +kernel
theorem dX9_entryOf_102 : decode cX9_entryOf 102 = .ok (.iload_n 1, 1) := by decide +kernel
theorem dX9_entryOf_103 : decode cX9_entryOf 103 = .ok (.iload_n 2, 1) := by decide +kernel
theorem dX9_entryOf_104 : decode cX9_entryOf 104 = .ok (.invokevirtual 197, 3) := by decide +kernel
theorem dX9_entryOf_107 : decode cX9_entryOf 107 = .ok (.iadd, 1) := by decide +kernel
theorem dX9_entryOf_108 : decode cX9_entryOf 108 = .ok (.ireturn, 1) := by decide +kernel
theorem dX9_entry_0 : decode cX9_entry 0 = .ok (.aload_n 0, 1) := by decide +kernel
theorem dX9_entry_1 : decode cX9_entry 1 = .ok (.iload_n 1, 1) := by decide +kernel
theorem dX9_entry_2 : decode cX9_entry 2 = .ok (.invokevirtual 103, 3) := by decide +kernel
theorem dX9_entry_5 : decode cX9_entry 5 = .ok (.ifCond .eq 11, 3) := by decide +kernel
theorem dX9_entry_8 : decode cX9_entry 8 = .ok (.aload_n 0, 1) := by decide +kernel
theorem dX9_entry_9 : decode cX9_entry 9 = .ok (.iload_n 2, 1) := by decide +kernel
theorem dX9_entry_10 : decode cX9_entry 10 = .ok (.invokevirtual 103, 3) := by decide +kernel
theorem dX9_entry_13 : decode cX9_entry 13 = .ok (.ifCond .ne 9, 3) := by decide +kernel
theorem dX9_entry_16 : decode cX9_entry 16 = .ok (.aload_n 0, 1) := by decide +kernel
theorem dX9_entry_17 : decode cX9_entry 17 = .ok (.iconst 1, 1) := by decide +kernel
theorem dX9_entry_18 : decode cX9_entry 18 = .ok (.invokevirtual 94, 3) := by decide +kernel
theorem dX9_entry_21 : decode cX9_entry 21 = .ok (.ireturn, 1) := by decide +kernel
theorem dX9_entry_22 : decode cX9_entry 22 = .ok (.aload_n 0, 1) := by decide +kernel
theorem dX9_entry_23 : decode cX9_entry 23 = .ok (.iload_n 1, 1) := by decide +kernel
theorem dX9_entry_24 : decode cX9_entry 24 = .ok (.iload_n 2, 1) := by decide +kernel
theorem dX9_entry_25 : decode cX9_entry 25 = .ok (.invokevirtual 183, 3) := by decide +kernel
theorem dX9_entry_28 : decode cX9_entry 28 = .ok (.ifCond .eq 16, 3) := by decide +kernel
theorem dX9_entry_31 : decode cX9_entry 31 = .ok (.aload_n 0, 1) := by decide +kernel
theorem dX9_entry_32 : decode cX9_entry 32 = .ok (.aload_n 0, 1) := by decide +kernel
theorem dX9_entry_33 : decode cX9_entry 33 = .ok (.iload_n 1, 1) := by decide +kernel
theorem dX9_entry_34 : decode cX9_entry 34 = .ok (.iload_n 2, 1) := by decide +kernel
theorem dX9_entry_35 : decode cX9_entry 35 = .ok (.invokevirtual 200, 3) := by decide +kernel
theorem dX9_entry_38 : decode cX9_entry 38 = .ok (.invokevirtual 82, 3) := by decide +kernel
theorem dX9_entry_41 : decode cX9_entry 41 = .ok (.goto 8, 3) := by decide +kernel
theorem dX9_entry_44 : decode cX9_entry 44 = .ok (.aload_n 0, 1) := by decide +kernel
theorem dX9_entry_45 : decode cX9_entry 45 = .ok (.iconst 2, 1) := by decide +kernel
theorem dX9_entry_46 : decode cX9_entry 46 = .ok (.invokevirtual 94, 3) := by decide +kernel
theorem dX9_entry_49 : decode cX9_entry 49 = .ok (.ireturn, 1) := by decide +kernel
theorem dX9_boundOf_0 : decode cX9_boundOf 0 = .ok (.iconst 0, 1) := by decide +kernel
theorem dX9_boundOf_1 : decode cX9_boundOf 1 = .ok (.istore_n 1, 1) := by decide +kernel
theorem dX9_boundOf_2 : decode cX9_boundOf 2 = .ok (.iload_n 1, 1) := by decide +kernel
theorem dX9_boundOf_3 : decode cX9_boundOf 3 = .ok (.bipush 64, 2) := by decide +kernel
theorem dX9_boundOf_5 : decode cX9_boundOf 5 = .ok (.if_icmp .ge 25, 3) := by decide +kernel
theorem dX9_boundOf_8 : decode cX9_boundOf 8 = .ok (.aload_n 0, 1) := by decide +kernel
theorem dX9_boundOf_9 : decode cX9_boundOf 9 = .ok (.getfield 34, 3) := by decide +kernel
theorem dX9_boundOf_12 : decode cX9_boundOf 12 = .ok (.iload_n 1, 1) := by decide +kernel
theorem dX9_boundOf_13 : decode cX9_boundOf 13 = .ok (.iload_n 1, 1) := by decide +kernel
theorem dX9_boundOf_14 : decode cX9_boundOf 14 = .ok (.ifCond .ne 7, 3) := by decide +kernel
theorem dX9_boundOf_17 : decode cX9_boundOf 17 = .ok (.iconst 0, 1) := by decide +kernel
theorem dX9_boundOf_18 : decode cX9_boundOf 18 = .ok (.goto 5, 3) := by decide +kernel
theorem dX9_boundOf_21 : decode cX9_boundOf 21 = .ok (.ldc 167, 2) := by decide +kernel
theorem dX9_boundOf_23 : decode cX9_boundOf 23 = .ok (.iastore, 1) := by decide +kernel
theorem dX9_boundOf_24 : decode cX9_boundOf 24 = .ok (.iinc 1 1, 3) := by decide +kernel
theorem dX9_boundOf_27 : decode cX9_boundOf 27 = .ok (.goto (-25), 3) := by decide +kernel
theorem dX9_boundOf_30 : decode cX9_boundOf 30 = .ok (.iconst 0, 1) := by decide +kernel
theorem dX9_boundOf_31 : decode cX9_boundOf 31 = .ok (.istore_n 1, 1) := by decide +kernel
theorem dX9_boundOf_32 : decode cX9_boundOf 32 = .ok (.iload_n 1, 1) := by decide +kernel
theorem dX9_boundOf_33 : decode cX9_boundOf 33 = .ok (.aload_n 0, 1) := by decide +kernel
theorem dX9_boundOf_34 : decode cX9_boundOf 34 = .ok (.getfield 7, 3) := by decide +kernel
theorem dX9_boundOf_37 : decode cX9_boundOf 37 = .ok (.iconst 0, 1) := by decide +kernel
theorem dX9_boundOf_38 : decode cX9_boundOf 38 = .ok (.iaload, 1) := by decide +kernel
theorem dX9_boundOf_39 : decode cX9_boundOf 39 = .ok (.if_icmp .ge 24, 3) := by decide +kernel
theorem dX9_boundOf_42 : decode cX9_boundOf 42 = .ok (.aload_n 0, 1) := by decide +kernel
theorem dX9_boundOf_43 : decode cX9_boundOf 43 = .ok (.getfield 25, 3) := by decide +kernel
theorem dX9_boundOf_46 : decode cX9_boundOf 46 = .ok (.iload_n 1, 1) := by decide +kernel
theorem dX9_boundOf_47 : decode cX9_boundOf 47 = .ok (.iaload, 1) := by decide +kernel
theorem dX9_boundOf_48 : decode cX9_boundOf 48 = .ok (.iconst (-1), 1) := by decide +kernel
theorem dX9_boundOf_49 : decode cX9_boundOf 49 = .ok (.if_icmp .ne 8, 3) := by decide +kernel
theorem dX9_boundOf_52 : decode cX9_boundOf 52 = .ok (.aload_n 0, 1) := by decide +kernel
theorem dX9_boundOf_53 : decode cX9_boundOf 53 = .ok (.iload_n 1, 1) := by decide +kernel
theorem dX9_boundOf_54 : decode cX9_boundOf 54 = .ok (.invokevirtual 203, 3) := by decide +kernel
theorem dX9_boundOf_57 : decode cX9_boundOf 57 = .ok (.iinc 1 1, 3) := by decide +kernel
theorem dX9_boundOf_60 : decode cX9_boundOf 60 = .ok (.goto (-28), 3) := by decide +kernel
theorem dX9_boundOf_63 : decode cX9_boundOf 63 = .ok (.ldc 167, 2) := by decide +kernel
theorem dX9_boundOf_65 : decode cX9_boundOf 65 = .ok (.istore_n 1, 1) := by decide +kernel
theorem dX9_boundOf_66 : decode cX9_boundOf 66 = .ok (.iconst 0, 1) := by decide +kernel
theorem dX9_boundOf_67 : decode cX9_boundOf 67 = .ok (.istore_n 2, 1) := by decide +kernel
theorem dX9_boundOf_68 : decode cX9_boundOf 68 = .ok (.iload_n 2, 1) := by decide +kernel
theorem dX9_boundOf_69 : decode cX9_boundOf 69 = .ok (.bipush 64, 2) := by decide +kernel
theorem dX9_boundOf_71 : decode cX9_boundOf 71 = .ok (.if_icmp .ge 30, 3) := by decide +kernel
theorem dX9_boundOf_74 : decode cX9_boundOf 74 = .ok (.aload_n 0, 1) := by decide +kernel
theorem dX9_boundOf_75 : decode cX9_boundOf 75 = .ok (.getfield 34, 3) := by decide +kernel
theorem dX9_boundOf_78 : decode cX9_boundOf 78 = .ok (.iload_n 2, 1) := by decide +kernel
theorem dX9_boundOf_79 : decode cX9_boundOf 79 = .ok (.iaload, 1) := by decide +kernel
theorem dX9_boundOf_80 : decode cX9_boundOf 80 = .ok (.iload_n 1, 1) := by decide +kernel
theorem dX9_boundOf_81 : decode cX9_boundOf 81 = .ok (.if_icmp .ge 12, 3) := by decide +kernel
theorem dX9_boundOf_84 : decode cX9_boundOf 84 = .ok (.aload_n 0, 1) := by decide +kernel
theorem dX9_boundOf_85 : decode cX9_boundOf 85 = .ok (.getfield 34, 3) := by decide +kernel
theorem dX9_boundOf_88 : decode cX9_boundOf 88 = .ok (.iload_n 2, 1) := by decide +kernel
theorem dX9_boundOf_89 : decode cX9_boundOf 89 = .ok (.iaload, 1) := by decide +kernel
theorem dX9_boundOf_90 : decode cX9_boundOf 90 = .ok (.goto 4, 3) := by decide +kernel
theorem dX9_boundOf_93 : decode cX9_boundOf 93 = .ok (.iload_n 1, 1) := by decide +kernel
theorem dX9_boundOf_94 : decode cX9_boundOf 94 = .ok (.istore_n 1, 1) := by decide +kernel
theorem dX9_boundOf_95 : decode cX9_boundOf 95 = .ok (.iinc 2 1, 3) := by decide +kernel
theorem dX9_boundOf_98 : decode cX9_boundOf 98 = .ok (.goto (-30), 3) := by decide +kernel
theorem dX9_boundOf_101 : decode cX9_boundOf 101 = .ok (.aload_n 0, 1) := by decide +kernel
theorem dX9_boundOf_102 : decode cX9_boundOf 102 = .ok (.invokevirtual 190, 3) := by decide +kernel
theorem dX9_boundOf_105 : decode cX9_boundOf 105 = .ok (.iload_n 1, 1) := by decide +kernel
theorem dX9_boundOf_106 : decode cX9_boundOf 106 = .ok (.iadd, 1) := by decide +kernel
theorem dX9_boundOf_107 : decode cX9_boundOf 107 = .ok (.ireturn, 1) := by decide +kernel
theorem dX9_addsFacility_0 : decode cX9_addsFacility 0 = .ok (.iconst 0, 1) := by decide +kernel
theorem dX9_addsFacility_1 : decode cX9_addsFacility 1 = .ok (.istore_n 2, 1) := by decide +kernel
theorem dX9_addsFacility_2 : decode cX9_addsFacility 2 = .ok (.iload_n 2, 1) := by decide +kernel
theorem dX9_addsFacility_3 : decode cX9_addsFacility 3 = .ok (.aload_n 0, 1) := by decide +kernel
theorem dX9_addsFacility_4 : decode cX9_addsFacility 4 = .ok (.getfield 7, 3) := by decide +kernel
theorem dX9_addsFacility_7 : decode cX9_addsFacility 7 = .ok (.iconst 0, 1) := by decide +kernel
theorem dX9_addsFacility_8 : decode cX9_addsFacility 8 = .ok (.iaload, 1) := by decide +kernel
theorem dX9_addsFacility_9 : decode cX9_addsFacility 9 = .ok (.if_icmp .ge 34, 3) := by decide +kernel
theorem dX9_addsFacility_12 : decode cX9_addsFacility 12 = .ok (.aload_n 0, 1) := by decide +kernel
theorem dX9_addsFacility_13 : decode cX9_addsFacility 13 = .ok (.getfield 37, 3) := by decide +kernel
theorem dX9_addsFacility_16 : decode cX9_addsFacility 16 = .ok (.iload_n 2, 1) := by decide +kernel
theorem dX9_addsFacility_17 : decode cX9_addsFacility 17 = .ok (.aload_n 0, 1) := by decide +kernel
theorem dX9_addsFacility_18 : decode cX9_addsFacility 18 = .ok (.iload_n 2, 1) := by decide +kernel
theorem dX9_addsFacility_19 : decode cX9_addsFacility 19 = .ok (.invokevirtual 180, 3) := by decide +kernel
theorem dX9_addsFacility_22 : decode cX9_addsFacility 22 = .ok (.ifCond .eq 8, 3) := by decide +kernel
theorem dX9_addsFacility_25 : decode cX9_addsFacility 25 = .ok (.ldc 167, 2) := by decide +kernel
theorem dX9_addsFacility_27 : decode cX9_addsFacility 27 = .ok (.goto 9, 3) := by decide +kernel
theorem dX9_addsFacility_30 : decode cX9_addsFacility 30 = .ok (.aload_n 0, 1) := by decide +kernel
theorem dX9_addsFacility_31 : decode cX9_addsFacility 31 = .ok (.iload_n 1, 1) := by decide +kernel
theorem dX9_addsFacility_32 : decode cX9_addsFacility 32 = .ok (.iload_n 2, 1) := by decide +kernel
theorem dX9_addsFacility_33 : decode cX9_addsFacility 33 = .ok (.invokevirtual 200, 3) := by decide +kernel
theorem dX9_addsFacility_36 : decode cX9_addsFacility 36 = .ok (.iastore, 1) := by decide +kernel
theorem dX9_addsFacility_37 : decode cX9_addsFacility 37 = .ok (.iinc 2 1, 3) := by decide +kernel
theorem dX9_addsFacility_40 : decode cX9_addsFacility 40 = .ok (.goto (-38), 3) := by decide +kernel
theorem dX9_addsFacility_43 : decode cX9_addsFacility 43 = .ok (.bipush 63, 2) := by decide +kernel
theorem dX9_addsFacility_45 : decode cX9_addsFacility 45 = .ok (.istore_n 2, 1) := by decide +kernel
theorem dX9_addsFacility_46 : decode cX9_addsFacility 46 = .ok (.iload_n 2, 1) := by decide +kernel
theorem dX9_addsFacility_47 : decode cX9_addsFacility 47 = .ok (.ifCond .lt 115, 3) := by decide +kernel
theorem dX9_addsFacility_50 : decode cX9_addsFacility 50 = .ok (.ldc 167, 2) := by decide +kernel
theorem dX9_addsFacility_52 : decode cX9_addsFacility 52 = .ok (.istore_n 3, 1) := by decide +kernel
theorem dX9_addsFacility_53 : decode cX9_addsFacility 53 = .ok (.iconst 0, 1) := by decide +kernel
theorem dX9_addsFacility_54 : decode cX9_addsFacility 54 = .ok (.istore 4, 2) := by decide +kernel
theorem dX9_addsFacility_56 : decode cX9_addsFacility 56 = .ok (.iload 4, 2) := by decide +kernel
theorem dX9_addsFacility_58 : decode cX9_addsFacility 58 = .ok (.aload_n 0, 1) := by decide +kernel
theorem dX9_addsFacility_59 : decode cX9_addsFacility 59 = .ok (.getfield 7, 3) := by decide +kernel
theorem dX9_addsFacility_62 : decode cX9_addsFacility 62 = .ok (.iconst 0, 1) := by decide +kernel
theorem dX9_addsFacility_63 : decode cX9_addsFacility 63 = .ok (.iaload, 1) := by decide +kernel
theorem dX9_addsFacility_64 : decode cX9_addsFacility 64 = .ok (.if_icmp .ge 85, 3) := by decide +kernel
theorem dX9_addsFacility_67 : decode cX9_addsFacility 67 = .ok (.iload_n 2, 1) := by decide +kernel
theorem dX9_addsFacility_68 : decode cX9_addsFacility 68 = .ok (.iload 4, 2) := by decide +kernel
theorem dX9_addsFacility_70 : decode cX9_addsFacility 70 = .ok (.ishr, 1) := by decide +kernel
theorem dX9_addsFacility_71 : decode cX9_addsFacility 71 = .ok (.iconst 1, 1) := by decide +kernel
theorem dX9_addsFacility_72 : decode cX9_addsFacility 72 = .ok (.iand, 1) := by decide +kernel
theorem dX9_addsFacility_73 : decode cX9_addsFacility 73 = .ok (.iconst 1, 1) := by decide +kernel
theorem dX9_addsFacility_74 : decode cX9_addsFacility 74 = .ok (.if_icmp .ne 69, 3) := by decide +kernel
theorem dX9_addsFacility_77 : decode cX9_addsFacility 77 = .ok (.aload_n 0, 1) := by decide +kernel
theorem dX9_addsFacility_78 : decode cX9_addsFacility 78 = .ok (.getfield 37, 3) := by decide +kernel
theorem dX9_addsFacility_81 : decode cX9_addsFacility 81 = .ok (.iload 4, 2) := by decide +kernel
theorem dX9_addsFacility_83 : decode cX9_addsFacility 83 = .ok (.iaload, 1) := by decide +kernel
theorem dX9_addsFacility_84 : decode cX9_addsFacility 84 = .ok (.ldc 167, 2) := by decide +kernel
theorem dX9_addsFacility_86 : decode cX9_addsFacility 86 = .ok (.if_icmp .ge 57, 3) := by decide +kernel
theorem dX9_addsFacility_89 : decode cX9_addsFacility 89 = .ok (.aload_n 0, 1) := by decide +kernel
theorem dX9_addsFacility_90 : decode cX9_addsFacility 90 = .ok (.getfield 34, 3) := by decide +kernel
theorem dX9_addsFacility_93 : decode cX9_addsFacility 93 = .ok (.iload_n 2, 1) := by decide +kernel
theorem dX9_addsFacility_94 : decode cX9_addsFacility 94 = .ok (.iconst 1, 1) := by decide +kernel
theorem dX9_addsFacility_95 : decode cX9_addsFacility 95 = .ok (.iload 4, 2) := by decide +kernel
theorem dX9_addsFacility_97 : decode cX9_addsFacility 97 = .ok (.ishl, 1) := by decide +kernel
theorem dX9_addsFacility_98 : decode cX9_addsFacility 98 = .ok (.iconst (-1), 1) := by decide +kernel
theorem dX9_addsFacility_99 : decode cX9_addsFacility 99 = .ok (.ixor, 1) := by decide +kernel
theorem dX9_addsFacility_100 : decode cX9_addsFacility 100 = .ok (.iand, 1) := by decide +kernel
theorem dX9_addsFacility_101 : decode cX9_addsFacility 101 = .ok (.iaload, 1) := by decide +kernel
theorem dX9_addsFacility_102 : decode cX9_addsFacility 102 = .ok (.ldc 167, 2) := by decide +kernel
theorem dX9_addsFacility_104 : decode cX9_addsFacility 104 = .ok (.if_icmp .ge 39, 3) := by decide +kernel
theorem dX9_addsFacility_107 : decode cX9_addsFacility 107 = .ok (.aload_n 0, 1) := by decide +kernel
theorem dX9_addsFacility_108 : decode cX9_addsFacility 108 = .ok (.getfield 34, 3) := by decide +kernel
theorem dX9_addsFacility_111 : decode cX9_addsFacility 111 = .ok (.iload_n 2, 1) := by decide +kernel
theorem dX9_addsFacility_112 : decode cX9_addsFacility 112 = .ok (.iconst 1, 1) := by decide +kernel
theorem dX9_addsFacility_113 : decode cX9_addsFacility 113 = .ok (.iload 4, 2) := by decide +kernel
theorem dX9_addsFacility_115 : decode cX9_addsFacility 115 = .ok (.ishl, 1) := by decide +kernel
theorem dX9_addsFacility_116 : decode cX9_addsFacility 116 = .ok (.iconst (-1), 1) := by decide +kernel
theorem dX9_addsFacility_117 : decode cX9_addsFacility 117 = .ok (.ixor, 1) := by decide +kernel
theorem dX9_addsFacility_118 : decode cX9_addsFacility 118 = .ok (.iand, 1) := by decide +kernel
theorem dX9_addsFacility_119 : decode cX9_addsFacility 119 = .ok (.iaload, 1) := by decide +kernel
theorem dX9_addsFacility_120 : decode cX9_addsFacility 120 = .ok (.aload_n 0, 1) := by decide +kernel
theorem dX9_addsFacility_121 : decode cX9_addsFacility 121 = .ok (.getfield 37, 3) := by decide +kernel
theorem dX9_addsFacility_124 : decode cX9_addsFacility 124 = .ok (.iload 4, 2) := by decide +kernel
theorem dX9_addsFacility_126 : decode cX9_addsFacility 126 = .ok (.iaload, 1) := by decide +kernel
theorem dX9_addsFacility_127 : decode cX9_addsFacility 127 = .ok (.iadd, 1) := by decide +kernel
theorem dX9_addsFacility_128 : decode cX9_addsFacility 128 = .ok (.istore 5, 2) := by decide +kernel
theorem dX9_addsFacility_130 : decode cX9_addsFacility 130 = .ok (.iload 5, 2) := by decide +kernel
theorem dX9_addsFacility_132 : decode cX9_addsFacility 132 = .ok (.iload_n 3, 1) := by decide +kernel
theorem dX9_addsFacility_133 : decode cX9_addsFacility 133 = .ok (.if_icmp .ge 8, 3) := by decide +kernel
theorem dX9_addsFacility_136 : decode cX9_addsFacility 136 = .ok (.iload 5, 2) := by decide +kernel
theorem dX9_addsFacility_138 : decode cX9_addsFacility 138 = .ok (.goto 4, 3) := by decide +kernel
theorem dX9_addsFacility_141 : decode cX9_addsFacility 141 = .ok (.iload_n 3, 1) := by decide +kernel
theorem dX9_addsFacility_142 : decode cX9_addsFacility 142 = .ok (.istore_n 3, 1) := by decide +kernel
theorem dX9_addsFacility_143 : decode cX9_addsFacility 143 = .ok (.iinc 4 1, 3) := by decide +kernel
theorem dX9_addsFacility_146 : decode cX9_addsFacility 146 = .ok (.goto (-90), 3) := by decide +kernel
theorem dX9_addsFacility_149 : decode cX9_addsFacility 149 = .ok (.aload_n 0, 1) := by decide +kernel
theorem dX9_addsFacility_150 : decode cX9_addsFacility 150 = .ok (.getfield 34, 3) := by decide +kernel
theorem dX9_addsFacility_153 : decode cX9_addsFacility 153 = .ok (.iload_n 2, 1) := by decide +kernel
theorem dX9_addsFacility_154 : decode cX9_addsFacility 154 = .ok (.iload_n 3, 1) := by decide +kernel
theorem dX9_addsFacility_155 : decode cX9_addsFacility 155 = .ok (.iastore, 1) := by decide +kernel
theorem dX9_addsFacility_156 : decode cX9_addsFacility 156 = .ok (.iinc 2 (-1), 3) := by decide +kernel
theorem dX9_addsFacility_159 : decode cX9_addsFacility 159 = .ok (.goto (-113), 3) := by decide +kernel
theorem dX9_addsFacility_162 : decode cX9_addsFacility 162 = .ok (.return_, 1) := by decide +kernel
theorem dX9_bound_0 : decode cX9_bound 0 = .ok (.aload_n 0, 1) := by decide +kernel
theorem dX9_bound_1 : decode cX9_bound 1 = .ok (.invokevirtual 177, 3) := by decide +kernel
theorem dX9_bound_4 : decode cX9_bound 4 = .ok (.aload_n 0, 1) := by decide +kernel
theorem dX9_bound_5 : decode cX9_bound 5 = .ok (.aload_n 0, 1) := by decide +kernel
theorem dX9_bound_6 : decode cX9_bound 6 = .ok (.invokevirtual 206, 3) := by decide +kernel
theorem dX9_bound_9 : decode cX9_bound 9 = .ok (.invokevirtual 82, 3) := by decide +kernel
theorem dX9_bound_12 : decode cX9_bound 12 = .ok (.ireturn, 1) := by decide +kernel
theorem dX9_boundWith_0 : decode cX9_boundWith 0 = .ok (.aload_n 0, 1) := by decide +kernel
theorem dX9_boundWith_1 : decode cX9_boundWith 1 = .ok (.iload_n 1, 1) := by decide +kernel
theorem dX9_boundWith_2 : decode cX9_boundWith 2 = .ok (.invokevirtual 103, 3) := by decide +kernel
theorem dX9_boundWith_5 : decode cX9_boundWith 5 = .ok (.ifCond .eq 11, 3) := by decide +kernel
theorem dX9_boundWith_8 : decode cX9_boundWith 8 = .ok (.aload_n 0, 1) := by decide +kernel
theorem dX9_boundWith_9 : decode cX9_boundWith 9 = .ok (.iload_n 2, 1) := by decide +kernel
theorem dX9_boundWith_10 : decode cX9_boundWith 10 = .ok (.invokevirtual 103, 3) := by decide +kernel
theorem dX9_boundWith_13 : decode cX9_boundWith 13 = .ok (.ifCond .ne 9, 3) := by decide +kernel
theorem dX9_boundWith_16 : decode cX9_boundWith 16 = .ok (.aload_n 0, 1) := by decide +kernel
theorem dX9_boundWith_17 : decode cX9_boundWith 17 = .ok (.iconst 1, 1) := by decide +kernel
theorem dX9_boundWith_18 : decode cX9_boundWith 18 = .ok (.invokevirtual 94, 3) := by decide +kernel
theorem dX9_boundWith_21 : decode cX9_boundWith 21 = .ok (.ireturn, 1) := by decide +kernel
theorem dX9_boundWith_22 : decode cX9_boundWith 22 = .ok (.aload_n 0, 1) := by decide +kernel
theorem dX9_boundWith_23 : decode cX9_boundWith 23 = .ok (.iload_n 1, 1) := by decide +kernel
theorem dX9_boundWith_24 : decode cX9_boundWith 24 = .ok (.iload_n 2, 1) := by decide +kernel
theorem dX9_boundWith_25 : decode cX9_boundWith 25 = .ok (.invokevirtual 183, 3) := by decide +kernel
theorem dX9_boundWith_28 : decode cX9_boundWith 28 = .ok (.ifCond .ne 9, 3) := by decide +kernel
theorem dX9_boundWith_31 : decode cX9_boundWith 31 = .ok (.aload_n 0, 1) := by decide +kernel
theorem dX9_boundWith_32 : decode cX9_boundWith 32 = .ok (.iconst 2, 1) := by decide +kernel
theorem dX9_boundWith_33 : decode cX9_boundWith 33 = .ok (.invokevirtual 94, 3) := by decide +kernel
theorem dX9_boundWith_36 : decode cX9_boundWith 36 = .ok (.ireturn, 1) := by decide +kernel
theorem dX9_boundWith_37 : decode cX9_boundWith 37 = .ok (.aload_n 0, 1) := by decide +kernel
theorem dX9_boundWith_38 : decode cX9_boundWith 38 = .ok (.getfield 25, 3) := by decide +kernel
theorem dX9_boundWith_41 : decode cX9_boundWith 41 = .ok (.iload_n 1, 1) := by decide +kernel
theorem dX9_boundWith_42 : decode cX9_boundWith 42 = .ok (.iload_n 2, 1) := by decide +kernel
theorem dX9_boundWith_43 : decode cX9_boundWith 43 = .ok (.iastore, 1) := by decide +kernel
theorem dX9_boundWith_44 : decode cX9_boundWith 44 = .ok (.aload_n 0, 1) := by decide +kernel
theorem dX9_boundWith_45 : decode cX9_boundWith 45 = .ok (.aload_n 0, 1) := by decide +kernel
theorem dX9_boundWith_46 : decode cX9_boundWith 46 = .ok (.invokevirtual 206, 3) := by decide +kernel
theorem dX9_boundWith_49 : decode cX9_boundWith 49 = .ok (.invokevirtual 82, 3) := by decide +kernel
theorem dX9_boundWith_52 : decode cX9_boundWith 52 = .ok (.ireturn, 1) := by decide +kernel
theorem dX9_regretOf_0 : decode cX9_regretOf 0 = .ok (.ldc 167, 2) := by decide +kernel
theorem dX9_regretOf_2 : decode cX9_regretOf 2 = .ok (.istore_n 2, 1) := by decide +kernel
theorem dX9_regretOf_3 : decode cX9_regretOf 3 = .ok (.ldc 167, 2) := by decide +kernel
theorem dX9_regretOf_5 : decode cX9_regretOf 5 = .ok (.istore_n 3, 1) := by decide +kernel
theorem dX9_regretOf_6 : decode cX9_regretOf 6 = .ok (.iconst 0, 1) := by decide +kernel
theorem dX9_regretOf_7 : decode cX9_regretOf 7 = .ok (.istore 4, 2) := by decide +kernel
theorem dX9_regretOf_9 : decode cX9_regretOf 9 = .ok (.iconst 0, 1) := by decide +kernel
theorem dX9_regretOf_10 : decode cX9_regretOf 10 = .ok (.istore 5, 2) := by decide +kernel
theorem dX9_regretOf_12 : decode cX9_regretOf 12 = .ok (.iload 5, 2) := by decide +kernel
theorem dX9_regretOf_14 : decode cX9_regretOf 14 = .ok (.aload_n 0, 1) := by decide +kernel
theorem dX9_regretOf_15 : decode cX9_regretOf 15 = .ok (.getfield 7, 3) := by decide +kernel
theorem dX9_regretOf_18 : decode cX9_regretOf 18 = .ok (.iconst 0, 1) := by decide +kernel
theorem dX9_regretOf_19 : decode cX9_regretOf 19 = .ok (.iaload, 1) := by decide +kernel
theorem dX9_regretOf_20 : decode cX9_regretOf 20 = .ok (.if_icmp .ge 66, 3) := by decide +kernel
theorem dX9_regretOf_23 : decode cX9_regretOf 23 = .ok (.aload_n 0, 1) := by decide +kernel
theorem dX9_regretOf_24 : decode cX9_regretOf 24 = .ok (.iload 5, 2) := by decide +kernel
theorem dX9_regretOf_26 : decode cX9_regretOf 26 = .ok (.invokevirtual 180, 3) := by decide +kernel
theorem dX9_regretOf_29 : decode cX9_regretOf 29 = .ok (.ifCond .ne 51, 3) := by decide +kernel
theorem dX9_regretOf_32 : decode cX9_regretOf 32 = .ok (.aload_n 0, 1) := by decide +kernel
theorem dX9_regretOf_33 : decode cX9_regretOf 33 = .ok (.iload_n 1, 1) := by decide +kernel
theorem dX9_regretOf_34 : decode cX9_regretOf 34 = .ok (.iload 5, 2) := by decide +kernel
theorem dX9_regretOf_36 : decode cX9_regretOf 36 = .ok (.invokevirtual 200, 3) := by decide +kernel
theorem dX9_regretOf_39 : decode cX9_regretOf 39 = .ok (.istore 6, 2) := by decide +kernel
theorem dX9_regretOf_41 : decode cX9_regretOf 41 = .ok (.iload 6, 2) := by decide +kernel
theorem dX9_regretOf_43 : decode cX9_regretOf 43 = .ok (.iload_n 2, 1) := by decide +kernel
theorem dX9_regretOf_44 : decode cX9_regretOf 44 = .ok (.if_icmp .ge 7, 3) := by decide +kernel
theorem dX9_regretOf_47 : decode cX9_regretOf 47 = .ok (.iload_n 2, 1) := by decide +kernel
theorem dX9_regretOf_48 : decode cX9_regretOf 48 = .ok (.goto 15, 3) := by decide +kernel
theorem dX9_regretOf_51 : decode cX9_regretOf 51 = .ok (.iload 6, 2) := by decide +kernel
theorem dX9_regretOf_53 : decode cX9_regretOf 53 = .ok (.iload_n 3, 1) := by decide +kernel
theorem dX9_regretOf_54 : decode cX9_regretOf 54 = .ok (.if_icmp .ge 8, 3) := by decide +kernel
theorem dX9_regretOf_57 : decode cX9_regretOf 57 = .ok (.iload 6, 2) := by decide +kernel
theorem dX9_regretOf_59 : decode cX9_regretOf 59 = .ok (.goto 4, 3) := by decide +kernel
theorem dX9_regretOf_62 : decode cX9_regretOf 62 = .ok (.iload_n 3, 1) := by decide +kernel
theorem dX9_regretOf_63 : decode cX9_regretOf 63 = .ok (.istore_n 3, 1) := by decide +kernel
theorem dX9_regretOf_64 : decode cX9_regretOf 64 = .ok (.iload 6, 2) := by decide +kernel
theorem dX9_regretOf_66 : decode cX9_regretOf 66 = .ok (.iload_n 2, 1) := by decide +kernel
theorem dX9_regretOf_67 : decode cX9_regretOf 67 = .ok (.if_icmp .ge 8, 3) := by decide +kernel
theorem dX9_regretOf_70 : decode cX9_regretOf 70 = .ok (.iload 6, 2) := by decide +kernel
theorem dX9_regretOf_72 : decode cX9_regretOf 72 = .ok (.goto 4, 3) := by decide +kernel
theorem dX9_regretOf_75 : decode cX9_regretOf 75 = .ok (.iload_n 2, 1) := by decide +kernel
theorem dX9_regretOf_76 : decode cX9_regretOf 76 = .ok (.istore_n 2, 1) := by decide +kernel
theorem dX9_regretOf_77 : decode cX9_regretOf 77 = .ok (.iinc 4 1, 3) := by decide +kernel
theorem dX9_regretOf_80 : decode cX9_regretOf 80 = .ok (.iinc 5 1, 3) := by decide +kernel
theorem dX9_regretOf_83 : decode cX9_regretOf 83 = .ok (.goto (-71), 3) := by decide +kernel
theorem dX9_regretOf_86 : decode cX9_regretOf 86 = .ok (.iload 4, 2) := by decide +kernel
theorem dX9_regretOf_88 : decode cX9_regretOf 88 = .ok (.iconst 1, 1) := by decide +kernel
theorem dX9_regretOf_89 : decode cX9_regretOf 89 = .ok (.if_icmp .ne 8, 3) := by decide +kernel
theorem dX9_regretOf_92 : decode cX9_regretOf 92 = .ok (.ldc 167, 2) := by decide +kernel
theorem dX9_regretOf_94 : decode cX9_regretOf 94 = .ok (.goto 6, 3) := by decide +kernel
theorem dX9_regretOf_97 : decode cX9_regretOf 97 = .ok (.iload_n 3, 1) := by decide +kernel
theorem dX9_regretOf_98 : decode cX9_regretOf 98 = .ok (.iload_n 2, 1) := by decide +kernel
theorem dX9_regretOf_99 : decode cX9_regretOf 99 = .ok (.isub, 1) := by decide +kernel
theorem dX9_regretOf_100 : decode cX9_regretOf 100 = .ok (.ireturn, 1) := by decide +kernel
theorem dX9_regret_0 : decode cX9_regret 0 = .ok (.aload_n 0, 1) := by decide +kernel
theorem dX9_regret_1 : decode cX9_regret 1 = .ok (.iload_n 1, 1) := by decide +kernel
theorem dX9_regret_2 : decode cX9_regret 2 = .ok (.invokevirtual 103, 3) := by decide +kernel
theorem dX9_regret_5 : decode cX9_regret 5 = .ok (.ifCond .ne 9, 3) := by decide +kernel
theorem dX9_regret_8 : decode cX9_regret 8 = .ok (.aload_n 0, 1) := by decide +kernel
theorem dX9_regret_9 : decode cX9_regret 9 = .ok (.iconst 1, 1) := by decide +kernel
theorem dX9_regret_10 : decode cX9_regret 10 = .ok (.invokevirtual 94, 3) := by decide +kernel
theorem dX9_regret_13 : decode cX9_regret 13 = .ok (.ireturn, 1) := by decide +kernel
theorem dX9_regret_14 : decode cX9_regret 14 = .ok (.aload_n 0, 1) := by decide +kernel
theorem dX9_regret_15 : decode cX9_regret 15 = .ok (.invokevirtual 177, 3) := by decide +kernel
theorem dX9_regret_18 : decode cX9_regret 18 = .ok (.aload_n 0, 1) := by decide +kernel
theorem dX9_regret_19 : decode cX9_regret 19 = .ok (.getfield 25, 3) := by decide +kernel
theorem dX9_regret_22 : decode cX9_regret 22 = .ok (.iload_n 1, 1) := by decide +kernel
theorem dX9_regret_23 : decode cX9_regret 23 = .ok (.iaload, 1) := by decide +kernel
theorem dX9_regret_24 : decode cX9_regret 24 = .ok (.iconst (-1), 1) := by decide +kernel
theorem dX9_regret_25 : decode cX9_regret 25 = .ok (.if_icmp .ne 15, 3) := by decide +kernel
theorem dX9_regret_28 : decode cX9_regret 28 = .ok (.aload_n 0, 1) := by decide +kernel
theorem dX9_regret_29 : decode cX9_regret 29 = .ok (.aload_n 0, 1) := by decide +kernel
theorem dX9_regret_30 : decode cX9_regret 30 = .ok (.iload_n 1, 1) := by decide +kernel
theorem dX9_regret_31 : decode cX9_regret 31 = .ok (.invokevirtual 209, 3) := by decide +kernel
theorem dX9_regret_34 : decode cX9_regret 34 = .ok (.invokevirtual 82, 3) := by decide +kernel
theorem dX9_regret_37 : decode cX9_regret 37 = .ok (.goto 8, 3) := by decide +kernel
theorem dX9_regret_40 : decode cX9_regret 40 = .ok (.aload_n 0, 1) := by decide +kernel
theorem dX9_regret_41 : decode cX9_regret 41 = .ok (.iconst 2, 1) := by decide +kernel
theorem dX9_regret_42 : decode cX9_regret 42 = .ok (.invokevirtual 94, 3) := by decide +kernel
theorem dX9_regret_45 : decode cX9_regret 45 = .ok (.ireturn, 1) := by decide +kernel
theorem dX9_branch_0 : decode cX9_branch 0 = .ok (.iconst (-1), 1) := by decide +kernel
theorem dX9_branch_1 : decode cX9_branch 1 = .ok (.istore_n 1, 1) := by decide +kernel
theorem dX9_branch_2 : decode cX9_branch 2 = .ok (.iconst 0, 1) := by decide +kernel
theorem dX9_branch_3 : decode cX9_branch 3 = .ok (.istore_n 2, 1) := by decide +kernel
theorem dX9_branch_4 : decode cX9_branch 4 = .ok (.iconst 0, 1) := by decide +kernel
theorem dX9_branch_5 : decode cX9_branch 5 = .ok (.istore_n 3, 1) := by decide +kernel
theorem dX9_branch_6 : decode cX9_branch 6 = .ok (.iload_n 3, 1) := by decide +kernel
theorem dX9_branch_7 : decode cX9_branch 7 = .ok (.aload_n 0, 1) := by decide +kernel
theorem dX9_branch_8 : decode cX9_branch 8 = .ok (.getfield 7, 3) := by decide +kernel
theorem dX9_branch_11 : decode cX9_branch 11 = .ok (.iconst 0, 1) := by decide +kernel
theorem dX9_branch_12 : decode cX9_branch 12 = .ok (.iaload, 1) := by decide +kernel
theorem dX9_branch_13 : decode cX9_branch 13 = .ok (.if_icmp .ge 55, 3) := by decide +kernel
theorem dX9_branch_16 : decode cX9_branch 16 = .ok (.aload_n 0, 1) := by decide +kernel
theorem dX9_branch_17 : decode cX9_branch 17 = .ok (.getfield 25, 3) := by decide +kernel
theorem dX9_branch_20 : decode cX9_branch 20 = .ok (.iload_n 3, 1) := by decide +kernel
theorem dX9_branch_21 : decode cX9_branch 21 = .ok (.iaload, 1) := by decide +kernel
theorem dX9_branch_22 : decode cX9_branch 22 = .ok (.iconst (-1), 1) := by decide +kernel
theorem dX9_branch_23 : decode cX9_branch 23 = .ok (.if_icmp .ne 39, 3) := by decide +kernel
theorem dX9_branch_26 : decode cX9_branch 26 = .ok (.aload_n 0, 1) := by decide +kernel
theorem dX9_branch_27 : decode cX9_branch 27 = .ok (.iload_n 3, 1) := by decide +kernel
theorem dX9_branch_28 : decode cX9_branch 28 = .ok (.invokevirtual 209, 3) := by decide +kernel
theorem dX9_branch_31 : decode cX9_branch 31 = .ok (.istore 4, 2) := by decide +kernel
theorem dX9_branch_33 : decode cX9_branch 33 = .ok (.iload_n 1, 1) := by decide +kernel
theorem dX9_branch_34 : decode cX9_branch 34 = .ok (.iconst (-1), 1) := by decide +kernel
theorem dX9_branch_35 : decode cX9_branch 35 = .ok (.if_icmp .eq 9, 3) := by decide +kernel
theorem dX9_branch_38 : decode cX9_branch 38 = .ok (.iload 4, 2) := by decide +kernel
theorem dX9_branch_40 : decode cX9_branch 40 = .ok (.iload_n 2, 1) := by decide +kernel
theorem dX9_branch_41 : decode cX9_branch 41 = .ok (.if_icmp .le 7, 3) := by decide +kernel
theorem dX9_branch_44 : decode cX9_branch 44 = .ok (.iload_n 3, 1) := by decide +kernel
theorem dX9_branch_45 : decode cX9_branch 45 = .ok (.goto 4, 3) := by decide +kernel
theorem dX9_branch_48 : decode cX9_branch 48 = .ok (.iload_n 1, 1) := by decide +kernel
theorem dX9_branch_49 : decode cX9_branch 49 = .ok (.istore_n 1, 1) := by decide +kernel
theorem dX9_branch_50 : decode cX9_branch 50 = .ok (.iload_n 1, 1) := by decide +kernel
theorem dX9_branch_51 : decode cX9_branch 51 = .ok (.iload_n 3, 1) := by decide +kernel
theorem dX9_branch_52 : decode cX9_branch 52 = .ok (.if_icmp .ne 8, 3) := by decide +kernel
theorem dX9_branch_55 : decode cX9_branch 55 = .ok (.iload 4, 2) := by decide +kernel
theorem dX9_branch_57 : decode cX9_branch 57 = .ok (.goto 4, 3) := by decide +kernel
theorem dX9_branch_60 : decode cX9_branch 60 = .ok (.iload_n 2, 1) := by decide +kernel
theorem dX9_branch_61 : decode cX9_branch 61 = .ok (.istore_n 2, 1) := by decide +kernel
theorem dX9_branch_62 : decode cX9_branch 62 = .ok (.iinc 3 1, 3) := by decide +kernel
theorem dX9_branch_65 : decode cX9_branch 65 = .ok (.goto (-59), 3) := by decide +kernel
theorem dX9_branch_68 : decode cX9_branch 68 = .ok (.iload_n 1, 1) := by decide +kernel
theorem dX9_branch_69 : decode cX9_branch 69 = .ok (.ireturn, 1) := by decide +kernel
theorem dX9_branchOn_0 : decode cX9_branchOn 0 = .ok (.aload_n 0, 1) := by decide +kernel
theorem dX9_branchOn_1 : decode cX9_branchOn 1 = .ok (.invokevirtual 177, 3) := by decide +kernel
theorem dX9_branchOn_4 : decode cX9_branchOn 4 = .ok (.aload_n 0, 1) := by decide +kernel
theorem dX9_branchOn_5 : decode cX9_branchOn 5 = .ok (.aload_n 0, 1) := by decide +kernel
theorem dX9_branchOn_6 : decode cX9_branchOn 6 = .ok (.invokevirtual 212, 3) := by decide +kernel
theorem dX9_branchOn_9 : decode cX9_branchOn 9 = .ok (.invokevirtual 82, 3) := by decide +kernel
theorem dX9_branchOn_12 : decode cX9_branchOn 12 = .ok (.ireturn, 1) := by decide +kernel
theorem dX9_isTurn_0 : decode cX9_isTurn 0 = .ok (.iconst 0, 1) := by decide +kernel
theorem dX9_isTurn_1 : decode cX9_isTurn 1 = .ok (.istore_n 1, 1) := by decide +kernel
theorem dX9_isTurn_2 : decode cX9_isTurn 2 = .ok (.iload_n 1, 1) := by decide +kernel
theorem dX9_isTurn_3 : decode cX9_isTurn 3 = .ok (.aload_n 0, 1) := by decide +kernel
theorem dX9_isTurn_4 : decode cX9_isTurn 4 = .ok (.getfield 7, 3) := by decide +kernel
theorem dX9_isTurn_7 : decode cX9_isTurn 7 = .ok (.iconst 0, 1) := by decide +kernel
theorem dX9_isTurn_8 : decode cX9_isTurn 8 = .ok (.iaload, 1) := by decide +kernel
theorem dX9_isTurn_9 : decode cX9_isTurn 9 = .ok (.if_icmp .ge 74, 3) := by decide +kernel
theorem dX9_isTurn_12 : decode cX9_isTurn 12 = .ok (.iconst 0, 1) := by decide +kernel
theorem dX9_isTurn_13 : decode cX9_isTurn 13 = .ok (.istore_n 2, 1) := by decide +kernel
theorem dX9_isTurn_14 : decode cX9_isTurn 14 = .ok (.iload_n 2, 1) := by decide +kernel
theorem dX9_isTurn_15 : decode cX9_isTurn 15 = .ok (.aload_n 0, 1) := by decide +kernel
theorem dX9_isTurn_16 : decode cX9_isTurn 16 = .ok (.getfield 7, 3) := by decide +kernel
theorem dX9_isTurn_19 : decode cX9_isTurn 19 = .ok (.iconst 0, 1) := by decide +kernel
theorem dX9_isTurn_20 : decode cX9_isTurn 20 = .ok (.iaload, 1) := by decide +kernel
theorem dX9_isTurn_21 : decode cX9_isTurn 21 = .ok (.if_icmp .ge 56, 3) := by decide +kernel
theorem dX9_isTurn_24 : decode cX9_isTurn 24 = .ok (.aload_n 0, 1) := by decide +kernel
theorem dX9_isTurn_25 : decode cX9_isTurn 25 = .ok (.aload_n 0, 1) := by decide +kernel
theorem dX9_isTurn_26 : decode cX9_isTurn 26 = .ok (.getfield 22, 3) := by decide +kernel
theorem dX9_isTurn_29 : decode cX9_isTurn 29 = .ok (.iload_n 1, 1) := by decide +kernel
theorem dX9_isTurn_30 : decode cX9_isTurn 30 = .ok (.iaload, 1) := by decide +kernel
theorem dX9_isTurn_31 : decode cX9_isTurn 31 = .ok (.aload_n 0, 1) := by decide +kernel
theorem dX9_isTurn_32 : decode cX9_isTurn 32 = .ok (.getfield 22, 3) := by decide +kernel
theorem dX9_isTurn_35 : decode cX9_isTurn 35 = .ok (.iload_n 2, 1) := by decide +kernel
theorem dX9_isTurn_36 : decode cX9_isTurn 36 = .ok (.iaload, 1) := by decide +kernel
theorem dX9_isTurn_37 : decode cX9_isTurn 37 = .ok (.invokevirtual 126, 3) := by decide +kernel
theorem dX9_isTurn_40 : decode cX9_isTurn 40 = .ok (.aload_n 0, 1) := by decide +kernel
theorem dX9_isTurn_41 : decode cX9_isTurn 41 = .ok (.iload_n 1, 1) := by decide +kernel
theorem dX9_isTurn_42 : decode cX9_isTurn 42 = .ok (.iload_n 2, 1) := by decide +kernel
theorem dX9_isTurn_43 : decode cX9_isTurn 43 = .ok (.invokevirtual 126, 3) := by decide +kernel
theorem dX9_isTurn_46 : decode cX9_isTurn 46 = .ok (.if_icmp .ne 23, 3) := by decide +kernel
theorem dX9_isTurn_49 : decode cX9_isTurn 49 = .ok (.aload_n 0, 1) := by decide +kernel
theorem dX9_isTurn_50 : decode cX9_isTurn 50 = .ok (.iload_n 2, 1) := by decide +kernel
theorem dX9_isTurn_51 : decode cX9_isTurn 51 = .ok (.aload_n 0, 1) := by decide +kernel
theorem dX9_isTurn_52 : decode cX9_isTurn 52 = .ok (.getfield 22, 3) := by decide +kernel
theorem dX9_isTurn_55 : decode cX9_isTurn 55 = .ok (.iload_n 1, 1) := by decide +kernel
theorem dX9_isTurn_56 : decode cX9_isTurn 56 = .ok (.iaload, 1) := by decide +kernel
theorem dX9_isTurn_57 : decode cX9_isTurn 57 = .ok (.invokevirtual 119, 3) := by decide +kernel
theorem dX9_isTurn_60 : decode cX9_isTurn 60 = .ok (.aload_n 0, 1) := by decide +kernel
theorem dX9_isTurn_61 : decode cX9_isTurn 61 = .ok (.iload_n 2, 1) := by decide +kernel
theorem dX9_isTurn_62 : decode cX9_isTurn 62 = .ok (.iload_n 1, 1) := by decide +kernel
theorem dX9_isTurn_63 : decode cX9_isTurn 63 = .ok (.invokevirtual 119, 3) := by decide +kernel
theorem dX9_isTurn_66 : decode cX9_isTurn 66 = .ok (.if_icmp .eq 5, 3) := by decide +kernel
theorem dX9_isTurn_69 : decode cX9_isTurn 69 = .ok (.iconst 0, 1) := by decide +kernel
theorem dX9_isTurn_70 : decode cX9_isTurn 70 = .ok (.ireturn, 1) := by decide +kernel
theorem dX9_isTurn_71 : decode cX9_isTurn 71 = .ok (.iinc 2 1, 3) := by decide +kernel
theorem dX9_isTurn_74 : decode cX9_isTurn 74 = .ok (.goto (-60), 3) := by decide +kernel
theorem dX9_isTurn_77 : decode cX9_isTurn 77 = .ok (.iinc 1 1, 3) := by decide +kernel
theorem dX9_isTurn_80 : decode cX9_isTurn 80 = .ok (.goto (-78), 3) := by decide +kernel
theorem dX9_isTurn_83 : decode cX9_isTurn 83 = .ok (.iconst 1, 1) := by decide +kernel
theorem dX9_isTurn_84 : decode cX9_isTurn 84 = .ok (.ireturn, 1) := by decide +kernel
theorem dX9_laysTurns_0 : decode cX9_laysTurns 0 = .ok (.aload_n 0, 1) := by decide +kernel
theorem dX9_laysTurns_1 : decode cX9_laysTurns 1 = .ok (.iconst 0, 1) := by decide +kernel
theorem dX9_laysTurns_2 : decode cX9_laysTurns 2 = .ok (.putfield 215, 3) := by decide +kernel
theorem dX9_laysTurns_5 : decode cX9_laysTurns 5 = .ok (.aload_n 0, 1) := by decide +kernel
theorem dX9_laysTurns_6 : decode cX9_laysTurns 6 = .ok (.invokevirtual 142, 3) := by decide +kernel
theorem dX9_laysTurns_9 : decode cX9_laysTurns 9 = .ok (.iconst 1, 1) := by decide +kernel
theorem dX9_laysTurns_10 : decode cX9_laysTurns 10 = .ok (.istore_n 1, 1) := by decide +kernel
theorem dX9_laysTurns_11 : decode cX9_laysTurns 11 = .ok (.iload_n 1, 1) := by decide +kernel
theorem dX9_laysTurns_12 : decode cX9_laysTurns 12 = .ok (.ifCond .eq 62, 3) := by decide +kernel
theorem dX9_laysTurns_15 : decode cX9_laysTurns 15 = .ok (.aload_n 0, 1) := by decide +kernel
theorem dX9_laysTurns_16 : decode cX9_laysTurns 16 = .ok (.invokevirtual 218, 3) := by decide +kernel
theorem dX9_laysTurns_19 : decode cX9_laysTurns 19 = .ok (.ifCond .eq 47, 3) := by decide +kernel
theorem dX9_laysTurns_22 : decode cX9_laysTurns 22 = .ok (.iconst 0, 1) := by decide +kernel
theorem dX9_laysTurns_23 : decode cX9_laysTurns 23 = .ok (.istore_n 2, 1) := by decide +kernel
theorem dX9_laysTurns_24 : decode cX9_laysTurns 24 = .ok (.iload_n 2, 1) := by decide +kernel
theorem dX9_laysTurns_25 : decode cX9_laysTurns 25 = .ok (.bipush 6, 2) := by decide +kernel
theorem dX9_laysTurns_27 : decode cX9_laysTurns 27 = .ok (.if_icmp .ge 29, 3) := by decide +kernel
theorem dX9_laysTurns_30 : decode cX9_laysTurns 30 = .ok (.aload_n 0, 1) := by decide +kernel
theorem dX9_laysTurns_31 : decode cX9_laysTurns 31 = .ok (.getfield 40, 3) := by decide +kernel
theorem dX9_laysTurns_34 : decode cX9_laysTurns 34 = .ok (.bipush 6, 2) := by decide +kernel
theorem dX9_laysTurns_36 : decode cX9_laysTurns 36 = .ok (.aload_n 0, 1) := by decide +kernel
theorem dX9_laysTurns_37 : decode cX9_laysTurns 37 = .ok (.getfield 215, 3) := by decide +kernel
theorem dX9_laysTurns_40 : decode cX9_laysTurns 40 = .ok (.imul, 1) := by decide +kernel
theorem dX9_laysTurns_41 : decode cX9_laysTurns 41 = .ok (.iload_n 2, 1) := by decide +kernel
theorem dX9_laysTurns_42 : decode cX9_laysTurns 42 = .ok (.iadd, 1) := by decide +kernel
theorem dX9_laysTurns_43 : decode cX9_laysTurns 43 = .ok (.aload_n 0, 1) := by decide +kernel
theorem dX9_laysTurns_44 : decode cX9_laysTurns 44 = .ok (.getfield 22, 3) := by decide +kernel
theorem dX9_laysTurns_47 : decode cX9_laysTurns 47 = .ok (.iload_n 2, 1) := by decide +kernel
theorem dX9_laysTurns_48 : decode cX9_laysTurns 48 = .ok (.iaload, 1) := by decide +kernel
theorem dX9_laysTurns_49 : decode cX9_laysTurns 49 = .ok (.iastore, 1) := by decide +kernel
theorem dX9_laysTurns_50 : decode cX9_laysTurns 50 = .ok (.iinc 2 1, 3) := by decide +kernel
theorem dX9_laysTurns_53 : decode cX9_laysTurns 53 = .ok (.goto (-29), 3) := by decide +kernel
theorem dX9_laysTurns_56 : decode cX9_laysTurns 56 = .ok (.aload_n 0, 1) := by decide +kernel
theorem dX9_laysTurns_57 : decode cX9_laysTurns 57 = .ok (.dup, 1) := by decide +kernel
theorem dX9_laysTurns_58 : decode cX9_laysTurns 58 = .ok (.getfield 215, 3) := by decide +kernel
theorem dX9_laysTurns_61 : decode cX9_laysTurns 61 = .ok (.iconst 1, 1) := by decide +kernel
theorem dX9_laysTurns_62 : decode cX9_laysTurns 62 = .ok (.iadd, 1) := by decide +kernel
theorem dX9_laysTurns_63 : decode cX9_laysTurns 63 = .ok (.putfield 215, 3) := by decide +kernel
theorem dX9_laysTurns_66 : decode cX9_laysTurns 66 = .ok (.aload_n 0, 1) := by decide +kernel
theorem dX9_laysTurns_67 : decode cX9_laysTurns 67 = .ok (.invokevirtual 145, 3) := by decide +kernel
theorem dX9_laysTurns_70 : decode cX9_laysTurns 70 = .ok (.istore_n 1, 1) := by decide +kernel
theorem dX9_laysTurns_71 : decode cX9_laysTurns 71 = .ok (.goto (-60), 3) := by decide +kernel
theorem dX9_laysTurns_74 : decode cX9_laysTurns 74 = .ok (.return_, 1) := by decide +kernel
theorem dX9_isKept_0 : decode cX9_isKept 0 = .ok (.iconst 1, 1) := by decide +kernel
theorem dX9_isKept_1 : decode cX9_isKept 1 = .ok (.istore_n 2, 1) := by decide +kernel
theorem dX9_isKept_2 : decode cX9_isKept 2 = .ok (.iconst 0, 1) := by decide +kernel
theorem dX9_isKept_3 : decode cX9_isKept 3 = .ok (.istore_n 3, 1) := by decide +kernel
theorem dX9_isKept_4 : decode cX9_isKept 4 = .ok (.iload_n 3, 1) := by decide +kernel
theorem dX9_isKept_5 : decode cX9_isKept 5 = .ok (.aload_n 0, 1) := by decide +kernel
theorem dX9_isKept_6 : decode cX9_isKept 6 = .ok (.getfield 7, 3) := by decide +kernel
theorem dX9_isKept_9 : decode cX9_isKept 9 = .ok (.iconst 0, 1) := by decide +kernel
theorem dX9_isKept_10 : decode cX9_isKept 10 = .ok (.iaload, 1) := by decide +kernel
theorem dX9_isKept_11 : decode cX9_isKept 11 = .ok (.if_icmp .ge 54, 3) := by decide +kernel
theorem dX9_isKept_14 : decode cX9_isKept 14 = .ok (.iload_n 2, 1) := by decide +kernel
theorem dX9_isKept_15 : decode cX9_isKept 15 = .ok (.ifCond .eq 42, 3) := by decide +kernel
theorem dX9_isKept_18 : decode cX9_isKept 18 = .ok (.aload_n 0, 1) := by decide +kernel
theorem dX9_isKept_19 : decode cX9_isKept 19 = .ok (.getfield 25, 3) := by decide +kernel
theorem dX9_isKept_22 : decode cX9_isKept 22 = .ok (.iload_n 3, 1) := by decide +kernel
theorem dX9_isKept_23 : decode cX9_isKept 23 = .ok (.iaload, 1) := by decide +kernel
theorem dX9_isKept_24 : decode cX9_isKept 24 = .ok (.iconst (-1), 1) := by decide +kernel
theorem dX9_isKept_25 : decode cX9_isKept 25 = .ok (.if_icmp .eq 28, 3) := by decide +kernel
theorem dX9_isKept_28 : decode cX9_isKept 28 = .ok (.aload_n 0, 1) := by decide +kernel
theorem dX9_isKept_29 : decode cX9_isKept 29 = .ok (.getfield 40, 3) := by decide +kernel
theorem dX9_isKept_32 : decode cX9_isKept 32 = .ok (.bipush 6, 2) := by decide +kernel
theorem dX9_isKept_34 : decode cX9_isKept 34 = .ok (.iload_n 1, 1) := by decide +kernel
theorem dX9_isKept_35 : decode cX9_isKept 35 = .ok (.imul, 1) := by decide +kernel
theorem dX9_isKept_36 : decode cX9_isKept 36 = .ok (.aload_n 0, 1) := by decide +kernel
theorem dX9_isKept_37 : decode cX9_isKept 37 = .ok (.getfield 25, 3) := by decide +kernel
theorem dX9_isKept_40 : decode cX9_isKept 40 = .ok (.iload_n 3, 1) := by decide +kernel
theorem dX9_isKept_41 : decode cX9_isKept 41 = .ok (.iaload, 1) := by decide +kernel
theorem dX9_isKept_42 : decode cX9_isKept 42 = .ok (.iadd, 1) := by decide +kernel
theorem dX9_isKept_43 : decode cX9_isKept 43 = .ok (.iaload, 1) := by decide +kernel
theorem dX9_isKept_44 : decode cX9_isKept 44 = .ok (.aload_n 0, 1) := by decide +kernel
theorem dX9_isKept_45 : decode cX9_isKept 45 = .ok (.getfield 25, 3) := by decide +kernel
theorem dX9_isKept_48 : decode cX9_isKept 48 = .ok (.iload_n 3, 1) := by decide +kernel
theorem dX9_isKept_49 : decode cX9_isKept 49 = .ok (.iaload, 1) := by decide +kernel
theorem dX9_isKept_50 : decode cX9_isKept 50 = .ok (.if_icmp .ne 7, 3) := by decide +kernel
theorem dX9_isKept_53 : decode cX9_isKept 53 = .ok (.iconst 1, 1) := by decide +kernel
theorem dX9_isKept_54 : decode cX9_isKept 54 = .ok (.goto 4, 3) := by decide +kernel
theorem dX9_isKept_57 : decode cX9_isKept 57 = .ok (.iconst 0, 1) := by decide +kernel
theorem dX9_isKept_58 : decode cX9_isKept 58 = .ok (.istore_n 2, 1) := by decide +kernel
theorem dX9_isKept_59 : decode cX9_isKept 59 = .ok (.iinc 3 1, 3) := by decide +kernel
theorem dX9_isKept_62 : decode cX9_isKept 62 = .ok (.goto (-58), 3) := by decide +kernel
theorem dX9_isKept_65 : decode cX9_isKept 65 = .ok (.iload_n 2, 1) := by decide +kernel
theorem dX9_isKept_66 : decode cX9_isKept 66 = .ok (.ireturn, 1) := by decide +kernel
theorem dX9_keptTurns_0 : decode cX9_keptTurns 0 = .ok (.aload_n 0, 1) := by decide +kernel
theorem dX9_keptTurns_1 : decode cX9_keptTurns 1 = .ok (.invokevirtual 221, 3) := by decide +kernel
theorem dX9_keptTurns_4 : decode cX9_keptTurns 4 = .ok (.iconst 0, 1) := by decide +kernel
theorem dX9_keptTurns_5 : decode cX9_keptTurns 5 = .ok (.istore_n 1, 1) := by decide +kernel
theorem dX9_keptTurns_6 : decode cX9_keptTurns 6 = .ok (.iconst 0, 1) := by decide +kernel
theorem dX9_keptTurns_7 : decode cX9_keptTurns 7 = .ok (.istore_n 2, 1) := by decide +kernel
theorem dX9_keptTurns_8 : decode cX9_keptTurns 8 = .ok (.iload_n 2, 1) := by decide +kernel
theorem dX9_keptTurns_9 : decode cX9_keptTurns 9 = .ok (.aload_n 0, 1) := by decide +kernel
theorem dX9_keptTurns_10 : decode cX9_keptTurns 10 = .ok (.getfield 215, 3) := by decide +kernel
theorem dX9_keptTurns_13 : decode cX9_keptTurns 13 = .ok (.if_icmp .ge 25, 3) := by decide +kernel
theorem dX9_keptTurns_16 : decode cX9_keptTurns 16 = .ok (.iload_n 1, 1) := by decide +kernel
theorem dX9_keptTurns_17 : decode cX9_keptTurns 17 = .ok (.aload_n 0, 1) := by decide +kernel
theorem dX9_keptTurns_18 : decode cX9_keptTurns 18 = .ok (.iload_n 2, 1) := by decide +kernel
theorem dX9_keptTurns_19 : decode cX9_keptTurns 19 = .ok (.invokevirtual 224, 3) := by decide +kernel
theorem dX9_keptTurns_22 : decode cX9_keptTurns 22 = .ok (.ifCond .eq 7, 3) := by decide +kernel
theorem dX9_keptTurns_25 : decode cX9_keptTurns 25 = .ok (.iconst 1, 1) := by decide +kernel
theorem dX9_keptTurns_26 : decode cX9_keptTurns 26 = .ok (.goto 4, 3) := by decide +kernel
theorem dX9_keptTurns_29 : decode cX9_keptTurns 29 = .ok (.iconst 0, 1) := by decide +kernel
theorem dX9_keptTurns_30 : decode cX9_keptTurns 30 = .ok (.iadd, 1) := by decide +kernel
theorem dX9_keptTurns_31 : decode cX9_keptTurns 31 = .ok (.istore_n 1, 1) := by decide +kernel
theorem dX9_keptTurns_32 : decode cX9_keptTurns 32 = .ok (.iinc 2 1, 3) := by decide +kernel
theorem dX9_keptTurns_35 : decode cX9_keptTurns 35 = .ok (.goto (-27), 3) := by decide +kernel
theorem dX9_keptTurns_38 : decode cX9_keptTurns 38 = .ok (.iload_n 1, 1) := by decide +kernel
theorem dX9_keptTurns_39 : decode cX9_keptTurns 39 = .ok (.ireturn, 1) := by decide +kernel
theorem dX9_symmetries_0 : decode cX9_symmetries 0 = .ok (.aload_n 0, 1) := by decide +kernel
theorem dX9_symmetries_1 : decode cX9_symmetries 1 = .ok (.invokevirtual 177, 3) := by decide +kernel
theorem dX9_symmetries_4 : decode cX9_symmetries 4 = .ok (.aload_n 0, 1) := by decide +kernel
theorem dX9_symmetries_5 : decode cX9_symmetries 5 = .ok (.aload_n 0, 1) := by decide +kernel
theorem dX9_symmetries_6 : decode cX9_symmetries 6 = .ok (.invokevirtual 227, 3) := by decide +kernel
theorem dX9_symmetries_9 : decode cX9_symmetries 9 = .ok (.invokevirtual 82, 3) := by decide +kernel
theorem dX9_symmetries_12 : decode cX9_symmetries 12 = .ok (.ireturn, 1) := by decide +kernel
theorem dX9_lowest_0 : decode cX9_lowest 0 = .ok (.iload_n 1, 1) := by decide +kernel
theorem dX9_lowest_1 : decode cX9_lowest 1 = .ok (.istore_n 2, 1) := by decide +kernel
theorem dX9_lowest_2 : decode cX9_lowest 2 = .ok (.iconst 0, 1) := by decide +kernel
theorem dX9_lowest_3 : decode cX9_lowest 3 = .ok (.istore_n 3, 1) := by decide +kernel
theorem dX9_lowest_4 : decode cX9_lowest 4 = .ok (.iload_n 3, 1) := by decide +kernel
theorem dX9_lowest_5 : decode cX9_lowest 5 = .ok (.aload_n 0, 1) := by decide +kernel
theorem dX9_lowest_6 : decode cX9_lowest 6 = .ok (.getfield 215, 3) := by decide +kernel
theorem dX9_lowest_9 : decode cX9_lowest 9 = .ok (.if_icmp .ge 43, 3) := by decide +kernel
theorem dX9_lowest_12 : decode cX9_lowest 12 = .ok (.aload_n 0, 1) := by decide +kernel
theorem dX9_lowest_13 : decode cX9_lowest 13 = .ok (.getfield 40, 3) := by decide +kernel
theorem dX9_lowest_16 : decode cX9_lowest 16 = .ok (.bipush 6, 2) := by decide +kernel
theorem dX9_lowest_18 : decode cX9_lowest 18 = .ok (.iload_n 3, 1) := by decide +kernel
theorem dX9_lowest_19 : decode cX9_lowest 19 = .ok (.imul, 1) := by decide +kernel
theorem dX9_lowest_20 : decode cX9_lowest 20 = .ok (.iload_n 1, 1) := by decide +kernel
theorem dX9_lowest_21 : decode cX9_lowest 21 = .ok (.iadd, 1) := by decide +kernel
theorem dX9_lowest_22 : decode cX9_lowest 22 = .ok (.iaload, 1) := by decide +kernel
theorem dX9_lowest_23 : decode cX9_lowest 23 = .ok (.istore 4, 2) := by decide +kernel
theorem dX9_lowest_25 : decode cX9_lowest 25 = .ok (.iload 4, 2) := by decide +kernel
theorem dX9_lowest_27 : decode cX9_lowest 27 = .ok (.iload_n 2, 1) := by decide +kernel
theorem dX9_lowest_28 : decode cX9_lowest 28 = .ok (.if_icmp .ge 16, 3) := by decide +kernel
theorem dX9_lowest_31 : decode cX9_lowest 31 = .ok (.aload_n 0, 1) := by decide +kernel
theorem dX9_lowest_32 : decode cX9_lowest 32 = .ok (.iload_n 3, 1) := by decide +kernel
theorem dX9_lowest_33 : decode cX9_lowest 33 = .ok (.invokevirtual 224, 3) := by decide +kernel
theorem dX9_lowest_36 : decode cX9_lowest 36 = .ok (.ifCond .eq 8, 3) := by decide +kernel
theorem dX9_lowest_39 : decode cX9_lowest 39 = .ok (.iload 4, 2) := by decide +kernel
theorem dX9_lowest_41 : decode cX9_lowest 41 = .ok (.goto 4, 3) := by decide +kernel
theorem dX9_lowest_44 : decode cX9_lowest 44 = .ok (.iload_n 2, 1) := by decide +kernel
theorem dX9_lowest_45 : decode cX9_lowest 45 = .ok (.istore_n 2, 1) := by decide +kernel
theorem dX9_lowest_46 : decode cX9_lowest 46 = .ok (.iinc 3 1, 3) := by decide +kernel
theorem dX9_lowest_49 : decode cX9_lowest 49 = .ok (.goto (-45), 3) := by decide +kernel
theorem dX9_lowest_52 : decode cX9_lowest 52 = .ok (.iload_n 2, 1) := by decide +kernel
theorem dX9_lowest_53 : decode cX9_lowest 53 = .ok (.ireturn, 1) := by decide +kernel
theorem dX9_representative_0 : decode cX9_representative 0 = .ok (.aload_n 0, 1) := by decide +kernel
theorem dX9_representative_1 : decode cX9_representative 1 = .ok (.iload_n 1, 1) := by decide +kernel
theorem dX9_representative_2 : decode cX9_representative 2 = .ok (.invokevirtual 103, 3) := by decide +kernel
theorem dX9_representative_5 : decode cX9_representative 5 = .ok (.ifCond .ne 9, 3) := by decide +kernel
theorem dX9_representative_8 : decode cX9_representative 8 = .ok (.aload_n 0, 1) := by decide +kernel
theorem dX9_representative_9 : decode cX9_representative 9 = .ok (.iconst 1, 1) := by decide +kernel
theorem dX9_representative_10 : decode cX9_representative 10 = .ok (.invokevirtual 94, 3) := by decide +kernel
theorem dX9_representative_13 : decode cX9_representative 13 = .ok (.ireturn, 1) := by decide +kernel
theorem dX9_representative_14 : decode cX9_representative 14 = .ok (.aload_n 0, 1) := by decide +kernel
theorem dX9_representative_15 : decode cX9_representative 15 = .ok (.invokevirtual 177, 3) := by decide +kernel
theorem dX9_representative_18 : decode cX9_representative 18 = .ok (.aload_n 0, 1) := by decide +kernel
theorem dX9_representative_19 : decode cX9_representative 19 = .ok (.invokevirtual 221, 3) := by decide +kernel
theorem dX9_representative_22 : decode cX9_representative 22 = .ok (.aload_n 0, 1) := by decide +kernel
theorem dX9_representative_23 : decode cX9_representative 23 = .ok (.aload_n 0, 1) := by decide +kernel
theorem dX9_representative_24 : decode cX9_representative 24 = .ok (.iload_n 1, 1) := by decide +kernel
theorem dX9_representative_25 : decode cX9_representative 25 = .ok (.invokevirtual 230, 3) := by decide +kernel
theorem dX9_representative_28 : decode cX9_representative 28 = .ok (.invokevirtual 82, 3) := by decide +kernel
theorem dX9_representative_31 : decode cX9_representative 31 = .ok (.ireturn, 1) := by decide +kernel
theorem dX9_adds_0 : decode cX9_adds 0 = .ok (.iconst 0, 1) := by decide +kernel
theorem dX9_adds_1 : decode cX9_adds 1 = .ok (.istore_n 2, 1) := by decide +kernel
theorem dX9_adds_2 : decode cX9_adds 2 = .ok (.iload_n 2, 1) := by decide +kernel
theorem dX9_adds_3 : decode cX9_adds 3 = .ok (.bipush 6, 2) := by decide +kernel
theorem dX9_adds_5 : decode cX9_adds 5 = .ok (.if_icmp .ge 29, 3) := by decide +kernel
theorem dX9_adds_8 : decode cX9_adds 8 = .ok (.aload_n 0, 1) := by decide +kernel
theorem dX9_adds_9 : decode cX9_adds 9 = .ok (.getfield 43, 3) := by decide +kernel
theorem dX9_adds_12 : decode cX9_adds 12 = .ok (.bipush 6, 2) := by decide +kernel
theorem dX9_adds_14 : decode cX9_adds 14 = .ok (.aload_n 0, 1) := by decide +kernel
theorem dX9_adds_15 : decode cX9_adds 15 = .ok (.getfield 233, 3) := by decide +kernel
theorem dX9_adds_18 : decode cX9_adds 18 = .ok (.imul, 1) := by decide +kernel
theorem dX9_adds_19 : decode cX9_adds 19 = .ok (.iload_n 2, 1) := by decide +kernel
theorem dX9_adds_20 : decode cX9_adds 20 = .ok (.iadd, 1) := by decide +kernel
theorem dX9_adds_21 : decode cX9_adds 21 = .ok (.aload_n 0, 1) := by decide +kernel
theorem dX9_adds_22 : decode cX9_adds 22 = .ok (.getfield 25, 3) := by decide +kernel
theorem dX9_adds_25 : decode cX9_adds 25 = .ok (.iload_n 2, 1) := by decide +kernel
theorem dX9_adds_26 : decode cX9_adds 26 = .ok (.iaload, 1) := by decide +kernel
theorem dX9_adds_27 : decode cX9_adds 27 = .ok (.iastore, 1) := by decide +kernel
theorem dX9_adds_28 : decode cX9_adds 28 = .ok (.iinc 2 1, 3) := by decide +kernel
theorem dX9_adds_31 : decode cX9_adds 31 = .ok (.goto (-29), 3) := by decide +kernel
theorem dX9_adds_34 : decode cX9_adds 34 = .ok (.aload_n 0, 1) := by decide +kernel
theorem dX9_adds_35 : decode cX9_adds 35 = .ok (.getfield 46, 3) := by decide +kernel
theorem dX9_adds_38 : decode cX9_adds 38 = .ok (.aload_n 0, 1) := by decide +kernel
theorem dX9_adds_39 : decode cX9_adds 39 = .ok (.getfield 233, 3) := by decide +kernel
theorem dX9_adds_42 : decode cX9_adds 42 = .ok (.iload_n 1, 1) := by decide +kernel
theorem dX9_adds_43 : decode cX9_adds 43 = .ok (.ifCond .eq 10, 3) := by decide +kernel
theorem dX9_adds_46 : decode cX9_adds 46 = .ok (.aload_n 0, 1) := by decide +kernel
theorem dX9_adds_47 : decode cX9_adds 47 = .ok (.invokevirtual 206, 3) := by decide +kernel
theorem dX9_adds_50 : decode cX9_adds 50 = .ok (.goto 4, 3) := by decide +kernel
theorem dX9_adds_53 : decode cX9_adds 53 = .ok (.iconst 0, 1) := by decide +kernel
theorem dX9_adds_54 : decode cX9_adds 54 = .ok (.iastore, 1) := by decide +kernel
theorem dX9_adds_55 : decode cX9_adds 55 = .ok (.aload_n 0, 1) := by decide +kernel
theorem dX9_adds_56 : decode cX9_adds 56 = .ok (.getfield 49, 3) := by decide +kernel
theorem dX9_adds_59 : decode cX9_adds 59 = .ok (.aload_n 0, 1) := by decide +kernel
theorem dX9_adds_60 : decode cX9_adds 60 = .ok (.getfield 233, 3) := by decide +kernel
theorem dX9_adds_63 : decode cX9_adds 63 = .ok (.aload_n 0, 1) := by decide +kernel
theorem dX9_adds_64 : decode cX9_adds 64 = .ok (.invokevirtual 187, 3) := by decide +kernel
theorem dX9_adds_67 : decode cX9_adds 67 = .ok (.iastore, 1) := by decide +kernel
theorem dX9_adds_68 : decode cX9_adds 68 = .ok (.aload_n 0, 1) := by decide +kernel
theorem dX9_adds_69 : decode cX9_adds 69 = .ok (.getfield 52, 3) := by decide +kernel
theorem dX9_adds_72 : decode cX9_adds 72 = .ok (.aload_n 0, 1) := by decide +kernel
theorem dX9_adds_73 : decode cX9_adds 73 = .ok (.getfield 233, 3) := by decide +kernel
theorem dX9_adds_76 : decode cX9_adds 76 = .ok (.iconst 1, 1) := by decide +kernel
theorem dX9_adds_77 : decode cX9_adds 77 = .ok (.bastore, 1) := by decide +kernel
theorem dX9_adds_78 : decode cX9_adds 78 = .ok (.aload_n 0, 1) := by decide +kernel
theorem dX9_adds_79 : decode cX9_adds 79 = .ok (.dup, 1) := by decide +kernel
theorem dX9_adds_80 : decode cX9_adds 80 = .ok (.getfield 233, 3) := by decide +kernel
theorem dX9_adds_83 : decode cX9_adds 83 = .ok (.iconst 1, 1) := by decide +kernel
theorem dX9_adds_84 : decode cX9_adds 84 = .ok (.iadd, 1) := by decide +kernel
theorem dX9_adds_85 : decode cX9_adds 85 = .ok (.putfield 233, 3) := by decide +kernel
theorem dX9_adds_88 : decode cX9_adds 88 = .ok (.return_, 1) := by decide +kernel
theorem dX9_looksAt_0 : decode cX9_looksAt 0 = .ok (.iconst 0, 1) := by decide +kernel
theorem dX9_looksAt_1 : decode cX9_looksAt 1 = .ok (.istore_n 2, 1) := by decide +kernel
theorem dX9_looksAt_2 : decode cX9_looksAt 2 = .ok (.iload_n 2, 1) := by decide +kernel
theorem dX9_looksAt_3 : decode cX9_looksAt 3 = .ok (.bipush 6, 2) := by decide +kernel
theorem dX9_looksAt_5 : decode cX9_looksAt 5 = .ok (.if_icmp .ge 26, 3) := by decide +kernel
theorem dX9_looksAt_8 : decode cX9_looksAt 8 = .ok (.aload_n 0, 1) := by decide +kernel
theorem dX9_looksAt_9 : decode cX9_looksAt 9 = .ok (.getfield 25, 3) := by decide +kernel
theorem dX9_looksAt_12 : decode cX9_looksAt 12 = .ok (.iload_n 2, 1) := by decide +kernel
theorem dX9_looksAt_13 : decode cX9_looksAt 13 = .ok (.aload_n 0, 1) := by decide +kernel
theorem dX9_looksAt_14 : decode cX9_looksAt 14 = .ok (.getfield 43, 3) := by decide +kernel
theorem dX9_looksAt_17 : decode cX9_looksAt 17 = .ok (.bipush 6, 2) := by decide +kernel
theorem dX9_looksAt_19 : decode cX9_looksAt 19 = .ok (.iload_n 1, 1) := by decide +kernel
theorem dX9_looksAt_20 : decode cX9_looksAt 20 = .ok (.imul, 1) := by decide +kernel
theorem dX9_looksAt_21 : decode cX9_looksAt 21 = .ok (.iload_n 2, 1) := by decide +kernel
theorem dX9_looksAt_22 : decode cX9_looksAt 22 = .ok (.iadd, 1) := by decide +kernel
theorem dX9_looksAt_23 : decode cX9_looksAt 23 = .ok (.iaload, 1) := by decide +kernel
theorem dX9_looksAt_24 : decode cX9_looksAt 24 = .ok (.iastore, 1) := by decide +kernel
theorem dX9_looksAt_25 : decode cX9_looksAt 25 = .ok (.iinc 2 1, 3) := by decide +kernel
theorem dX9_looksAt_28 : decode cX9_looksAt 28 = .ok (.goto (-26), 3) := by decide +kernel
theorem dX9_looksAt_31 : decode cX9_looksAt 31 = .ok (.return_, 1) := by decide +kernel
theorem dX9_ranks_0 : decode cX9_ranks 0 = .ok (.iconst 0, 1) := by decide +kernel
theorem dX9_ranks_1 : decode cX9_ranks 1 = .ok (.istore_n 3, 1) := by decide +kernel
theorem dX9_ranks_2 : decode cX9_ranks 2 = .ok (.iconst 0, 1) := by decide +kernel
theorem dX9_ranks_3 : decode cX9_ranks 3 = .ok (.istore 4, 2) := by decide +kernel
theorem dX9_ranks_5 : decode cX9_ranks 5 = .ok (.iload 4, 2) := by decide +kernel
theorem dX9_ranks_7 : decode cX9_ranks 7 = .ok (.aload_n 0, 1) := by decide +kernel
theorem dX9_ranks_8 : decode cX9_ranks 8 = .ok (.getfield 7, 3) := by decide +kernel
theorem dX9_ranks_11 : decode cX9_ranks 11 = .ok (.iconst 0, 1) := by decide +kernel
theorem dX9_ranks_12 : decode cX9_ranks 12 = .ok (.iaload, 1) := by decide +kernel
theorem dX9_ranks_13 : decode cX9_ranks 13 = .ok (.if_icmp .ge 123, 3) := by decide +kernel
theorem dX9_ranks_16 : decode cX9_ranks 16 = .ok (.aload_n 0, 1) := by decide +kernel
theorem dX9_ranks_17 : decode cX9_ranks 17 = .ok (.iload 4, 2) := by decide +kernel
theorem dX9_ranks_19 : decode cX9_ranks 19 = .ok (.invokevirtual 180, 3) := by decide +kernel
theorem dX9_ranks_22 : decode cX9_ranks 22 = .ok (.ifCond .ne 108, 3) := by decide +kernel
theorem dX9_ranks_25 : decode cX9_ranks 25 = .ok (.iload_n 2, 1) := by decide +kernel
theorem dX9_ranks_26 : decode cX9_ranks 26 = .ok (.ifCond .eq 14, 3) := by decide +kernel
theorem dX9_ranks_29 : decode cX9_ranks 29 = .ok (.aload_n 0, 1) := by decide +kernel
theorem dX9_ranks_30 : decode cX9_ranks 30 = .ok (.iload 4, 2) := by decide +kernel
theorem dX9_ranks_32 : decode cX9_ranks 32 = .ok (.invokevirtual 230, 3) := by decide +kernel
theorem dX9_ranks_35 : decode cX9_ranks 35 = .ok (.iload 4, 2) := by decide +kernel
theorem dX9_ranks_37 : decode cX9_ranks 37 = .ok (.if_icmp .ne 93, 3) := by decide +kernel
theorem dX9_ranks_40 : decode cX9_ranks 40 = .ok (.aload_n 0, 1) := by decide +kernel
theorem dX9_ranks_41 : decode cX9_ranks 41 = .ok (.iload_n 1, 1) := by decide +kernel
theorem dX9_ranks_42 : decode cX9_ranks 42 = .ok (.iload 4, 2) := by decide +kernel
theorem dX9_ranks_44 : decode cX9_ranks 44 = .ok (.invokevirtual 200, 3) := by decide +kernel
theorem dX9_ranks_47 : decode cX9_ranks 47 = .ok (.istore 5, 2) := by decide +kernel
theorem dX9_ranks_49 : decode cX9_ranks 49 = .ok (.iload_n 3, 1) := by decide +kernel
theorem dX9_ranks_50 : decode cX9_ranks 50 = .ok (.istore 6, 2) := by decide +kernel
theorem dX9_ranks_52 : decode cX9_ranks 52 = .ok (.iload 6, 2) := by decide +kernel
theorem dX9_ranks_54 : decode cX9_ranks 54 = .ok (.ifCond .le 55, 3) := by decide +kernel
theorem dX9_ranks_57 : decode cX9_ranks 57 = .ok (.aload_n 0, 1) := by decide +kernel
theorem dX9_ranks_58 : decode cX9_ranks 58 = .ok (.getfield 65, 3) := by decide +kernel
theorem dX9_ranks_61 : decode cX9_ranks 61 = .ok (.iload 6, 2) := by decide +kernel
theorem dX9_ranks_63 : decode cX9_ranks 63 = .ok (.iconst 1, 1) := by decide +kernel
theorem dX9_ranks_64 : decode cX9_ranks 64 = .ok (.isub, 1) := by decide +kernel
theorem dX9_ranks_65 : decode cX9_ranks 65 = .ok (.iaload, 1) := by decide +kernel
theorem dX9_ranks_66 : decode cX9_ranks 66 = .ok (.iload 5, 2) := by decide +kernel
theorem dX9_ranks_68 : decode cX9_ranks 68 = .ok (.if_icmp .le 41, 3) := by decide +kernel
theorem dX9_ranks_71 : decode cX9_ranks 71 = .ok (.aload_n 0, 1) := by decide +kernel
theorem dX9_ranks_72 : decode cX9_ranks 72 = .ok (.getfield 65, 3) := by decide +kernel
theorem dX9_ranks_75 : decode cX9_ranks 75 = .ok (.iload 6, 2) := by decide +kernel
theorem dX9_ranks_77 : decode cX9_ranks 77 = .ok (.aload_n 0, 1) := by decide +kernel
theorem dX9_ranks_78 : decode cX9_ranks 78 = .ok (.getfield 65, 3) := by decide +kernel
theorem dX9_ranks_81 : decode cX9_ranks 81 = .ok (.iload 6, 2) := by decide +kernel
theorem dX9_ranks_83 : decode cX9_ranks 83 = .ok (.iconst 1, 1) := by decide +kernel
theorem dX9_ranks_84 : decode cX9_ranks 84 = .ok (.isub, 1) := by decide +kernel
theorem dX9_ranks_85 : decode cX9_ranks 85 = .ok (.iaload, 1) := by decide +kernel
theorem dX9_ranks_86 : decode cX9_ranks 86 = .ok (.iastore, 1) := by decide +kernel
theorem dX9_ranks_87 : decode cX9_ranks 87 = .ok (.aload_n 0, 1) := by decide +kernel
theorem dX9_ranks_88 : decode cX9_ranks 88 = .ok (.getfield 62, 3) := by decide +kernel
theorem dX9_ranks_91 : decode cX9_ranks 91 = .ok (.iload 6, 2) := by decide +kernel
theorem dX9_ranks_93 : decode cX9_ranks 93 = .ok (.aload_n 0, 1) := by decide +kernel
theorem dX9_ranks_94 : decode cX9_ranks 94 = .ok (.getfield 62, 3) := by decide +kernel
theorem dX9_ranks_97 : decode cX9_ranks 97 = .ok (.iload 6, 2) := by decide +kernel
theorem dX9_ranks_99 : decode cX9_ranks 99 = .ok (.iconst 1, 1) := by decide +kernel
theorem dX9_ranks_100 : decode cX9_ranks 100 = .ok (.isub, 1) := by decide +kernel
theorem dX9_ranks_101 : decode cX9_ranks 101 = .ok (.iaload, 1) := by decide +kernel
theorem dX9_ranks_102 : decode cX9_ranks 102 = .ok (.iastore, 1) := by decide +kernel
theorem dX9_ranks_103 : decode cX9_ranks 103 = .ok (.iinc 6 (-1), 3) := by decide +kernel
theorem dX9_ranks_106 : decode cX9_ranks 106 = .ok (.goto (-54), 3) := by decide +kernel
theorem dX9_ranks_109 : decode cX9_ranks 109 = .ok (.aload_n 0, 1) := by decide +kernel
theorem dX9_ranks_110 : decode cX9_ranks 110 = .ok (.getfield 65, 3) := by decide +kernel
theorem dX9_ranks_113 : decode cX9_ranks 113 = .ok (.iload 6, 2) := by decide +kernel
theorem dX9_ranks_115 : decode cX9_ranks 115 = .ok (.iload 5, 2) := by decide +kernel
theorem dX9_ranks_117 : decode cX9_ranks 117 = .ok (.iastore, 1) := by decide +kernel
theorem dX9_ranks_118 : decode cX9_ranks 118 = .ok (.aload_n 0, 1) := by decide +kernel
theorem dX9_ranks_119 : decode cX9_ranks 119 = .ok (.getfield 62, 3) := by decide +kernel
theorem dX9_ranks_122 : decode cX9_ranks 122 = .ok (.iload 6, 2) := by decide +kernel
theorem dX9_ranks_124 : decode cX9_ranks 124 = .ok (.iload 4, 2) := by decide +kernel
theorem dX9_ranks_126 : decode cX9_ranks 126 = .ok (.iastore, 1) := by decide +kernel
theorem dX9_ranks_127 : decode cX9_ranks 127 = .ok (.iinc 3 1, 3) := by decide +kernel
theorem dX9_ranks_130 : decode cX9_ranks 130 = .ok (.iinc 4 1, 3) := by decide +kernel
theorem dX9_ranks_133 : decode cX9_ranks 133 = .ok (.goto (-128), 3) := by decide +kernel
theorem dX9_ranks_136 : decode cX9_ranks 136 = .ok (.iload_n 3, 1) := by decide +kernel
theorem dX9_ranks_137 : decode cX9_ranks 137 = .ok (.ireturn, 1) := by decide +kernel
theorem dX9_counts_0 : decode cX9_counts 0 = .ok (.aload_n 0, 1) := by decide +kernel
theorem dX9_counts_1 : decode cX9_counts 1 = .ok (.getfield 56, 3) := by decide +kernel
theorem dX9_counts_4 : decode cX9_counts 4 = .ok (.iconst 2, 1) := by decide +kernel
theorem dX9_counts_5 : decode cX9_counts 5 = .ok (.dup2, 1) := by decide +kernel
theorem dX9_counts_6 : decode cX9_counts 6 = .ok (.iaload, 1) := by decide +kernel
theorem dX9_counts_7 : decode cX9_counts 7 = .ok (.iconst 1, 1) := by decide +kernel
theorem dX9_counts_8 : decode cX9_counts 8 = .ok (.iadd, 1) := by decide +kernel
theorem dX9_counts_9 : decode cX9_counts 9 = .ok (.iastore, 1) := by decide +kernel
theorem dX9_counts_10 : decode cX9_counts 10 = .ok (.aload_n 0, 1) := by decide +kernel
theorem dX9_counts_11 : decode cX9_counts 11 = .ok (.getfield 59, 3) := by decide +kernel
theorem dX9_counts_14 : decode cX9_counts 14 = .ok (.aload_n 0, 1) := by decide +kernel
theorem dX9_counts_15 : decode cX9_counts 15 = .ok (.invokevirtual 187, 3) := by decide +kernel
theorem dX9_counts_18 : decode cX9_counts 18 = .ok (.dup2, 1) := by decide +kernel
theorem dX9_counts_19 : decode cX9_counts 19 = .ok (.iaload, 1) := by decide +kernel
theorem dX9_counts_20 : decode cX9_counts 20 = .ok (.iconst 1, 1) := by decide +kernel
theorem dX9_counts_21 : decode cX9_counts 21 = .ok (.iadd, 1) := by decide +kernel
theorem dX9_counts_22 : decode cX9_counts 22 = .ok (.iastore, 1) := by decide +kernel
theorem dX9_counts_23 : decode cX9_counts 23 = .ok (.iload_n 1, 1) := by decide +kernel
theorem dX9_counts_24 : decode cX9_counts 24 = .ok (.aload_n 0, 1) := by decide +kernel
theorem dX9_counts_25 : decode cX9_counts 25 = .ok (.getfield 56, 3) := by decide +kernel
theorem dX9_counts_28 : decode cX9_counts 28 = .ok (.iconst 0, 1) := by decide +kernel
theorem dX9_counts_29 : decode cX9_counts 29 = .ok (.iaload, 1) := by decide +kernel
theorem dX9_counts_30 : decode cX9_counts 30 = .ok (.if_icmp .lt 15, 3) := by decide +kernel
theorem dX9_counts_33 : decode cX9_counts 33 = .ok (.aload_n 0, 1) := by decide +kernel
theorem dX9_counts_34 : decode cX9_counts 34 = .ok (.getfield 56, 3) := by decide +kernel
theorem dX9_counts_37 : decode cX9_counts 37 = .ok (.iconst 3, 1) := by decide +kernel
theorem dX9_counts_38 : decode cX9_counts 38 = .ok (.dup2, 1) := by decide +kernel
theorem dX9_counts_39 : decode cX9_counts 39 = .ok (.iaload, 1) := by decide +kernel
theorem dX9_counts_40 : decode cX9_counts 40 = .ok (.iconst 1, 1) := by decide +kernel
theorem dX9_counts_41 : decode cX9_counts 41 = .ok (.iadd, 1) := by decide +kernel
theorem dX9_counts_42 : decode cX9_counts 42 = .ok (.iastore, 1) := by decide +kernel
theorem dX9_counts_43 : decode cX9_counts 43 = .ok (.iconst 0, 1) := by decide +kernel
theorem dX9_counts_44 : decode cX9_counts 44 = .ok (.ireturn, 1) := by decide +kernel
theorem dX9_counts_45 : decode cX9_counts 45 = .ok (.aload_n 0, 1) := by decide +kernel
theorem dX9_counts_46 : decode cX9_counts 46 = .ok (.invokevirtual 187, 3) := by decide +kernel
theorem dX9_counts_49 : decode cX9_counts 49 = .ok (.aload_n 0, 1) := by decide +kernel
theorem dX9_counts_50 : decode cX9_counts 50 = .ok (.getfield 7, 3) := by decide +kernel
theorem dX9_counts_53 : decode cX9_counts 53 = .ok (.iconst 0, 1) := by decide +kernel
theorem dX9_counts_54 : decode cX9_counts 54 = .ok (.iaload, 1) := by decide +kernel
theorem dX9_counts_55 : decode cX9_counts 55 = .ok (.if_icmp .ge 5, 3) := by decide +kernel
theorem dX9_counts_58 : decode cX9_counts 58 = .ok (.iconst 1, 1) := by decide +kernel
theorem dX9_counts_59 : decode cX9_counts 59 = .ok (.ireturn, 1) := by decide +kernel
theorem dX9_counts_60 : decode cX9_counts 60 = .ok (.aload_n 0, 1) := by decide +kernel
theorem dX9_counts_61 : decode cX9_counts 61 = .ok (.getfield 56, 3) := by decide +kernel
theorem dX9_counts_64 : decode cX9_counts 64 = .ok (.iconst 0, 1) := by decide +kernel
theorem dX9_counts_65 : decode cX9_counts 65 = .ok (.iload_n 1, 1) := by decide +kernel
theorem dX9_counts_66 : decode cX9_counts 66 = .ok (.iastore, 1) := by decide +kernel
theorem dX9_counts_67 : decode cX9_counts 67 = .ok (.iconst 0, 1) := by decide +kernel
theorem dX9_counts_68 : decode cX9_counts 68 = .ok (.istore_n 2, 1) := by decide +kernel
theorem dX9_counts_69 : decode cX9_counts 69 = .ok (.iload_n 2, 1) := by decide +kernel
theorem dX9_counts_70 : decode cX9_counts 70 = .ok (.aload_n 0, 1) := by decide +kernel
theorem dX9_counts_71 : decode cX9_counts 71 = .ok (.getfield 7, 3) := by decide +kernel
theorem dX9_counts_74 : decode cX9_counts 74 = .ok (.iconst 0, 1) := by decide +kernel
theorem dX9_counts_75 : decode cX9_counts 75 = .ok (.iaload, 1) := by decide +kernel
theorem dX9_counts_76 : decode cX9_counts 76 = .ok (.if_icmp .ge 21, 3) := by decide +kernel
theorem dX9_counts_79 : decode cX9_counts 79 = .ok (.aload_n 0, 1) := by decide +kernel
theorem dX9_counts_80 : decode cX9_counts 80 = .ok (.getfield 22, 3) := by decide +kernel
theorem dX9_counts_83 : decode cX9_counts 83 = .ok (.iload_n 2, 1) := by decide +kernel
theorem dX9_counts_84 : decode cX9_counts 84 = .ok (.aload_n 0, 1) := by decide +kernel
theorem dX9_counts_85 : decode cX9_counts 85 = .ok (.getfield 25, 3) := by decide +kernel
theorem dX9_counts_88 : decode cX9_counts 88 = .ok (.iload_n 2, 1) := by decide +kernel
theorem dX9_counts_89 : decode cX9_counts 89 = .ok (.iaload, 1) := by decide +kernel
theorem dX9_counts_90 : decode cX9_counts 90 = .ok (.iastore, 1) := by decide +kernel
theorem dX9_counts_91 : decode cX9_counts 91 = .ok (.iinc 2 1, 3) := by decide +kernel
theorem dX9_counts_94 : decode cX9_counts 94 = .ok (.goto (-25), 3) := by decide +kernel
theorem dX9_counts_97 : decode cX9_counts 97 = .ok (.aload_n 0, 1) := by decide +kernel
theorem dX9_counts_98 : decode cX9_counts 98 = .ok (.getfield 56, 3) := by decide +kernel
theorem dX9_counts_101 : decode cX9_counts 101 = .ok (.iconst 1, 1) := by decide +kernel
theorem dX9_counts_102 : decode cX9_counts 102 = .ok (.aload_n 0, 1) := by decide +kernel
theorem dX9_counts_103 : decode cX9_counts 103 = .ok (.invokevirtual 152, 3) := by decide +kernel
theorem dX9_counts_106 : decode cX9_counts 106 = .ok (.iastore, 1) := by decide +kernel
theorem dX9_counts_107 : decode cX9_counts 107 = .ok (.aload_n 0, 1) := by decide +kernel
theorem dX9_counts_108 : decode cX9_counts 108 = .ok (.getfield 56, 3) := by decide +kernel
theorem dX9_counts_111 : decode cX9_counts 111 = .ok (.iconst 4, 1) := by decide +kernel
theorem dX9_counts_112 : decode cX9_counts 112 = .ok (.dup2, 1) := by decide +kernel
theorem dX9_counts_113 : decode cX9_counts 113 = .ok (.iaload, 1) := by decide +kernel
theorem dX9_counts_114 : decode cX9_counts 114 = .ok (.iconst 1, 1) := by decide +kernel
theorem dX9_counts_115 : decode cX9_counts 115 = .ok (.iadd, 1) := by decide +kernel
theorem dX9_counts_116 : decode cX9_counts 116 = .ok (.iastore, 1) := by decide +kernel
theorem dX9_counts_117 : decode cX9_counts 117 = .ok (.iconst 0, 1) := by decide +kernel
theorem dX9_counts_118 : decode cX9_counts 118 = .ok (.ireturn, 1) := by decide +kernel
theorem dX9_branches_0 : decode cX9_branches 0 = .ok (.aload_n 0, 1) := by decide +kernel
theorem dX9_branches_1 : decode cX9_branches 1 = .ok (.invokevirtual 212, 3) := by decide +kernel
theorem dX9_branches_4 : decode cX9_branches 4 = .ok (.istore_n 3, 1) := by decide +kernel
theorem dX9_branches_5 : decode cX9_branches 5 = .ok (.aload_n 0, 1) := by decide +kernel
theorem dX9_branches_6 : decode cX9_branches 6 = .ok (.iload_n 3, 1) := by decide +kernel
theorem dX9_branches_7 : decode cX9_branches 7 = .ok (.iload_n 1, 1) := by decide +kernel
theorem dX9_branches_8 : decode cX9_branches 8 = .ok (.invokevirtual 236, 3) := by decide +kernel
theorem dX9_branches_11 : decode cX9_branches 11 = .ok (.istore 4, 2) := by decide +kernel
theorem dX9_branches_13 : decode cX9_branches 13 = .ok (.iconst 0, 1) := by decide +kernel
theorem dX9_branches_14 : decode cX9_branches 14 = .ok (.istore 5, 2) := by decide +kernel
theorem dX9_branches_16 : decode cX9_branches 16 = .ok (.iload 5, 2) := by decide +kernel
theorem dX9_branches_18 : decode cX9_branches 18 = .ok (.iload 4, 2) := by decide +kernel
theorem dX9_branches_20 : decode cX9_branches 20 = .ok (.if_icmp .ge 49, 3) := by decide +kernel
theorem dX9_branches_23 : decode cX9_branches 23 = .ok (.aload_n 0, 1) := by decide +kernel
theorem dX9_branches_24 : decode cX9_branches 24 = .ok (.getfield 25, 3) := by decide +kernel
theorem dX9_branches_27 : decode cX9_branches 27 = .ok (.iload_n 3, 1) := by decide +kernel
theorem dX9_branches_28 : decode cX9_branches 28 = .ok (.aload_n 0, 1) := by decide +kernel
theorem dX9_branches_29 : decode cX9_branches 29 = .ok (.getfield 62, 3) := by decide +kernel
theorem dX9_branches_32 : decode cX9_branches 32 = .ok (.iload_n 2, 1) := by decide +kernel
theorem dX9_branches_33 : decode cX9_branches 33 = .ok (.ifCond .eq 13, 3) := by decide +kernel
theorem dX9_branches_36 : decode cX9_branches 36 = .ok (.iload 4, 2) := by decide +kernel
theorem dX9_branches_38 : decode cX9_branches 38 = .ok (.iconst 1, 1) := by decide +kernel
theorem dX9_branches_39 : decode cX9_branches 39 = .ok (.isub, 1) := by decide +kernel
theorem dX9_branches_40 : decode cX9_branches 40 = .ok (.iload 5, 2) := by decide +kernel
theorem dX9_branches_42 : decode cX9_branches 42 = .ok (.isub, 1) := by decide +kernel
theorem dX9_branches_43 : decode cX9_branches 43 = .ok (.goto 5, 3) := by decide +kernel
theorem dX9_branches_46 : decode cX9_branches 46 = .ok (.iload 5, 2) := by decide +kernel
theorem dX9_branches_48 : decode cX9_branches 48 = .ok (.iaload, 1) := by decide +kernel
theorem dX9_branches_49 : decode cX9_branches 49 = .ok (.iastore, 1) := by decide +kernel
theorem dX9_branches_50 : decode cX9_branches 50 = .ok (.aload_n 0, 1) := by decide +kernel
theorem dX9_branches_51 : decode cX9_branches 51 = .ok (.iload_n 2, 1) := by decide +kernel
theorem dX9_branches_52 : decode cX9_branches 52 = .ok (.ifCond .ne 7, 3) := by decide +kernel
theorem dX9_branches_55 : decode cX9_branches 55 = .ok (.iconst 1, 1) := by decide +kernel
theorem dX9_branches_56 : decode cX9_branches 56 = .ok (.goto 4, 3) := by decide +kernel
theorem dX9_branches_59 : decode cX9_branches 59 = .ok (.iconst 0, 1) := by decide +kernel
theorem dX9_branches_60 : decode cX9_branches 60 = .ok (.invokevirtual 240, 3) := by decide +kernel
theorem dX9_branches_63 : decode cX9_branches 63 = .ok (.iinc 5 1, 3) := by decide +kernel
theorem dX9_branches_66 : decode cX9_branches 66 = .ok (.goto (-50), 3) := by decide +kernel
theorem dX9_branches_69 : decode cX9_branches 69 = .ok (.aload_n 0, 1) := by decide +kernel
theorem dX9_branches_70 : decode cX9_branches 70 = .ok (.getfield 25, 3) := by decide +kernel
theorem dX9_branches_73 : decode cX9_branches 73 = .ok (.iload_n 3, 1) := by decide +kernel
theorem dX9_branches_74 : decode cX9_branches 74 = .ok (.iconst (-1), 1) := by decide +kernel
theorem dX9_branches_75 : decode cX9_branches 75 = .ok (.iastore, 1) := by decide +kernel
theorem dX9_branches_76 : decode cX9_branches 76 = .ok (.return_, 1) := by decide +kernel
theorem dX9_leastNode_0 : decode cX9_leastNode 0 = .ok (.iconst (-1), 1) := by decide +kernel
theorem dX9_leastNode_1 : decode cX9_leastNode 1 = .ok (.istore_n 1, 1) := by decide +kernel
theorem dX9_leastNode_2 : decode cX9_leastNode 2 = .ok (.iconst 0, 1) := by decide +kernel
theorem dX9_leastNode_3 : decode cX9_leastNode 3 = .ok (.istore_n 2, 1) := by decide +kernel
theorem dX9_leastNode_4 : decode cX9_leastNode 4 = .ok (.iload_n 2, 1) := by decide +kernel
theorem dX9_leastNode_5 : decode cX9_leastNode 5 = .ok (.aload_n 0, 1) := by decide +kernel
theorem dX9_leastNode_6 : decode cX9_leastNode 6 = .ok (.getfield 233, 3) := by decide +kernel
theorem dX9_leastNode_9 : decode cX9_leastNode 9 = .ok (.if_icmp .ge 84, 3) := by decide +kernel
theorem dX9_leastNode_12 : decode cX9_leastNode 12 = .ok (.aload_n 0, 1) := by decide +kernel
theorem dX9_leastNode_13 : decode cX9_leastNode 13 = .ok (.getfield 52, 3) := by decide +kernel
theorem dX9_leastNode_16 : decode cX9_leastNode 16 = .ok (.iload_n 2, 1) := by decide +kernel
theorem dX9_leastNode_17 : decode cX9_leastNode 17 = .ok (.baload, 1) := by decide +kernel
theorem dX9_leastNode_18 : decode cX9_leastNode 18 = .ok (.ifCond .eq 69, 3) := by decide +kernel
theorem dX9_leastNode_21 : decode cX9_leastNode 21 = .ok (.iload_n 1, 1) := by decide +kernel
theorem dX9_leastNode_22 : decode cX9_leastNode 22 = .ok (.iconst (-1), 1) := by decide +kernel
theorem dX9_leastNode_23 : decode cX9_leastNode 23 = .ok (.if_icmp .eq 48, 3) := by decide +kernel
theorem dX9_leastNode_26 : decode cX9_leastNode 26 = .ok (.aload_n 0, 1) := by decide +kernel
theorem dX9_leastNode_27 : decode cX9_leastNode 27 = .ok (.getfield 46, 3) := by decide +kernel
theorem dX9_leastNode_30 : decode cX9_leastNode 30 = .ok (.iload_n 2, 1) := by decide +kernel
theorem dX9_leastNode_31 : decode cX9_leastNode 31 = .ok (.iaload, 1) := by decide +kernel
theorem dX9_leastNode_32 : decode cX9_leastNode 32 = .ok (.aload_n 0, 1) := by decide +kernel
theorem dX9_leastNode_33 : decode cX9_leastNode 33 = .ok (.getfield 46, 3) := by decide +kernel
theorem dX9_leastNode_36 : decode cX9_leastNode 36 = .ok (.iload_n 1, 1) := by decide +kernel
theorem dX9_leastNode_37 : decode cX9_leastNode 37 = .ok (.iaload, 1) := by decide +kernel
theorem dX9_leastNode_38 : decode cX9_leastNode 38 = .ok (.if_icmp .lt 33, 3) := by decide +kernel
theorem dX9_leastNode_41 : decode cX9_leastNode 41 = .ok (.aload_n 0, 1) := by decide +kernel
theorem dX9_leastNode_42 : decode cX9_leastNode 42 = .ok (.getfield 46, 3) := by decide +kernel
theorem dX9_leastNode_45 : decode cX9_leastNode 45 = .ok (.iload_n 2, 1) := by decide +kernel
theorem dX9_leastNode_46 : decode cX9_leastNode 46 = .ok (.iaload, 1) := by decide +kernel
theorem dX9_leastNode_47 : decode cX9_leastNode 47 = .ok (.aload_n 0, 1) := by decide +kernel
theorem dX9_leastNode_48 : decode cX9_leastNode 48 = .ok (.getfield 46, 3) := by decide +kernel
theorem dX9_leastNode_51 : decode cX9_leastNode 51 = .ok (.iload_n 1, 1) := by decide +kernel
theorem dX9_leastNode_52 : decode cX9_leastNode 52 = .ok (.iaload, 1) := by decide +kernel
theorem dX9_leastNode_53 : decode cX9_leastNode 53 = .ok (.if_icmp .ne 22, 3) := by decide +kernel
theorem dX9_leastNode_56 : decode cX9_leastNode 56 = .ok (.aload_n 0, 1) := by decide +kernel
theorem dX9_leastNode_57 : decode cX9_leastNode 57 = .ok (.getfield 49, 3) := by decide +kernel
theorem dX9_leastNode_60 : decode cX9_leastNode 60 = .ok (.iload_n 2, 1) := by decide +kernel
theorem dX9_leastNode_61 : decode cX9_leastNode 61 = .ok (.iaload, 1) := by decide +kernel
theorem dX9_leastNode_62 : decode cX9_leastNode 62 = .ok (.aload_n 0, 1) := by decide +kernel
theorem dX9_leastNode_63 : decode cX9_leastNode 63 = .ok (.getfield 49, 3) := by decide +kernel
theorem dX9_leastNode_66 : decode cX9_leastNode 66 = .ok (.iload_n 1, 1) := by decide +kernel
theorem dX9_leastNode_67 : decode cX9_leastNode 67 = .ok (.iaload, 1) := by decide +kernel
theorem dX9_leastNode_68 : decode cX9_leastNode 68 = .ok (.if_icmp .le 7, 3) := by decide +kernel
theorem dX9_leastNode_71 : decode cX9_leastNode 71 = .ok (.iconst 1, 1) := by decide +kernel
theorem dX9_leastNode_72 : decode cX9_leastNode 72 = .ok (.goto 4, 3) := by decide +kernel
theorem dX9_leastNode_75 : decode cX9_leastNode 75 = .ok (.iconst 0, 1) := by decide +kernel
theorem dX9_leastNode_76 : decode cX9_leastNode 76 = .ok (.istore_n 3, 1) := by decide +kernel
theorem dX9_leastNode_77 : decode cX9_leastNode 77 = .ok (.iload_n 3, 1) := by decide +kernel
theorem dX9_leastNode_78 : decode cX9_leastNode 78 = .ok (.ifCond .eq 7, 3) := by decide +kernel
theorem dX9_leastNode_81 : decode cX9_leastNode 81 = .ok (.iload_n 2, 1) := by decide +kernel
theorem dX9_leastNode_82 : decode cX9_leastNode 82 = .ok (.goto 4, 3) := by decide +kernel
theorem dX9_leastNode_85 : decode cX9_leastNode 85 = .ok (.iload_n 1, 1) := by decide +kernel
theorem dX9_leastNode_86 : decode cX9_leastNode 86 = .ok (.istore_n 1, 1) := by decide +kernel
theorem dX9_leastNode_87 : decode cX9_leastNode 87 = .ok (.iinc 2 1, 3) := by decide +kernel
theorem dX9_leastNode_90 : decode cX9_leastNode 90 = .ok (.goto (-86), 3) := by decide +kernel
theorem dX9_leastNode_93 : decode cX9_leastNode 93 = .ok (.iload_n 1, 1) := by decide +kernel
theorem dX9_leastNode_94 : decode cX9_leastNode 94 = .ok (.ireturn, 1) := by decide +kernel
theorem dX9_searchesBest_0 : decode cX9_searchesBest 0 = .ok (.aload_n 0, 1) := by decide +kernel
theorem dX9_searchesBest_1 : decode cX9_searchesBest 1 = .ok (.iconst 1, 1) := by decide +kernel
theorem dX9_searchesBest_2 : decode cX9_searchesBest 2 = .ok (.invokevirtual 240, 3) := by decide +kernel
theorem dX9_searchesBest_5 : decode cX9_searchesBest 5 = .ok (.iconst 1, 1) := by decide +kernel
theorem dX9_searchesBest_6 : decode cX9_searchesBest 6 = .ok (.istore_n 2, 1) := by decide +kernel
theorem dX9_searchesBest_7 : decode cX9_searchesBest 7 = .ok (.aload_n 0, 1) := by decide +kernel
theorem dX9_searchesBest_8 : decode cX9_searchesBest 8 = .ok (.getfield 56, 3) := by decide +kernel
theorem dX9_searchesBest_11 : decode cX9_searchesBest 11 = .ok (.iconst 5, 1) := by decide +kernel
theorem dX9_searchesBest_12 : decode cX9_searchesBest 12 = .ok (.iconst 1, 1) := by decide +kernel
theorem dX9_searchesBest_13 : decode cX9_searchesBest 13 = .ok (.iastore, 1) := by decide +kernel
theorem dX9_searchesBest_14 : decode cX9_searchesBest 14 = .ok (.iload_n 2, 1) := by decide +kernel
theorem dX9_searchesBest_15 : decode cX9_searchesBest 15 = .ok (.ifCond .le 86, 3) := by decide +kernel
theorem dX9_searchesBest_18 : decode cX9_searchesBest 18 = .ok (.aload_n 0, 1) := by decide +kernel
theorem dX9_searchesBest_19 : decode cX9_searchesBest 19 = .ok (.invokevirtual 244, 3) := by decide +kernel
theorem dX9_searchesBest_22 : decode cX9_searchesBest 22 = .ok (.istore_n 3, 1) := by decide +kernel
theorem dX9_searchesBest_23 : decode cX9_searchesBest 23 = .ok (.aload_n 0, 1) := by decide +kernel
theorem dX9_searchesBest_24 : decode cX9_searchesBest 24 = .ok (.getfield 52, 3) := by decide +kernel
theorem dX9_searchesBest_27 : decode cX9_searchesBest 27 = .ok (.iload_n 3, 1) := by decide +kernel
theorem dX9_searchesBest_28 : decode cX9_searchesBest 28 = .ok (.iconst 0, 1) := by decide +kernel
theorem dX9_searchesBest_29 : decode cX9_searchesBest 29 = .ok (.bastore, 1) := by decide +kernel
theorem dX9_searchesBest_30 : decode cX9_searchesBest 30 = .ok (.aload_n 0, 1) := by decide +kernel
theorem dX9_searchesBest_31 : decode cX9_searchesBest 31 = .ok (.getfield 233, 3) := by decide +kernel
theorem dX9_searchesBest_34 : decode cX9_searchesBest 34 = .ok (.istore 4, 2) := by decide +kernel
theorem dX9_searchesBest_36 : decode cX9_searchesBest 36 = .ok (.aload_n 0, 1) := by decide +kernel
theorem dX9_searchesBest_37 : decode cX9_searchesBest 37 = .ok (.iload_n 3, 1) := by decide +kernel
theorem dX9_searchesBest_38 : decode cX9_searchesBest 38 = .ok (.invokevirtual 247, 3) := by decide +kernel
theorem dX9_searchesBest_41 : decode cX9_searchesBest 41 = .ok (.aload_n 0, 1) := by decide +kernel
theorem dX9_searchesBest_42 : decode cX9_searchesBest 42 = .ok (.aload_n 0, 1) := by decide +kernel
theorem dX9_searchesBest_43 : decode cX9_searchesBest 43 = .ok (.getfield 46, 3) := by decide +kernel
theorem dX9_searchesBest_46 : decode cX9_searchesBest 46 = .ok (.iload_n 3, 1) := by decide +kernel
theorem dX9_searchesBest_47 : decode cX9_searchesBest 47 = .ok (.iaload, 1) := by decide +kernel
theorem dX9_searchesBest_48 : decode cX9_searchesBest 48 = .ok (.invokevirtual 250, 3) := by decide +kernel
theorem dX9_searchesBest_51 : decode cX9_searchesBest 51 = .ok (.ifCond .eq 9, 3) := by decide +kernel
theorem dX9_searchesBest_54 : decode cX9_searchesBest 54 = .ok (.aload_n 0, 1) := by decide +kernel
theorem dX9_searchesBest_55 : decode cX9_searchesBest 55 = .ok (.iload_n 1, 1) := by decide +kernel
theorem dX9_searchesBest_56 : decode cX9_searchesBest 56 = .ok (.iconst 0, 1) := by decide +kernel
theorem dX9_searchesBest_57 : decode cX9_searchesBest 57 = .ok (.invokevirtual 253, 3) := by decide +kernel
theorem dX9_searchesBest_60 : decode cX9_searchesBest 60 = .ok (.iload_n 2, 1) := by decide +kernel
theorem dX9_searchesBest_61 : decode cX9_searchesBest 61 = .ok (.aload_n 0, 1) := by decide +kernel
theorem dX9_searchesBest_62 : decode cX9_searchesBest 62 = .ok (.getfield 233, 3) := by decide +kernel
theorem dX9_searchesBest_65 : decode cX9_searchesBest 65 = .ok (.iload 4, 2) := by decide +kernel
theorem dX9_searchesBest_67 : decode cX9_searchesBest 67 = .ok (.isub, 1) := by decide +kernel
theorem dX9_searchesBest_68 : decode cX9_searchesBest 68 = .ok (.iconst 1, 1) := by decide +kernel
theorem dX9_searchesBest_69 : decode cX9_searchesBest 69 = .ok (.isub, 1) := by decide +kernel
theorem dX9_searchesBest_70 : decode cX9_searchesBest 70 = .ok (.iadd, 1) := by decide +kernel
theorem dX9_searchesBest_71 : decode cX9_searchesBest 71 = .ok (.istore_n 2, 1) := by decide +kernel
theorem dX9_searchesBest_72 : decode cX9_searchesBest 72 = .ok (.aload_n 0, 1) := by decide +kernel
theorem dX9_searchesBest_73 : decode cX9_searchesBest 73 = .ok (.getfield 56, 3) := by decide +kernel
theorem dX9_searchesBest_76 : decode cX9_searchesBest 76 = .ok (.iconst 5, 1) := by decide +kernel
theorem dX9_searchesBest_77 : decode cX9_searchesBest 77 = .ok (.iload_n 2, 1) := by decide +kernel
theorem dX9_searchesBest_78 : decode cX9_searchesBest 78 = .ok (.aload_n 0, 1) := by decide +kernel
theorem dX9_searchesBest_79 : decode cX9_searchesBest 79 = .ok (.getfield 56, 3) := by decide +kernel
theorem dX9_searchesBest_82 : decode cX9_searchesBest 82 = .ok (.iconst 5, 1) := by decide +kernel
theorem dX9_searchesBest_83 : decode cX9_searchesBest 83 = .ok (.iaload, 1) := by decide +kernel
theorem dX9_searchesBest_84 : decode cX9_searchesBest 84 = .ok (.if_icmp .le 7, 3) := by decide +kernel
theorem dX9_searchesBest_87 : decode cX9_searchesBest 87 = .ok (.iload_n 2, 1) := by decide +kernel
theorem dX9_searchesBest_88 : decode cX9_searchesBest 88 = .ok (.goto 9, 3) := by decide +kernel
theorem dX9_searchesBest_91 : decode cX9_searchesBest 91 = .ok (.aload_n 0, 1) := by decide +kernel
theorem dX9_searchesBest_92 : decode cX9_searchesBest 92 = .ok (.getfield 56, 3) := by decide +kernel
theorem dX9_searchesBest_95 : decode cX9_searchesBest 95 = .ok (.iconst 5, 1) := by decide +kernel
theorem dX9_searchesBest_96 : decode cX9_searchesBest 96 = .ok (.iaload, 1) := by decide +kernel
theorem dX9_searchesBest_97 : decode cX9_searchesBest 97 = .ok (.iastore, 1) := by decide +kernel
theorem dX9_searchesBest_98 : decode cX9_searchesBest 98 = .ok (.goto (-84), 3) := by decide +kernel
theorem dX9_searchesBest_101 : decode cX9_searchesBest 101 = .ok (.return_, 1) := by decide +kernel
theorem dX9_searchesDeep_0 : decode cX9_searchesDeep 0 = .ok (.aload_n 0, 1) := by decide +kernel
theorem dX9_searchesDeep_1 : decode cX9_searchesDeep 1 = .ok (.iconst 0, 1) := by decide +kernel
theorem dX9_searchesDeep_2 : decode cX9_searchesDeep 2 = .ok (.invokevirtual 240, 3) := by decide +kernel
theorem dX9_searchesDeep_5 : decode cX9_searchesDeep 5 = .ok (.aload_n 0, 1) := by decide +kernel
theorem dX9_searchesDeep_6 : decode cX9_searchesDeep 6 = .ok (.getfield 233, 3) := by decide +kernel
theorem dX9_searchesDeep_9 : decode cX9_searchesDeep 9 = .ok (.ifCond .le 41, 3) := by decide +kernel
theorem dX9_searchesDeep_12 : decode cX9_searchesDeep 12 = .ok (.aload_n 0, 1) := by decide +kernel
theorem dX9_searchesDeep_13 : decode cX9_searchesDeep 13 = .ok (.dup, 1) := by decide +kernel
theorem dX9_searchesDeep_14 : decode cX9_searchesDeep 14 = .ok (.getfield 233, 3) := by decide +kernel
theorem dX9_searchesDeep_17 : decode cX9_searchesDeep 17 = .ok (.iconst 1, 1) := by decide +kernel
theorem dX9_searchesDeep_18 : decode cX9_searchesDeep 18 = .ok (.isub, 1) := by decide +kernel
theorem dX9_searchesDeep_19 : decode cX9_searchesDeep 19 = .ok (.putfield 233, 3) := by decide +kernel
theorem dX9_searchesDeep_22 : decode cX9_searchesDeep 22 = .ok (.aload_n 0, 1) := by decide +kernel
theorem dX9_searchesDeep_23 : decode cX9_searchesDeep 23 = .ok (.aload_n 0, 1) := by decide +kernel
theorem dX9_searchesDeep_24 : decode cX9_searchesDeep 24 = .ok (.getfield 233, 3) := by decide +kernel
theorem dX9_searchesDeep_27 : decode cX9_searchesDeep 27 = .ok (.invokevirtual 247, 3) := by decide +kernel
theorem dX9_searchesDeep_30 : decode cX9_searchesDeep 30 = .ok (.aload_n 0, 1) := by decide +kernel
theorem dX9_searchesDeep_31 : decode cX9_searchesDeep 31 = .ok (.aload_n 0, 1) := by decide +kernel
theorem dX9_searchesDeep_32 : decode cX9_searchesDeep 32 = .ok (.invokevirtual 206, 3) := by decide +kernel
theorem dX9_searchesDeep_35 : decode cX9_searchesDeep 35 = .ok (.invokevirtual 250, 3) := by decide +kernel
theorem dX9_searchesDeep_38 : decode cX9_searchesDeep 38 = .ok (.ifCond .eq (-33), 3) := by decide +kernel
theorem dX9_searchesDeep_41 : decode cX9_searchesDeep 41 = .ok (.aload_n 0, 1) := by decide +kernel
theorem dX9_searchesDeep_42 : decode cX9_searchesDeep 42 = .ok (.iload_n 1, 1) := by decide +kernel
theorem dX9_searchesDeep_43 : decode cX9_searchesDeep 43 = .ok (.iconst 1, 1) := by decide +kernel
theorem dX9_searchesDeep_44 : decode cX9_searchesDeep 44 = .ok (.invokevirtual 253, 3) := by decide +kernel
theorem dX9_searchesDeep_47 : decode cX9_searchesDeep 47 = .ok (.goto (-42), 3) := by decide +kernel
theorem dX9_searchesDeep_50 : decode cX9_searchesDeep 50 = .ok (.return_, 1) := by decide +kernel
theorem dX9_search_0 : decode cX9_search 0 = .ok (.iconst 0, 1) := by decide +kernel
theorem dX9_search_1 : decode cX9_search 1 = .ok (.istore_n 3, 1) := by decide +kernel
theorem dX9_search_2 : decode cX9_search 2 = .ok (.iload_n 3, 1) := by decide +kernel
theorem dX9_search_3 : decode cX9_search 3 = .ok (.bipush 7, 2) := by decide +kernel
theorem dX9_search_5 : decode cX9_search 5 = .ok (.if_icmp .ge 23, 3) := by decide +kernel
theorem dX9_search_8 : decode cX9_search 8 = .ok (.aload_n 0, 1) := by decide +kernel
theorem dX9_search_9 : decode cX9_search 9 = .ok (.getfield 56, 3) := by decide +kernel
theorem dX9_search_12 : decode cX9_search 12 = .ok (.iload_n 3, 1) := by decide +kernel
theorem dX9_search_13 : decode cX9_search 13 = .ok (.iconst 0, 1) := by decide +kernel
theorem dX9_search_14 : decode cX9_search 14 = .ok (.iastore, 1) := by decide +kernel
theorem dX9_search_15 : decode cX9_search 15 = .ok (.aload_n 0, 1) := by decide +kernel
theorem dX9_search_16 : decode cX9_search 16 = .ok (.getfield 59, 3) := by decide +kernel
theorem dX9_search_19 : decode cX9_search 19 = .ok (.iload_n 3, 1) := by decide +kernel
theorem dX9_search_20 : decode cX9_search 20 = .ok (.iconst 0, 1) := by decide +kernel
theorem dX9_search_21 : decode cX9_search 21 = .ok (.iastore, 1) := by decide +kernel
theorem dX9_search_22 : decode cX9_search 22 = .ok (.iinc 3 1, 3) := by decide +kernel
theorem dX9_search_25 : decode cX9_search 25 = .ok (.goto (-23), 3) := by decide +kernel
theorem dX9_search_28 : decode cX9_search 28 = .ok (.aload_n 0, 1) := by decide +kernel
theorem dX9_search_29 : decode cX9_search 29 = .ok (.getfield 56, 3) := by decide +kernel
theorem dX9_search_32 : decode cX9_search 32 = .ok (.iconst 0, 1) := by decide +kernel
theorem dX9_search_33 : decode cX9_search 33 = .ok (.ldc 167, 2) := by decide +kernel
theorem dX9_search_35 : decode cX9_search 35 = .ok (.iastore, 1) := by decide +kernel
theorem dX9_search_36 : decode cX9_search 36 = .ok (.aload_n 0, 1) := by decide +kernel
theorem dX9_search_37 : decode cX9_search 37 = .ok (.getfield 56, 3) := by decide +kernel
theorem dX9_search_40 : decode cX9_search 40 = .ok (.bipush 6, 2) := by decide +kernel
theorem dX9_search_42 : decode cX9_search 42 = .ok (.aload_n 0, 1) := by decide +kernel
theorem dX9_search_43 : decode cX9_search 43 = .ok (.getfield 7, 3) := by decide +kernel
theorem dX9_search_46 : decode cX9_search 46 = .ok (.iconst 0, 1) := by decide +kernel
theorem dX9_search_47 : decode cX9_search 47 = .ok (.iaload, 1) := by decide +kernel
theorem dX9_search_48 : decode cX9_search 48 = .ok (.iastore, 1) := by decide +kernel
theorem dX9_search_49 : decode cX9_search 49 = .ok (.aload_n 0, 1) := by decide +kernel
theorem dX9_search_50 : decode cX9_search 50 = .ok (.iconst 0, 1) := by decide +kernel
theorem dX9_search_51 : decode cX9_search 51 = .ok (.putfield 233, 3) := by decide +kernel
theorem dX9_search_54 : decode cX9_search 54 = .ok (.aload_n 0, 1) := by decide +kernel
theorem dX9_search_55 : decode cX9_search 55 = .ok (.invokevirtual 221, 3) := by decide +kernel
theorem dX9_search_58 : decode cX9_search 58 = .ok (.aload_n 0, 1) := by decide +kernel
theorem dX9_search_59 : decode cX9_search 59 = .ok (.invokevirtual 177, 3) := by decide +kernel
theorem dX9_search_62 : decode cX9_search 62 = .ok (.iload_n 1, 1) := by decide +kernel
theorem dX9_search_63 : decode cX9_search 63 = .ok (.ifCond .eq 11, 3) := by decide +kernel
theorem dX9_search_66 : decode cX9_search 66 = .ok (.aload_n 0, 1) := by decide +kernel
theorem dX9_search_67 : decode cX9_search 67 = .ok (.iload_n 2, 1) := by decide +kernel
theorem dX9_search_68 : decode cX9_search 68 = .ok (.invokevirtual 257, 3) := by decide +kernel
theorem dX9_search_71 : decode cX9_search 71 = .ok (.goto 8, 3) := by decide +kernel
theorem dX9_search_74 : decode cX9_search 74 = .ok (.aload_n 0, 1) := by decide +kernel
theorem dX9_search_75 : decode cX9_search 75 = .ok (.iload_n 2, 1) := by decide +kernel
theorem dX9_search_76 : decode cX9_search 76 = .ok (.invokevirtual 260, 3) := by decide +kernel
theorem dX9_search_79 : decode cX9_search 79 = .ok (.aload_n 0, 1) := by decide +kernel
theorem dX9_search_80 : decode cX9_search 80 = .ok (.aload_n 0, 1) := by decide +kernel
theorem dX9_search_81 : decode cX9_search 81 = .ok (.getfield 56, 3) := by decide +kernel
theorem dX9_search_84 : decode cX9_search 84 = .ok (.iconst 2, 1) := by decide +kernel
theorem dX9_search_85 : decode cX9_search 85 = .ok (.iaload, 1) := by decide +kernel
theorem dX9_search_86 : decode cX9_search 86 = .ok (.invokevirtual 82, 3) := by decide +kernel
theorem dX9_search_89 : decode cX9_search 89 = .ok (.ireturn, 1) := by decide +kernel
theorem dX9_result_0 : decode cX9_result 0 = .ok (.aload_n 0, 1) := by decide +kernel
theorem dX9_result_1 : decode cX9_result 1 = .ok (.getfield 56, 3) := by decide +kernel
theorem dX9_result_4 : decode cX9_result 4 = .ok (.bipush 6, 2) := by decide +kernel
theorem dX9_result_6 : decode cX9_result 6 = .ok (.iaload, 1) := by decide +kernel
theorem dX9_result_7 : decode cX9_result 7 = .ok (.iconst (-1), 1) := by decide +kernel
theorem dX9_result_8 : decode cX9_result 8 = .ok (.if_icmp .ne 7, 3) := by decide +kernel
theorem dX9_result_11 : decode cX9_result 11 = .ok (.iconst (-1), 1) := by decide +kernel
theorem dX9_result_12 : decode cX9_result 12 = .ok (.goto 9, 3) := by decide +kernel
theorem dX9_result_15 : decode cX9_result 15 = .ok (.aload_n 0, 1) := by decide +kernel
theorem dX9_result_16 : decode cX9_result 16 = .ok (.getfield 56, 3) := by decide +kernel
theorem dX9_result_19 : decode cX9_result 19 = .ok (.iload_n 1, 1) := by decide +kernel
theorem dX9_result_20 : decode cX9_result 20 = .ok (.iaload, 1) := by decide +kernel
theorem dX9_result_21 : decode cX9_result 21 = .ok (.ireturn, 1) := by decide +kernel
theorem dX9_found_0 : decode cX9_found 0 = .ok (.iload_n 1, 1) := by decide +kernel
theorem dX9_found_1 : decode cX9_found 1 = .ok (.iconst 0, 1) := by decide +kernel
theorem dX9_found_2 : decode cX9_found 2 = .ok (.bipush 6, 2) := by decide +kernel
theorem dX9_found_4 : decode cX9_found 4 = .ok (.invokestatic 86, 3) := by decide +kernel
theorem dX9_found_7 : decode cX9_found 7 = .ok (.ifCond .eq 15, 3) := by decide +kernel
theorem dX9_found_10 : decode cX9_found 10 = .ok (.aload_n 0, 1) := by decide +kernel
theorem dX9_found_11 : decode cX9_found 11 = .ok (.aload_n 0, 1) := by decide +kernel
theorem dX9_found_12 : decode cX9_found 12 = .ok (.iload_n 1, 1) := by decide +kernel
theorem dX9_found_13 : decode cX9_found 13 = .ok (.invokevirtual 263, 3) := by decide +kernel
theorem dX9_found_16 : decode cX9_found 16 = .ok (.invokevirtual 82, 3) := by decide +kernel
theorem dX9_found_19 : decode cX9_found 19 = .ok (.goto 8, 3) := by decide +kernel
theorem dX9_found_22 : decode cX9_found 22 = .ok (.aload_n 0, 1) := by decide +kernel
theorem dX9_found_23 : decode cX9_found 23 = .ok (.iconst 1, 1) := by decide +kernel
theorem dX9_found_24 : decode cX9_found 24 = .ok (.invokevirtual 94, 3) := by decide +kernel
theorem dX9_found_27 : decode cX9_found 27 = .ok (.ireturn, 1) := by decide +kernel
theorem dX9_nodes_0 : decode cX9_nodes 0 = .ok (.iload_n 1, 1) := by decide +kernel
theorem dX9_nodes_1 : decode cX9_nodes 1 = .ok (.iconst 0, 1) := by decide +kernel
theorem dX9_nodes_2 : decode cX9_nodes 2 = .ok (.bipush 6, 2) := by decide +kernel
theorem dX9_nodes_4 : decode cX9_nodes 4 = .ok (.invokestatic 86, 3) := by decide +kernel
theorem dX9_nodes_7 : decode cX9_nodes 7 = .ok (.ifCond .ne 9, 3) := by decide +kernel
theorem dX9_nodes_10 : decode cX9_nodes 10 = .ok (.aload_n 0, 1) := by decide +kernel
theorem dX9_nodes_11 : decode cX9_nodes 11 = .ok (.iconst 1, 1) := by decide +kernel
theorem dX9_nodes_12 : decode cX9_nodes 12 = .ok (.invokevirtual 94, 3) := by decide +kernel
theorem dX9_nodes_15 : decode cX9_nodes 15 = .ok (.ireturn, 1) := by decide +kernel
theorem dX9_nodes_16 : decode cX9_nodes 16 = .ok (.aload_n 0, 1) := by decide +kernel
theorem dX9_nodes_17 : decode cX9_nodes 17 = .ok (.aload_n 0, 1) := by decide +kernel
theorem dX9_nodes_18 : decode cX9_nodes 18 = .ok (.getfield 56, 3) := by decide +kernel
theorem dX9_nodes_21 : decode cX9_nodes 21 = .ok (.bipush 6, 2) := by decide +kernel
theorem dX9_nodes_23 : decode cX9_nodes 23 = .ok (.iaload, 1) := by decide +kernel
theorem dX9_nodes_24 : decode cX9_nodes 24 = .ok (.iconst (-1), 1) := by decide +kernel
theorem dX9_nodes_25 : decode cX9_nodes 25 = .ok (.if_icmp .ne 7, 3) := by decide +kernel
theorem dX9_nodes_28 : decode cX9_nodes 28 = .ok (.iconst (-1), 1) := by decide +kernel
theorem dX9_nodes_29 : decode cX9_nodes 29 = .ok (.goto 9, 3) := by decide +kernel
theorem dX9_nodes_32 : decode cX9_nodes 32 = .ok (.aload_n 0, 1) := by decide +kernel
theorem dX9_nodes_33 : decode cX9_nodes 33 = .ok (.getfield 59, 3) := by decide +kernel
theorem dX9_nodes_36 : decode cX9_nodes 36 = .ok (.iload_n 1, 1) := by decide +kernel
theorem dX9_nodes_37 : decode cX9_nodes 37 = .ok (.iaload, 1) := by decide +kernel
theorem dX9_nodes_38 : decode cX9_nodes 38 = .ok (.invokevirtual 82, 3) := by decide +kernel
theorem dX9_nodes_41 : decode cX9_nodes 41 = .ok (.ireturn, 1) := by decide +kernel
theorem dX9_type_0 : decode cX9_type 0 = .ok (.iload_n 1, 1) := by decide +kernel
theorem dX9_type_1 : decode cX9_type 1 = .ok (.bipush 32, 2) := by decide +kernel
theorem dX9_type_3 : decode cX9_type 3 = .ok (.bipush 126, 2) := by decide +kernel
theorem dX9_type_5 : decode cX9_type 5 = .ok (.invokestatic 86, 3) := by decide +kernel
theorem dX9_type_8 : decode cX9_type 8 = .ok (.ifCond .ne 9, 3) := by decide +kernel
theorem dX9_type_11 : decode cX9_type 11 = .ok (.aload_n 0, 1) := by decide +kernel
theorem dX9_type_12 : decode cX9_type 12 = .ok (.iconst 1, 1) := by decide +kernel
theorem dX9_type_13 : decode cX9_type 13 = .ok (.invokevirtual 94, 3) := by decide +kernel
theorem dX9_type_16 : decode cX9_type 16 = .ok (.ireturn, 1) := by decide +kernel
theorem dX9_type_17 : decode cX9_type 17 = .ok (.aload_n 0, 1) := by decide +kernel
theorem dX9_type_18 : decode cX9_type 18 = .ok (.getfield 266, 3) := by decide +kernel
theorem dX9_type_21 : decode cX9_type 21 = .ok (.bipush 120, 2) := by decide +kernel
theorem dX9_type_23 : decode cX9_type 23 = .ok (.if_icmp .ne 9, 3) := by decide +kernel
theorem dX9_type_26 : decode cX9_type 26 = .ok (.aload_n 0, 1) := by decide +kernel
theorem dX9_type_27 : decode cX9_type 27 = .ok (.iconst 2, 1) := by decide +kernel
theorem dX9_type_28 : decode cX9_type 28 = .ok (.invokevirtual 94, 3) := by decide +kernel
theorem dX9_type_31 : decode cX9_type 31 = .ok (.ireturn, 1) := by decide +kernel
theorem dX9_type_32 : decode cX9_type 32 = .ok (.aload_n 0, 1) := by decide +kernel
theorem dX9_type_33 : decode cX9_type 33 = .ok (.getfield 19, 3) := by decide +kernel
theorem dX9_type_36 : decode cX9_type 36 = .ok (.aload_n 0, 1) := by decide +kernel
theorem dX9_type_37 : decode cX9_type 37 = .ok (.getfield 266, 3) := by decide +kernel
theorem dX9_type_40 : decode cX9_type 40 = .ok (.iload_n 1, 1) := by decide +kernel
theorem dX9_type_41 : decode cX9_type 41 = .ok (.iastore, 1) := by decide +kernel
theorem dX9_type_42 : decode cX9_type 42 = .ok (.aload_n 0, 1) := by decide +kernel
theorem dX9_type_43 : decode cX9_type 43 = .ok (.dup, 1) := by decide +kernel
theorem dX9_type_44 : decode cX9_type 44 = .ok (.getfield 266, 3) := by decide +kernel
theorem dX9_type_47 : decode cX9_type 47 = .ok (.iconst 1, 1) := by decide +kernel
theorem dX9_type_48 : decode cX9_type 48 = .ok (.iadd, 1) := by decide +kernel
theorem dX9_type_49 : decode cX9_type 49 = .ok (.putfield 266, 3) := by decide +kernel
theorem dX9_type_52 : decode cX9_type 52 = .ok (.aload_n 0, 1) := by decide +kernel
theorem dX9_type_53 : decode cX9_type 53 = .ok (.aload_n 0, 1) := by decide +kernel
theorem dX9_type_54 : decode cX9_type 54 = .ok (.getfield 266, 3) := by decide +kernel
theorem dX9_type_57 : decode cX9_type 57 = .ok (.invokevirtual 82, 3) := by decide +kernel
theorem dX9_type_60 : decode cX9_type 60 = .ok (.ireturn, 1) := by decide +kernel
theorem dX9_clearText_0 : decode cX9_clearText 0 = .ok (.aload_n 0, 1) := by decide +kernel
theorem dX9_clearText_1 : decode cX9_clearText 1 = .ok (.getfield 266, 3) := by decide +kernel
theorem dX9_clearText_4 : decode cX9_clearText 4 = .ok (.istore_n 1, 1) := by decide +kernel
theorem dX9_clearText_5 : decode cX9_clearText 5 = .ok (.aload_n 0, 1) := by decide +kernel
theorem dX9_clearText_6 : decode cX9_clearText 6 = .ok (.iconst 0, 1) := by decide +kernel
theorem dX9_clearText_7 : decode cX9_clearText 7 = .ok (.putfield 266, 3) := by decide +kernel
theorem dX9_clearText_10 : decode cX9_clearText 10 = .ok (.aload_n 0, 1) := by decide +kernel
theorem dX9_clearText_11 : decode cX9_clearText 11 = .ok (.iload_n 1, 1) := by decide +kernel
theorem dX9_clearText_12 : decode cX9_clearText 12 = .ok (.invokevirtual 82, 3) := by decide +kernel
theorem dX9_clearText_15 : decode cX9_clearText 15 = .ok (.ireturn, 1) := by decide +kernel
theorem dX9_isAt_0 : decode cX9_isAt 0 = .ok (.aload_n 0, 1) := by decide +kernel
theorem dX9_isAt_1 : decode cX9_isAt 1 = .ok (.getfield 269, 3) := by decide +kernel
theorem dX9_isAt_4 : decode cX9_isAt 4 = .ok (.aload_n 0, 1) := by decide +kernel
theorem dX9_isAt_5 : decode cX9_isAt 5 = .ok (.getfield 266, 3) := by decide +kernel
theorem dX9_isAt_8 : decode cX9_isAt 8 = .ok (.if_icmp .ge 24, 3) := by decide +kernel
theorem dX9_isAt_11 : decode cX9_isAt 11 = .ok (.aload_n 0, 1) := by decide +kernel
theorem dX9_isAt_12 : decode cX9_isAt 12 = .ok (.getfield 19, 3) := by decide +kernel
theorem dX9_isAt_15 : decode cX9_isAt 15 = .ok (.aload_n 0, 1) := by decide +kernel
theorem dX9_isAt_16 : decode cX9_isAt 16 = .ok (.getfield 269, 3) := by decide +kernel
theorem dX9_isAt_19 : decode cX9_isAt 19 = .ok (.iaload, 1) := by decide +kernel
theorem dX9_isAt_20 : decode cX9_isAt 20 = .ok (.iload_n 1, 1) := by decide +kernel
theorem dX9_isAt_21 : decode cX9_isAt 21 = .ok (.iload_n 2, 1) := by decide +kernel
theorem dX9_isAt_22 : decode cX9_isAt 22 = .ok (.invokestatic 86, 3) := by decide +kernel
theorem dX9_isAt_25 : decode cX9_isAt 25 = .ok (.ifCond .eq 7, 3) := by decide +kernel
theorem dX9_isAt_28 : decode cX9_isAt 28 = .ok (.iconst 1, 1) := by decide +kernel
theorem dX9_isAt_29 : decode cX9_isAt 29 = .ok (.goto 4, 3) := by decide +kernel
theorem dX9_isAt_32 : decode cX9_isAt 32 = .ok (.iconst 0, 1) := by decide +kernel
theorem dX9_isAt_33 : decode cX9_isAt 33 = .ok (.ireturn, 1) := by decide +kernel
theorem dX9_skips_0 : decode cX9_skips 0 = .ok (.aload_n 0, 1) := by decide +kernel
theorem dX9_skips_1 : decode cX9_skips 1 = .ok (.getfield 269, 3) := by decide +kernel
theorem dX9_skips_4 : decode cX9_skips 4 = .ok (.istore_n 1, 1) := by decide +kernel
theorem dX9_skips_5 : decode cX9_skips 5 = .ok (.aload_n 0, 1) := by decide +kernel
theorem dX9_skips_6 : decode cX9_skips 6 = .ok (.bipush 32, 2) := by decide +kernel
theorem dX9_skips_8 : decode cX9_skips 8 = .ok (.bipush 32, 2) := by decide +kernel
theorem dX9_skips_10 : decode cX9_skips 10 = .ok (.invokevirtual 272, 3) := by decide +kernel
theorem dX9_skips_13 : decode cX9_skips 13 = .ok (.ifCond .eq 16, 3) := by decide +kernel
theorem dX9_skips_16 : decode cX9_skips 16 = .ok (.aload_n 0, 1) := by decide +kernel
theorem dX9_skips_17 : decode cX9_skips 17 = .ok (.dup, 1) := by decide +kernel
theorem dX9_skips_18 : decode cX9_skips 18 = .ok (.getfield 269, 3) := by decide +kernel
theorem dX9_skips_21 : decode cX9_skips 21 = .ok (.iconst 1, 1) := by decide +kernel
theorem dX9_skips_22 : decode cX9_skips 22 = .ok (.iadd, 1) := by decide +kernel
theorem dX9_skips_23 : decode cX9_skips 23 = .ok (.putfield 269, 3) := by decide +kernel
theorem dX9_skips_26 : decode cX9_skips 26 = .ok (.goto (-21), 3) := by decide +kernel
theorem dX9_skips_29 : decode cX9_skips 29 = .ok (.aload_n 0, 1) := by decide +kernel
theorem dX9_skips_30 : decode cX9_skips 30 = .ok (.getfield 269, 3) := by decide +kernel
theorem dX9_skips_33 : decode cX9_skips 33 = .ok (.iload_n 1, 1) := by decide +kernel
theorem dX9_skips_34 : decode cX9_skips 34 = .ok (.if_icmp .le 7, 3) := by decide +kernel
theorem dX9_skips_37 : decode cX9_skips 37 = .ok (.iconst 1, 1) := by decide +kernel
theorem dX9_skips_38 : decode cX9_skips 38 = .ok (.goto 4, 3) := by decide +kernel
theorem dX9_skips_41 : decode cX9_skips 41 = .ok (.iconst 0, 1) := by decide +kernel
theorem dX9_skips_42 : decode cX9_skips 42 = .ok (.ireturn, 1) := by decide +kernel
theorem dX9_isNumber_0 : decode cX9_isNumber 0 = .ok (.aload_n 0, 1) := by decide +kernel
theorem dX9_isNumber_1 : decode cX9_isNumber 1 = .ok (.getfield 269, 3) := by decide +kernel
theorem dX9_isNumber_4 : decode cX9_isNumber 4 = .ok (.istore_n 2, 1) := by decide +kernel
theorem dX9_isNumber_5 : decode cX9_isNumber 5 = .ok (.aload_n 0, 1) := by decide +kernel
theorem dX9_isNumber_6 : decode cX9_isNumber 6 = .ok (.getfield 68, 3) := by decide +kernel
theorem dX9_isNumber_9 : decode cX9_isNumber 9 = .ok (.iload_n 1, 1) := by decide +kernel
theorem dX9_isNumber_10 : decode cX9_isNumber 10 = .ok (.iconst 0, 1) := by decide +kernel
theorem dX9_isNumber_11 : decode cX9_isNumber 11 = .ok (.iastore, 1) := by decide +kernel
theorem dX9_isNumber_12 : decode cX9_isNumber 12 = .ok (.aload_n 0, 1) := by decide +kernel
theorem dX9_isNumber_13 : decode cX9_isNumber 13 = .ok (.bipush 48, 2) := by decide +kernel
theorem dX9_isNumber_15 : decode cX9_isNumber 15 = .ok (.bipush 57, 2) := by decide +kernel
theorem dX9_isNumber_17 : decode cX9_isNumber 17 = .ok (.invokevirtual 272, 3) := by decide +kernel
theorem dX9_isNumber_20 : decode cX9_isNumber 20 = .ok (.ifCond .eq 54, 3) := by decide +kernel
theorem dX9_isNumber_23 : decode cX9_isNumber 23 = .ok (.aload_n 0, 1) := by decide +kernel
theorem dX9_isNumber_24 : decode cX9_isNumber 24 = .ok (.getfield 269, 3) := by decide +kernel
theorem dX9_isNumber_27 : decode cX9_isNumber 27 = .ok (.iload_n 2, 1) := by decide +kernel
theorem dX9_isNumber_28 : decode cX9_isNumber 28 = .ok (.isub, 1) := by decide +kernel
theorem dX9_isNumber_29 : decode cX9_isNumber 29 = .ok (.iconst 2, 1) := by decide +kernel
theorem dX9_isNumber_30 : decode cX9_isNumber 30 = .ok (.if_icmp .ge 44, 3) := by decide +kernel
theorem dX9_isNumber_33 : decode cX9_isNumber 33 = .ok (.aload_n 0, 1) := by decide +kernel
theorem dX9_isNumber_34 : decode cX9_isNumber 34 = .ok (.getfield 68, 3) := by decide +kernel
theorem dX9_isNumber_37 : decode cX9_isNumber 37 = .ok (.iload_n 1, 1) := by decide +kernel
theorem dX9_isNumber_38 : decode cX9_isNumber 38 = .ok (.bipush 10, 2) := by decide +kernel
theorem dX9_isNumber_40 : decode cX9_isNumber 40 = .ok (.aload_n 0, 1) := by decide +kernel
theorem dX9_isNumber_41 : decode cX9_isNumber 41 = .ok (.getfield 68, 3) := by decide +kernel
theorem dX9_isNumber_44 : decode cX9_isNumber 44 = .ok (.iload_n 1, 1) := by decide +kernel
theorem dX9_isNumber_45 : decode cX9_isNumber 45 = .ok (.iaload, 1) := by decide +kernel
theorem dX9_isNumber_46 : decode cX9_isNumber 46 = .ok (.imul, 1) := by decide +kernel
theorem dX9_isNumber_47 : decode cX9_isNumber 47 = .ok (.aload_n 0, 1) := by decide +kernel
theorem dX9_isNumber_48 : decode cX9_isNumber 48 = .ok (.getfield 19, 3) := by decide +kernel
theorem dX9_isNumber_51 : decode cX9_isNumber 51 = .ok (.aload_n 0, 1) := by decide +kernel
theorem dX9_isNumber_52 : decode cX9_isNumber 52 = .ok (.getfield 269, 3) := by decide +kernel
theorem dX9_isNumber_55 : decode cX9_isNumber 55 = .ok (.iaload, 1) := by decide +kernel
theorem dX9_isNumber_56 : decode cX9_isNumber 56 = .ok (.iadd, 1) := by decide +kernel
theorem dX9_isNumber_57 : decode cX9_isNumber 57 = .ok (.bipush 48, 2) := by decide +kernel
theorem dX9_isNumber_59 : decode cX9_isNumber 59 = .ok (.isub, 1) := by decide +kernel
theorem dX9_isNumber_60 : decode cX9_isNumber 60 = .ok (.iastore, 1) := by decide +kernel
theorem dX9_isNumber_61 : decode cX9_isNumber 61 = .ok (.aload_n 0, 1) := by decide +kernel
theorem dX9_isNumber_62 : decode cX9_isNumber 62 = .ok (.dup, 1) := by decide +kernel
theorem dX9_isNumber_63 : decode cX9_isNumber 63 = .ok (.getfield 269, 3) := by decide +kernel
theorem dX9_isNumber_66 : decode cX9_isNumber 66 = .ok (.iconst 1, 1) := by decide +kernel
theorem dX9_isNumber_67 : decode cX9_isNumber 67 = .ok (.iadd, 1) := by decide +kernel
theorem dX9_isNumber_68 : decode cX9_isNumber 68 = .ok (.putfield 269, 3) := by decide +kernel
theorem dX9_isNumber_71 : decode cX9_isNumber 71 = .ok (.goto (-59), 3) := by decide +kernel
theorem dX9_isNumber_74 : decode cX9_isNumber 74 = .ok (.aload_n 0, 1) := by decide +kernel
theorem dX9_isNumber_75 : decode cX9_isNumber 75 = .ok (.getfield 269, 3) := by decide +kernel
theorem dX9_isNumber_78 : decode cX9_isNumber 78 = .ok (.iload_n 2, 1) := by decide +kernel
theorem dX9_isNumber_79 : decode cX9_isNumber 79 = .ok (.if_icmp .le 7, 3) := by decide +kernel
theorem dX9_isNumber_82 : decode cX9_isNumber 82 = .ok (.iconst 1, 1) := by decide +kernel
theorem dX9_isNumber_83 : decode cX9_isNumber 83 = .ok (.goto 4, 3) := by decide +kernel
theorem dX9_isNumber_86 : decode cX9_isNumber 86 = .ok (.iconst 0, 1) := by decide +kernel
theorem dX9_isNumber_87 : decode cX9_isNumber 87 = .ok (.ireturn, 1) := by decide +kernel
theorem dX9_isCommand_0 : decode cX9_isCommand 0 = .ok (.aload_n 0, 1) := by decide +kernel
theorem dX9_isCommand_1 : decode cX9_isCommand 1 = .ok (.aload_n 0, 1) := by decide +kernel
theorem dX9_isCommand_2 : decode cX9_isCommand 2 = .ok (.bipush 102, 2) := by decide +kernel
theorem dX9_isCommand_4 : decode cX9_isCommand 4 = .ok (.bipush 102, 2) := by decide +kernel
theorem dX9_isCommand_6 : decode cX9_isCommand 6 = .ok (.invokevirtual 272, 3) := by decide +kernel
theorem dX9_isCommand_9 : decode cX9_isCommand 9 = .ok (.ifCond .eq 7, 3) := by decide +kernel
theorem dX9_isCommand_12 : decode cX9_isCommand 12 = .ok (.iconst 0, 1) := by decide +kernel
theorem dX9_isCommand_13 : decode cX9_isCommand 13 = .ok (.goto 34, 3) := by decide +kernel
theorem dX9_isCommand_16 : decode cX9_isCommand 16 = .ok (.aload_n 0, 1) := by decide +kernel
theorem dX9_isCommand_17 : decode cX9_isCommand 17 = .ok (.bipush 100, 2) := by decide +kernel
theorem dX9_isCommand_19 : decode cX9_isCommand 19 = .ok (.bipush 100, 2) := by decide +kernel
theorem dX9_isCommand_21 : decode cX9_isCommand 21 = .ok (.invokevirtual 272, 3) := by decide +kernel
theorem dX9_isCommand_24 : decode cX9_isCommand 24 = .ok (.ifCond .eq 7, 3) := by decide +kernel
theorem dX9_isCommand_27 : decode cX9_isCommand 27 = .ok (.iconst 1, 1) := by decide +kernel
theorem dX9_isCommand_28 : decode cX9_isCommand 28 = .ok (.goto 19, 3) := by decide +kernel
theorem dX9_isCommand_31 : decode cX9_isCommand 31 = .ok (.aload_n 0, 1) := by decide +kernel
theorem dX9_isCommand_32 : decode cX9_isCommand 32 = .ok (.bipush 99, 2) := by decide +kernel
theorem dX9_isCommand_34 : decode cX9_isCommand 34 = .ok (.bipush 99, 2) := by decide +kernel
theorem dX9_isCommand_36 : decode cX9_isCommand 36 = .ok (.invokevirtual 272, 3) := by decide +kernel
theorem dX9_isCommand_39 : decode cX9_isCommand 39 = .ok (.ifCond .eq 7, 3) := by decide +kernel
theorem dX9_isCommand_42 : decode cX9_isCommand 42 = .ok (.iconst 2, 1) := by decide +kernel
theorem dX9_isCommand_43 : decode cX9_isCommand 43 = .ok (.goto 4, 3) := by decide +kernel
theorem dX9_isCommand_46 : decode cX9_isCommand 46 = .ok (.iconst (-1), 1) := by decide +kernel
theorem dX9_isCommand_47 : decode cX9_isCommand 47 = .ok (.putfield 275, 3) := by decide +kernel
theorem dX9_isCommand_50 : decode cX9_isCommand 50 = .ok (.aload_n 0, 1) := by decide +kernel
theorem dX9_isCommand_51 : decode cX9_isCommand 51 = .ok (.getfield 275, 3) := by decide +kernel
theorem dX9_isCommand_54 : decode cX9_isCommand 54 = .ok (.iconst (-1), 1) := by decide +kernel
theorem dX9_isCommand_55 : decode cX9_isCommand 55 = .ok (.if_icmp .ne 5, 3) := by decide +kernel
theorem dX9_isCommand_58 : decode cX9_isCommand 58 = .ok (.iconst 0, 1) := by decide +kernel
theorem dX9_isCommand_59 : decode cX9_isCommand 59 = .ok (.ireturn, 1) := by decide +kernel
theorem dX9_isCommand_60 : decode cX9_isCommand 60 = .ok (.aload_n 0, 1) := by decide +kernel
theorem dX9_isCommand_61 : decode cX9_isCommand 61 = .ok (.dup, 1) := by decide +kernel
theorem dX9_isCommand_62 : decode cX9_isCommand 62 = .ok (.getfield 269, 3) := by decide +kernel
theorem dX9_isCommand_65 : decode cX9_isCommand 65 = .ok (.iconst 1, 1) := by decide +kernel
theorem dX9_isCommand_66 : decode cX9_isCommand 66 = .ok (.iadd, 1) := by decide +kernel
theorem dX9_isCommand_67 : decode cX9_isCommand 67 = .ok (.putfield 269, 3) := by decide +kernel
theorem dX9_isCommand_70 : decode cX9_isCommand 70 = .ok (.aload_n 0, 1) := by decide +kernel
theorem dX9_isCommand_71 : decode cX9_isCommand 71 = .ok (.invokevirtual 278, 3) := by decide +kernel
theorem dX9_isCommand_74 : decode cX9_isCommand 74 = .ok (.istore_n 1, 1) := by decide +kernel
theorem dX9_isCommand_75 : decode cX9_isCommand 75 = .ok (.iconst 0, 1) := by decide +kernel
theorem dX9_isCommand_76 : decode cX9_isCommand 76 = .ok (.istore_n 2, 1) := by decide +kernel
theorem dX9_isCommand_77 : decode cX9_isCommand 77 = .ok (.iload_n 2, 1) := by decide +kernel
theorem dX9_isCommand_78 : decode cX9_isCommand 78 = .ok (.iconst 3, 1) := by decide +kernel
theorem dX9_isCommand_79 : decode cX9_isCommand 79 = .ok (.if_icmp .ge 30, 3) := by decide +kernel
theorem dX9_isCommand_82 : decode cX9_isCommand 82 = .ok (.iload_n 2, 1) := by decide +kernel
theorem dX9_isCommand_83 : decode cX9_isCommand 83 = .ok (.ifCond .le 10, 3) := by decide +kernel
theorem dX9_isCommand_86 : decode cX9_isCommand 86 = .ok (.aload_n 0, 1) := by decide +kernel
theorem dX9_isCommand_87 : decode cX9_isCommand 87 = .ok (.invokevirtual 278, 3) := by decide +kernel
theorem dX9_isCommand_90 : decode cX9_isCommand 90 = .ok (.ifCond .eq 11, 3) := by decide +kernel
theorem dX9_isCommand_93 : decode cX9_isCommand 93 = .ok (.aload_n 0, 1) := by decide +kernel
theorem dX9_isCommand_94 : decode cX9_isCommand 94 = .ok (.iload_n 2, 1) := by decide +kernel
theorem dX9_isCommand_95 : decode cX9_isCommand 95 = .ok (.invokevirtual 281, 3) := by decide +kernel
theorem dX9_isCommand_98 : decode cX9_isCommand 98 = .ok (.ifCond .ne 5, 3) := by decide +kernel
theorem dX9_isCommand_101 : decode cX9_isCommand 101 = .ok (.iconst 0, 1) := by decide +kernel
theorem dX9_isCommand_102 : decode cX9_isCommand 102 = .ok (.ireturn, 1) := by decide +kernel
theorem dX9_isCommand_103 : decode cX9_isCommand 103 = .ok (.iinc 2 1, 3) := by decide +kernel
theorem dX9_isCommand_106 : decode cX9_isCommand 106 = .ok (.goto (-29), 3) := by decide +kernel
theorem dX9_isCommand_109 : decode cX9_isCommand 109 = .ok (.aload_n 0, 1) := by decide +kernel
theorem dX9_isCommand_110 : decode cX9_isCommand 110 = .ok (.invokevirtual 278, 3) := by decide +kernel
theorem dX9_isCommand_113 : decode cX9_isCommand 113 = .ok (.istore_n 1, 1) := by decide +kernel
theorem dX9_isCommand_114 : decode cX9_isCommand 114 = .ok (.aload_n 0, 1) := by decide +kernel
theorem dX9_isCommand_115 : decode cX9_isCommand 115 = .ok (.bipush 59, 2) := by decide +kernel
theorem dX9_isCommand_117 : decode cX9_isCommand 117 = .ok (.bipush 59, 2) := by decide +kernel
theorem dX9_isCommand_119 : decode cX9_isCommand 119 = .ok (.invokevirtual 272, 3) := by decide +kernel
theorem dX9_isCommand_122 : decode cX9_isCommand 122 = .ok (.ifCond .ne 5, 3) := by decide +kernel
theorem dX9_isCommand_125 : decode cX9_isCommand 125 = .ok (.iconst 0, 1) := by decide +kernel
theorem dX9_isCommand_126 : decode cX9_isCommand 126 = .ok (.ireturn, 1) := by decide +kernel
theorem dX9_isCommand_127 : decode cX9_isCommand 127 = .ok (.aload_n 0, 1) := by decide +kernel
theorem dX9_isCommand_128 : decode cX9_isCommand 128 = .ok (.dup, 1) := by decide +kernel
theorem dX9_isCommand_129 : decode cX9_isCommand 129 = .ok (.getfield 269, 3) := by decide +kernel
theorem dX9_isCommand_132 : decode cX9_isCommand 132 = .ok (.iconst 1, 1) := by decide +kernel
theorem dX9_isCommand_133 : decode cX9_isCommand 133 = .ok (.iadd, 1) := by decide +kernel
theorem dX9_isCommand_134 : decode cX9_isCommand 134 = .ok (.putfield 269, 3) := by decide +kernel
theorem dX9_isCommand_137 : decode cX9_isCommand 137 = .ok (.iconst 1, 1) := by decide +kernel
theorem dX9_isCommand_138 : decode cX9_isCommand 138 = .ok (.ireturn, 1) := by decide +kernel
theorem dX9_faultOf_0 : decode cX9_faultOf 0 = .ok (.aload_n 0, 1) := by decide +kernel
theorem dX9_faultOf_1 : decode cX9_faultOf 1 = .ok (.iconst 0, 1) := by decide +kernel
theorem dX9_faultOf_2 : decode cX9_faultOf 2 = .ok (.putfield 269, 3) := by decide +kernel
theorem dX9_faultOf_5 : decode cX9_faultOf 5 = .ok (.aload_n 0, 1) := by decide +kernel
theorem dX9_faultOf_6 : decode cX9_faultOf 6 = .ok (.invokevirtual 278, 3) := by decide +kernel
theorem dX9_faultOf_9 : decode cX9_faultOf 9 = .ok (.istore_n 1, 1) := by decide +kernel
theorem dX9_faultOf_10 : decode cX9_faultOf 10 = .ok (.aload_n 0, 1) := by decide +kernel
theorem dX9_faultOf_11 : decode cX9_faultOf 11 = .ok (.getfield 269, 3) := by decide +kernel
theorem dX9_faultOf_14 : decode cX9_faultOf 14 = .ok (.aload_n 0, 1) := by decide +kernel
theorem dX9_faultOf_15 : decode cX9_faultOf 15 = .ok (.getfield 266, 3) := by decide +kernel
theorem dX9_faultOf_18 : decode cX9_faultOf 18 = .ok (.if_icmp .ge 23, 3) := by decide +kernel
theorem dX9_faultOf_21 : decode cX9_faultOf 21 = .ok (.aload_n 0, 1) := by decide +kernel
theorem dX9_faultOf_22 : decode cX9_faultOf 22 = .ok (.invokevirtual 284, 3) := by decide +kernel
theorem dX9_faultOf_25 : decode cX9_faultOf 25 = .ok (.ifCond .ne 8, 3) := by decide +kernel
theorem dX9_faultOf_28 : decode cX9_faultOf 28 = .ok (.aload_n 0, 1) := by decide +kernel
theorem dX9_faultOf_29 : decode cX9_faultOf 29 = .ok (.getfield 269, 3) := by decide +kernel
theorem dX9_faultOf_32 : decode cX9_faultOf 32 = .ok (.ireturn, 1) := by decide +kernel
theorem dX9_faultOf_33 : decode cX9_faultOf 33 = .ok (.aload_n 0, 1) := by decide +kernel
theorem dX9_faultOf_34 : decode cX9_faultOf 34 = .ok (.invokevirtual 278, 3) := by decide +kernel
theorem dX9_faultOf_37 : decode cX9_faultOf 37 = .ok (.istore_n 1, 1) := by decide +kernel
theorem dX9_faultOf_38 : decode cX9_faultOf 38 = .ok (.goto (-28), 3) := by decide +kernel
theorem dX9_faultOf_41 : decode cX9_faultOf 41 = .ok (.iconst (-1), 1) := by decide +kernel
theorem dX9_faultOf_42 : decode cX9_faultOf 42 = .ok (.ireturn, 1) := by decide +kernel
theorem dX9_fault_0 : decode cX9_fault 0 = .ok (.aload_n 0, 1) := by decide +kernel
theorem dX9_fault_1 : decode cX9_fault 1 = .ok (.aload_n 0, 1) := by decide +kernel
theorem dX9_fault_2 : decode cX9_fault 2 = .ok (.invokevirtual 287, 3) := by decide +kernel
theorem dX9_fault_5 : decode cX9_fault 5 = .ok (.invokevirtual 82, 3) := by decide +kernel
theorem dX9_fault_8 : decode cX9_fault 8 = .ok (.ireturn, 1) := by decide +kernel
theorem dX9_run_0 : decode cX9_run 0 = .ok (.aload_n 0, 1) := by decide +kernel
theorem dX9_run_1 : decode cX9_run 1 = .ok (.invokevirtual 287, 3) := by decide +kernel
theorem dX9_run_4 : decode cX9_run 4 = .ok (.iconst (-1), 1) := by decide +kernel
theorem dX9_run_5 : decode cX9_run 5 = .ok (.if_icmp .eq 9, 3) := by decide +kernel
theorem dX9_run_8 : decode cX9_run 8 = .ok (.aload_n 0, 1) := by decide +kernel
theorem dX9_run_9 : decode cX9_run 9 = .ok (.iconst 1, 1) := by decide +kernel
theorem dX9_run_10 : decode cX9_run 10 = .ok (.invokevirtual 94, 3) := by decide +kernel
theorem dX9_run_13 : decode cX9_run 13 = .ok (.ireturn, 1) := by decide +kernel
theorem dX9_run_14 : decode cX9_run 14 = .ok (.aload_n 0, 1) := by decide +kernel
theorem dX9_run_15 : decode cX9_run 15 = .ok (.invokevirtual 97, 3) := by decide +kernel
theorem dX9_run_18 : decode cX9_run 18 = .ok (.aload_n 0, 1) := by decide +kernel
theorem dX9_run_19 : decode cX9_run 19 = .ok (.iconst 0, 1) := by decide +kernel
theorem dX9_run_20 : decode cX9_run 20 = .ok (.putfield 269, 3) := by decide +kernel
theorem dX9_run_23 : decode cX9_run 23 = .ok (.iconst 0, 1) := by decide +kernel
theorem dX9_run_24 : decode cX9_run 24 = .ok (.istore_n 1, 1) := by decide +kernel
theorem dX9_run_25 : decode cX9_run 25 = .ok (.aload_n 0, 1) := by decide +kernel
theorem dX9_run_26 : decode cX9_run 26 = .ok (.invokevirtual 278, 3) := by decide +kernel
theorem dX9_run_29 : decode cX9_run 29 = .ok (.istore_n 2, 1) := by decide +kernel
theorem dX9_run_30 : decode cX9_run 30 = .ok (.aload_n 0, 1) := by decide +kernel
theorem dX9_run_31 : decode cX9_run 31 = .ok (.getfield 269, 3) := by decide +kernel
theorem dX9_run_34 : decode cX9_run 34 = .ok (.aload_n 0, 1) := by decide +kernel
theorem dX9_run_35 : decode cX9_run 35 = .ok (.getfield 266, 3) := by decide +kernel
theorem dX9_run_38 : decode cX9_run 38 = .ok (.if_icmp .ge 87, 3) := by decide +kernel
theorem dX9_run_41 : decode cX9_run 41 = .ok (.aload_n 0, 1) := by decide +kernel
theorem dX9_run_42 : decode cX9_run 42 = .ok (.invokevirtual 284, 3) := by decide +kernel
theorem dX9_run_45 : decode cX9_run 45 = .ok (.ifCond .eq 33, 3) := by decide +kernel
theorem dX9_run_48 : decode cX9_run 48 = .ok (.aload_n 0, 1) := by decide +kernel
theorem dX9_run_49 : decode cX9_run 49 = .ok (.aload_n 0, 1) := by decide +kernel
theorem dX9_run_50 : decode cX9_run 50 = .ok (.getfield 68, 3) := by decide +kernel
theorem dX9_run_53 : decode cX9_run 53 = .ok (.iconst 0, 1) := by decide +kernel
theorem dX9_run_54 : decode cX9_run 54 = .ok (.iaload, 1) := by decide +kernel
theorem dX9_run_55 : decode cX9_run 55 = .ok (.invokevirtual 103, 3) := by decide +kernel
theorem dX9_run_58 : decode cX9_run 58 = .ok (.ifCond .eq 20, 3) := by decide +kernel
theorem dX9_run_61 : decode cX9_run 61 = .ok (.aload_n 0, 1) := by decide +kernel
theorem dX9_run_62 : decode cX9_run 62 = .ok (.aload_n 0, 1) := by decide +kernel
theorem dX9_run_63 : decode cX9_run 63 = .ok (.getfield 68, 3) := by decide +kernel
theorem dX9_run_66 : decode cX9_run 66 = .ok (.iconst 1, 1) := by decide +kernel
theorem dX9_run_67 : decode cX9_run 67 = .ok (.iaload, 1) := by decide +kernel
theorem dX9_run_68 : decode cX9_run 68 = .ok (.invokevirtual 103, 3) := by decide +kernel
theorem dX9_run_71 : decode cX9_run 71 = .ok (.ifCond .eq 7, 3) := by decide +kernel
theorem dX9_run_74 : decode cX9_run 74 = .ok (.iconst 1, 1) := by decide +kernel
theorem dX9_run_75 : decode cX9_run 75 = .ok (.goto 4, 3) := by decide +kernel
theorem dX9_run_78 : decode cX9_run 78 = .ok (.iconst 0, 1) := by decide +kernel
theorem dX9_run_79 : decode cX9_run 79 = .ok (.istore_n 3, 1) := by decide +kernel
theorem dX9_run_80 : decode cX9_run 80 = .ok (.iload_n 3, 1) := by decide +kernel
theorem dX9_run_81 : decode cX9_run 81 = .ok (.ifCond .eq 36, 3) := by decide +kernel
theorem dX9_run_84 : decode cX9_run 84 = .ok (.aload_n 0, 1) := by decide +kernel
theorem dX9_run_85 : decode cX9_run 85 = .ok (.getfield 7, 3) := by decide +kernel
theorem dX9_run_88 : decode cX9_run 88 = .ok (.aload_n 0, 1) := by decide +kernel
theorem dX9_run_89 : decode cX9_run 89 = .ok (.getfield 275, 3) := by decide +kernel
theorem dX9_run_92 : decode cX9_run 92 = .ok (.aload_n 0, 1) := by decide +kernel
theorem dX9_run_93 : decode cX9_run 93 = .ok (.getfield 68, 3) := by decide +kernel
theorem dX9_run_96 : decode cX9_run 96 = .ok (.iconst 0, 1) := by decide +kernel
theorem dX9_run_97 : decode cX9_run 97 = .ok (.iaload, 1) := by decide +kernel
theorem dX9_run_98 : decode cX9_run 98 = .ok (.aload_n 0, 1) := by decide +kernel
theorem dX9_run_99 : decode cX9_run 99 = .ok (.getfield 68, 3) := by decide +kernel
theorem dX9_run_102 : decode cX9_run 102 = .ok (.iconst 1, 1) := by decide +kernel
theorem dX9_run_103 : decode cX9_run 103 = .ok (.iaload, 1) := by decide +kernel
theorem dX9_run_104 : decode cX9_run 104 = .ok (.invokestatic 90, 3) := by decide +kernel
theorem dX9_run_107 : decode cX9_run 107 = .ok (.aload_n 0, 1) := by decide +kernel
theorem dX9_run_108 : decode cX9_run 108 = .ok (.getfield 68, 3) := by decide +kernel
theorem dX9_run_111 : decode cX9_run 111 = .ok (.iconst 2, 1) := by decide +kernel
theorem dX9_run_112 : decode cX9_run 112 = .ok (.iaload, 1) := by decide +kernel
theorem dX9_run_113 : decode cX9_run 113 = .ok (.iastore, 1) := by decide +kernel
theorem dX9_run_114 : decode cX9_run 114 = .ok (.iinc 1 1, 3) := by decide +kernel
theorem dX9_run_117 : decode cX9_run 117 = .ok (.aload_n 0, 1) := by decide +kernel
theorem dX9_run_118 : decode cX9_run 118 = .ok (.invokevirtual 278, 3) := by decide +kernel
theorem dX9_run_121 : decode cX9_run 121 = .ok (.istore_n 2, 1) := by decide +kernel
theorem dX9_run_122 : decode cX9_run 122 = .ok (.goto (-92), 3) := by decide +kernel
theorem dX9_run_125 : decode cX9_run 125 = .ok (.aload_n 0, 1) := by decide +kernel
theorem dX9_run_126 : decode cX9_run 126 = .ok (.iload_n 1, 1) := by decide +kernel
theorem dX9_run_127 : decode cX9_run 127 = .ok (.invokevirtual 100, 3) := by decide +kernel
theorem dX9_run_130 : decode cX9_run 130 = .ok (.ireturn, 1) := by decide +kernel
theorem dX9_undo_0 : decode cX9_undo 0 = .ok (.aload_n 0, 1) := by decide +kernel
theorem dX9_undo_1 : decode cX9_undo 1 = .ok (.getfield 79, 3) := by decide +kernel
theorem dX9_undo_4 : decode cX9_undo 4 = .ok (.ifCond .ne 9, 3) := by decide +kernel
theorem dX9_undo_7 : decode cX9_undo 7 = .ok (.aload_n 0, 1) := by decide +kernel
theorem dX9_undo_8 : decode cX9_undo 8 = .ok (.iconst 1, 1) := by decide +kernel
theorem dX9_undo_9 : decode cX9_undo 9 = .ok (.invokevirtual 94, 3) := by decide +kernel
theorem dX9_undo_12 : decode cX9_undo 12 = .ok (.ireturn, 1) := by decide +kernel
theorem dX9_undo_13 : decode cX9_undo 13 = .ok (.aload_n 0, 1) := by decide +kernel
theorem dX9_undo_14 : decode cX9_undo 14 = .ok (.dup, 1) := by decide +kernel
theorem dX9_undo_15 : decode cX9_undo 15 = .ok (.getfield 79, 3) := by decide +kernel
theorem dX9_undo_18 : decode cX9_undo 18 = .ok (.iconst 1, 1) := by decide +kernel
theorem dX9_undo_19 : decode cX9_undo 19 = .ok (.isub, 1) := by decide +kernel
theorem dX9_undo_20 : decode cX9_undo 20 = .ok (.putfield 79, 3) := by decide +kernel
theorem dX9_undo_23 : decode cX9_undo 23 = .ok (.iconst 0, 1) := by decide +kernel
theorem dX9_undo_24 : decode cX9_undo 24 = .ok (.istore_n 1, 1) := by decide +kernel
theorem dX9_undo_25 : decode cX9_undo 25 = .ok (.iload_n 1, 1) := by decide +kernel
theorem dX9_undo_26 : decode cX9_undo 26 = .ok (.bipush 121, 2) := by decide +kernel
theorem dX9_undo_28 : decode cX9_undo 28 = .ok (.if_icmp .ge 29, 3) := by decide +kernel
theorem dX9_undo_31 : decode cX9_undo 31 = .ok (.aload_n 0, 1) := by decide +kernel
theorem dX9_undo_32 : decode cX9_undo 32 = .ok (.getfield 7, 3) := by decide +kernel
theorem dX9_undo_35 : decode cX9_undo 35 = .ok (.iload_n 1, 1) := by decide +kernel
theorem dX9_undo_36 : decode cX9_undo 36 = .ok (.aload_n 0, 1) := by decide +kernel
theorem dX9_undo_37 : decode cX9_undo 37 = .ok (.getfield 13, 3) := by decide +kernel
theorem dX9_undo_40 : decode cX9_undo 40 = .ok (.bipush 121, 2) := by decide +kernel
theorem dX9_undo_42 : decode cX9_undo 42 = .ok (.aload_n 0, 1) := by decide +kernel
theorem dX9_undo_43 : decode cX9_undo 43 = .ok (.getfield 79, 3) := by decide +kernel
theorem dX9_undo_46 : decode cX9_undo 46 = .ok (.imul, 1) := by decide +kernel
theorem dX9_undo_47 : decode cX9_undo 47 = .ok (.iload_n 1, 1) := by decide +kernel
theorem dX9_undo_48 : decode cX9_undo 48 = .ok (.iadd, 1) := by decide +kernel
theorem dX9_undo_49 : decode cX9_undo 49 = .ok (.iaload, 1) := by decide +kernel
theorem dX9_undo_50 : decode cX9_undo 50 = .ok (.iastore, 1) := by decide +kernel
theorem dX9_undo_51 : decode cX9_undo 51 = .ok (.iinc 1 1, 3) := by decide +kernel
theorem dX9_undo_54 : decode cX9_undo 54 = .ok (.goto (-29), 3) := by decide +kernel
theorem dX9_undo_57 : decode cX9_undo 57 = .ok (.aload_n 0, 1) := by decide +kernel
theorem dX9_undo_58 : decode cX9_undo 58 = .ok (.aload_n 0, 1) := by decide +kernel
theorem dX9_undo_59 : decode cX9_undo 59 = .ok (.getfield 79, 3) := by decide +kernel
theorem dX9_undo_62 : decode cX9_undo 62 = .ok (.invokevirtual 82, 3) := by decide +kernel
theorem dX9_undo_65 : decode cX9_undo 65 = .ok (.ireturn, 1) := by decide +kernel
theorem dX9_mix_0 : decode cX9_mix 0 = .ok (.aload_n 0, 1) := by decide +kernel
theorem dX9_mix_1 : decode cX9_mix 1 = .ok (.ldc2_w 290, 3) := by decide +kernel
theorem dX9_mix_4 : decode cX9_mix 4 = .ok (.aload_n 0, 1) := by decide +kernel
theorem dX9_mix_5 : decode cX9_mix 5 = .ok (.getfield 292, 3) := by decide +kernel
theorem dX9_mix_8 : decode cX9_mix 8 = .ok (.lmul, 1) := by decide +kernel
theorem dX9_mix_9 : decode cX9_mix 9 = .ok (.iload_n 1, 1) := by decide +kernel
theorem dX9_mix_10 : decode cX9_mix 10 = .ok (.i2l, 1) := by decide +kernel
theorem dX9_mix_11 : decode cX9_mix 11 = .ok (.ladd, 1) := by decide +kernel
theorem dX9_mix_12 : decode cX9_mix 12 = .ok (.putfield 292, 3) := by decide +kernel
theorem dX9_mix_15 : decode cX9_mix 15 = .ok (.return_, 1) := by decide +kernel
theorem dX9_checksum_0 : decode cX9_checksum 0 = .ok (.aload_n 0, 1) := by decide +kernel
theorem dX9_checksum_1 : decode cX9_checksum 1 = .ok (.iconst 0, 1) := by decide +kernel
theorem dX9_checksum_2 : decode cX9_checksum 2 = .ok (.putfield 75, 3) := by decide +kernel
theorem dX9_checksum_5 : decode cX9_checksum 5 = .ok (.aload_n 0, 1) := by decide +kernel
theorem dX9_checksum_6 : decode cX9_checksum 6 = .ok (.ldc2_w 296, 3) := by decide +kernel
theorem dX9_checksum_9 : decode cX9_checksum 9 = .ok (.putfield 292, 3) := by decide +kernel
theorem dX9_checksum_12 : decode cX9_checksum 12 = .ok (.aload_n 0, 1) := by decide +kernel
theorem dX9_checksum_13 : decode cX9_checksum 13 = .ok (.aload_n 0, 1) := by decide +kernel
theorem dX9_checksum_14 : decode cX9_checksum 14 = .ok (.getfield 7, 3) := by decide +kernel
theorem dX9_checksum_17 : decode cX9_checksum 17 = .ok (.iconst 0, 1) := by decide +kernel
theorem dX9_checksum_18 : decode cX9_checksum 18 = .ok (.iaload, 1) := by decide +kernel
theorem dX9_checksum_19 : decode cX9_checksum 19 = .ok (.invokevirtual 298, 3) := by decide +kernel
theorem dX9_checksum_22 : decode cX9_checksum 22 = .ok (.iconst 0, 1) := by decide +kernel
theorem dX9_checksum_23 : decode cX9_checksum 23 = .ok (.istore_n 1, 1) := by decide +kernel
theorem dX9_checksum_24 : decode cX9_checksum 24 = .ok (.iload_n 1, 1) := by decide +kernel
theorem dX9_checksum_25 : decode cX9_checksum 25 = .ok (.iconst 3, 1) := by decide +kernel
theorem dX9_checksum_26 : decode cX9_checksum 26 = .ok (.if_icmp .ge 63, 3) := by decide +kernel
theorem dX9_checksum_29 : decode cX9_checksum 29 = .ok (.iconst 0, 1) := by decide +kernel
theorem dX9_checksum_30 : decode cX9_checksum 30 = .ok (.istore_n 2, 1) := by decide +kernel
theorem dX9_checksum_31 : decode cX9_checksum 31 = .ok (.iload_n 2, 1) := by decide +kernel
theorem dX9_checksum_32 : decode cX9_checksum 32 = .ok (.aload_n 0, 1) := by decide +kernel
theorem dX9_checksum_33 : decode cX9_checksum 33 = .ok (.getfield 7, 3) := by decide +kernel
theorem dX9_checksum_36 : decode cX9_checksum 36 = .ok (.iconst 0, 1) := by decide +kernel
theorem dX9_checksum_37 : decode cX9_checksum 37 = .ok (.iaload, 1) := by decide +kernel
theorem dX9_checksum_38 : decode cX9_checksum 38 = .ok (.aload_n 0, 1) := by decide +kernel
theorem dX9_checksum_39 : decode cX9_checksum 39 = .ok (.getfield 7, 3) := by decide +kernel
theorem dX9_checksum_42 : decode cX9_checksum 42 = .ok (.iconst 0, 1) := by decide +kernel
theorem dX9_checksum_43 : decode cX9_checksum 43 = .ok (.iaload, 1) := by decide +kernel
theorem dX9_checksum_44 : decode cX9_checksum 44 = .ok (.imul, 1) := by decide +kernel
theorem dX9_checksum_45 : decode cX9_checksum 45 = .ok (.if_icmp .ge 38, 3) := by decide +kernel
theorem dX9_checksum_48 : decode cX9_checksum 48 = .ok (.aload_n 0, 1) := by decide +kernel
theorem dX9_checksum_49 : decode cX9_checksum 49 = .ok (.aload_n 0, 1) := by decide +kernel
theorem dX9_checksum_50 : decode cX9_checksum 50 = .ok (.getfield 7, 3) := by decide +kernel
theorem dX9_checksum_53 : decode cX9_checksum 53 = .ok (.iload_n 1, 1) := by decide +kernel
theorem dX9_checksum_54 : decode cX9_checksum 54 = .ok (.iload_n 2, 1) := by decide +kernel
theorem dX9_checksum_55 : decode cX9_checksum 55 = .ok (.aload_n 0, 1) := by decide +kernel
theorem dX9_checksum_56 : decode cX9_checksum 56 = .ok (.getfield 7, 3) := by decide +kernel
theorem dX9_checksum_59 : decode cX9_checksum 59 = .ok (.iconst 0, 1) := by decide +kernel
theorem dX9_checksum_60 : decode cX9_checksum 60 = .ok (.iaload, 1) := by decide +kernel
theorem dX9_checksum_61 : decode cX9_checksum 61 = .ok (.idiv, 1) := by decide +kernel
theorem dX9_checksum_62 : decode cX9_checksum 62 = .ok (.iload_n 2, 1) := by decide +kernel
theorem dX9_checksum_63 : decode cX9_checksum 63 = .ok (.aload_n 0, 1) := by decide +kernel
theorem dX9_checksum_64 : decode cX9_checksum 64 = .ok (.getfield 7, 3) := by decide +kernel
theorem dX9_checksum_67 : decode cX9_checksum 67 = .ok (.iconst 0, 1) := by decide +kernel
theorem dX9_checksum_68 : decode cX9_checksum 68 = .ok (.iaload, 1) := by decide +kernel
theorem dX9_checksum_69 : decode cX9_checksum 69 = .ok (.irem, 1) := by decide +kernel
theorem dX9_checksum_70 : decode cX9_checksum 70 = .ok (.invokestatic 90, 3) := by decide +kernel
theorem dX9_checksum_73 : decode cX9_checksum 73 = .ok (.iaload, 1) := by decide +kernel
theorem dX9_checksum_74 : decode cX9_checksum 74 = .ok (.invokevirtual 298, 3) := by decide +kernel
theorem dX9_checksum_77 : decode cX9_checksum 77 = .ok (.iinc 2 1, 3) := by decide +kernel
theorem dX9_checksum_80 : decode cX9_checksum 80 = .ok (.goto (-49), 3) := by decide +kernel
theorem dX9_checksum_83 : decode cX9_checksum 83 = .ok (.iinc 1 1, 3) := by decide +kernel
theorem dX9_checksum_86 : decode cX9_checksum 86 = .ok (.goto (-62), 3) := by decide +kernel
theorem dX9_checksum_89 : decode cX9_checksum 89 = .ok (.iconst 0, 1) := by decide +kernel
theorem dX9_checksum_90 : decode cX9_checksum 90 = .ok (.istore_n 1, 1) := by decide +kernel
theorem dX9_checksum_91 : decode cX9_checksum 91 = .ok (.iload_n 1, 1) := by decide +kernel
theorem dX9_checksum_92 : decode cX9_checksum 92 = .ok (.aload_n 0, 1) := by decide +kernel
theorem dX9_checksum_93 : decode cX9_checksum 93 = .ok (.getfield 7, 3) := by decide +kernel
theorem dX9_checksum_96 : decode cX9_checksum 96 = .ok (.iconst 0, 1) := by decide +kernel
theorem dX9_checksum_97 : decode cX9_checksum 97 = .ok (.iaload, 1) := by decide +kernel
theorem dX9_checksum_98 : decode cX9_checksum 98 = .ok (.if_icmp .ge 22, 3) := by decide +kernel
theorem dX9_checksum_101 : decode cX9_checksum 101 = .ok (.aload_n 0, 1) := by decide +kernel
theorem dX9_checksum_102 : decode cX9_checksum 102 = .ok (.aload_n 0, 1) := by decide +kernel
theorem dX9_checksum_103 : decode cX9_checksum 103 = .ok (.getfield 7, 3) := by decide +kernel
theorem dX9_checksum_106 : decode cX9_checksum 106 = .ok (.bipush 109, 2) := by decide +kernel
theorem dX9_checksum_108 : decode cX9_checksum 108 = .ok (.iload_n 1, 1) := by decide +kernel
theorem dX9_checksum_109 : decode cX9_checksum 109 = .ok (.iadd, 1) := by decide +kernel
theorem dX9_checksum_110 : decode cX9_checksum 110 = .ok (.iaload, 1) := by decide +kernel
theorem dX9_checksum_111 : decode cX9_checksum 111 = .ok (.invokevirtual 298, 3) := by decide +kernel
theorem dX9_checksum_114 : decode cX9_checksum 114 = .ok (.iinc 1 1, 3) := by decide +kernel
theorem dX9_checksum_117 : decode cX9_checksum 117 = .ok (.goto (-26), 3) := by decide +kernel
theorem dX9_checksum_120 : decode cX9_checksum 120 = .ok (.iconst 0, 1) := by decide +kernel
theorem dX9_checksum_121 : decode cX9_checksum 121 = .ok (.istore_n 1, 1) := by decide +kernel
theorem dX9_checksum_122 : decode cX9_checksum 122 = .ok (.iload_n 1, 1) := by decide +kernel
theorem dX9_checksum_123 : decode cX9_checksum 123 = .ok (.aload_n 0, 1) := by decide +kernel
theorem dX9_checksum_124 : decode cX9_checksum 124 = .ok (.getfield 7, 3) := by decide +kernel
theorem dX9_checksum_127 : decode cX9_checksum 127 = .ok (.iconst 0, 1) := by decide +kernel
theorem dX9_checksum_128 : decode cX9_checksum 128 = .ok (.iaload, 1) := by decide +kernel
theorem dX9_checksum_129 : decode cX9_checksum 129 = .ok (.if_icmp .ge 22, 3) := by decide +kernel
theorem dX9_checksum_132 : decode cX9_checksum 132 = .ok (.aload_n 0, 1) := by decide +kernel
theorem dX9_checksum_133 : decode cX9_checksum 133 = .ok (.aload_n 0, 1) := by decide +kernel
theorem dX9_checksum_134 : decode cX9_checksum 134 = .ok (.getfield 7, 3) := by decide +kernel
theorem dX9_checksum_137 : decode cX9_checksum 137 = .ok (.bipush 115, 2) := by decide +kernel
theorem dX9_checksum_139 : decode cX9_checksum 139 = .ok (.iload_n 1, 1) := by decide +kernel
theorem dX9_checksum_140 : decode cX9_checksum 140 = .ok (.iadd, 1) := by decide +kernel
theorem dX9_checksum_141 : decode cX9_checksum 141 = .ok (.iaload, 1) := by decide +kernel
theorem dX9_checksum_142 : decode cX9_checksum 142 = .ok (.invokevirtual 298, 3) := by decide +kernel
theorem dX9_checksum_145 : decode cX9_checksum 145 = .ok (.iinc 1 1, 3) := by decide +kernel
theorem dX9_checksum_148 : decode cX9_checksum 148 = .ok (.goto (-26), 3) := by decide +kernel
theorem dX9_checksum_151 : decode cX9_checksum 151 = .ok (.aload_n 0, 1) := by decide +kernel
theorem dX9_checksum_152 : decode cX9_checksum 152 = .ok (.aload_n 0, 1) := by decide +kernel
theorem dX9_checksum_153 : decode cX9_checksum 153 = .ok (.invokevirtual 136, 3) := by decide +kernel
theorem dX9_checksum_156 : decode cX9_checksum 156 = .ok (.invokevirtual 298, 3) := by decide +kernel
theorem dX9_checksum_159 : decode cX9_checksum 159 = .ok (.aload_n 0, 1) := by decide +kernel
theorem dX9_checksum_160 : decode cX9_checksum 160 = .ok (.invokevirtual 177, 3) := by decide +kernel
theorem dX9_checksum_163 : decode cX9_checksum 163 = .ok (.aload_n 0, 1) := by decide +kernel
theorem dX9_checksum_164 : decode cX9_checksum 164 = .ok (.aload_n 0, 1) := by decide +kernel
theorem dX9_checksum_165 : decode cX9_checksum 165 = .ok (.invokevirtual 206, 3) := by decide +kernel
theorem dX9_checksum_168 : decode cX9_checksum 168 = .ok (.invokevirtual 298, 3) := by decide +kernel
theorem dX9_checksum_171 : decode cX9_checksum 171 = .ok (.aload_n 0, 1) := by decide +kernel
theorem dX9_checksum_172 : decode cX9_checksum 172 = .ok (.aload_n 0, 1) := by decide +kernel
theorem dX9_checksum_173 : decode cX9_checksum 173 = .ok (.invokevirtual 212, 3) := by decide +kernel
theorem dX9_checksum_176 : decode cX9_checksum 176 = .ok (.invokevirtual 298, 3) := by decide +kernel
theorem dX9_checksum_179 : decode cX9_checksum 179 = .ok (.aload_n 0, 1) := by decide +kernel
theorem dX9_checksum_180 : decode cX9_checksum 180 = .ok (.aload_n 0, 1) := by decide +kernel
theorem dX9_checksum_181 : decode cX9_checksum 181 = .ok (.invokevirtual 227, 3) := by decide +kernel
theorem dX9_checksum_184 : decode cX9_checksum 184 = .ok (.invokevirtual 298, 3) := by decide +kernel
theorem dX9_checksum_187 : decode cX9_checksum 187 = .ok (.iconst 0, 1) := by decide +kernel
theorem dX9_checksum_188 : decode cX9_checksum 188 = .ok (.istore_n 1, 1) := by decide +kernel
theorem dX9_checksum_189 : decode cX9_checksum 189 = .ok (.iload_n 1, 1) := by decide +kernel
theorem dX9_checksum_190 : decode cX9_checksum 190 = .ok (.bipush 7, 2) := by decide +kernel
theorem dX9_checksum_192 : decode cX9_checksum 192 = .ok (.if_icmp .ge 18, 3) := by decide +kernel
theorem dX9_checksum_195 : decode cX9_checksum 195 = .ok (.aload_n 0, 1) := by decide +kernel
theorem dX9_checksum_196 : decode cX9_checksum 196 = .ok (.aload_n 0, 1) := by decide +kernel
theorem dX9_checksum_197 : decode cX9_checksum 197 = .ok (.iload_n 1, 1) := by decide +kernel
theorem dX9_checksum_198 : decode cX9_checksum 198 = .ok (.invokevirtual 263, 3) := by decide +kernel
theorem dX9_checksum_201 : decode cX9_checksum 201 = .ok (.invokevirtual 298, 3) := by decide +kernel
theorem dX9_checksum_204 : decode cX9_checksum 204 = .ok (.iinc 1 1, 3) := by decide +kernel
theorem dX9_checksum_207 : decode cX9_checksum 207 = .ok (.goto (-18), 3) := by decide +kernel
theorem dX9_checksum_210 : decode cX9_checksum 210 = .ok (.aload_n 0, 1) := by decide +kernel
theorem dX9_checksum_211 : decode cX9_checksum 211 = .ok (.aload_n 0, 1) := by decide +kernel
theorem dX9_checksum_212 : decode cX9_checksum 212 = .ok (.getfield 266, 3) := by decide +kernel
theorem dX9_checksum_215 : decode cX9_checksum 215 = .ok (.invokevirtual 298, 3) := by decide +kernel
theorem dX9_checksum_218 : decode cX9_checksum 218 = .ok (.aload_n 0, 1) := by decide +kernel
theorem dX9_checksum_219 : decode cX9_checksum 219 = .ok (.aload_n 0, 1) := by decide +kernel
theorem dX9_checksum_220 : decode cX9_checksum 220 = .ok (.getfield 79, 3) := by decide +kernel
theorem dX9_checksum_223 : decode cX9_checksum 223 = .ok (.invokevirtual 298, 3) := by decide +kernel
theorem dX9_checksum_226 : decode cX9_checksum 226 = .ok (.aload_n 0, 1) := by decide +kernel
theorem dX9_checksum_227 : decode cX9_checksum 227 = .ok (.getfield 292, 3) := by decide +kernel
theorem dX9_checksum_230 : decode cX9_checksum 230 = .ok (.lreturn, 1) := by decide +kernel
theorem dJ6_bitCount_0f7a4_0 : decode cJ6_bitCount_0f7a4 0 = .ok (.iload_n 0, 1) := by decide +kernel
theorem dJ6_bitCount_0f7a4_1 : decode cJ6_bitCount_0f7a4 1 = .ok (.iload_n 0, 1) := by decide +kernel
theorem dJ6_bitCount_0f7a4_2 : decode cJ6_bitCount_0f7a4 2 = .ok (.iconst 1, 1) := by decide +kernel
theorem dJ6_bitCount_0f7a4_3 : decode cJ6_bitCount_0f7a4 3 = .ok (.iushr, 1) := by decide +kernel
theorem dJ6_bitCount_0f7a4_4 : decode cJ6_bitCount_0f7a4 4 = .ok (.ldc_w 265, 3) := by decide +kernel
theorem dJ6_bitCount_0f7a4_7 : decode cJ6_bitCount_0f7a4 7 = .ok (.iand, 1) := by decide +kernel
theorem dJ6_bitCount_0f7a4_8 : decode cJ6_bitCount_0f7a4 8 = .ok (.isub, 1) := by decide +kernel
theorem dJ6_bitCount_0f7a4_9 : decode cJ6_bitCount_0f7a4 9 = .ok (.istore_n 0, 1) := by decide +kernel
theorem dJ6_bitCount_0f7a4_10 : decode cJ6_bitCount_0f7a4 10 = .ok (.iload_n 0, 1) := by decide +kernel
theorem dJ6_bitCount_0f7a4_11 : decode cJ6_bitCount_0f7a4 11 = .ok (.ldc_w 266, 3) := by decide +kernel
theorem dJ6_bitCount_0f7a4_14 : decode cJ6_bitCount_0f7a4 14 = .ok (.iand, 1) := by decide +kernel
theorem dJ6_bitCount_0f7a4_15 : decode cJ6_bitCount_0f7a4 15 = .ok (.iload_n 0, 1) := by decide +kernel
theorem dJ6_bitCount_0f7a4_16 : decode cJ6_bitCount_0f7a4 16 = .ok (.iconst 2, 1) := by decide +kernel
theorem dJ6_bitCount_0f7a4_17 : decode cJ6_bitCount_0f7a4 17 = .ok (.iushr, 1) := by decide +kernel
theorem dJ6_bitCount_0f7a4_18 : decode cJ6_bitCount_0f7a4 18 = .ok (.ldc_w 266, 3) := by decide +kernel
theorem dJ6_bitCount_0f7a4_21 : decode cJ6_bitCount_0f7a4 21 = .ok (.iand, 1) := by decide +kernel
theorem dJ6_bitCount_0f7a4_22 : decode cJ6_bitCount_0f7a4 22 = .ok (.iadd, 1) := by decide +kernel
theorem dJ6_bitCount_0f7a4_23 : decode cJ6_bitCount_0f7a4 23 = .ok (.istore_n 0, 1) := by decide +kernel
theorem dJ6_bitCount_0f7a4_24 : decode cJ6_bitCount_0f7a4 24 = .ok (.iload_n 0, 1) := by decide +kernel
theorem dJ6_bitCount_0f7a4_25 : decode cJ6_bitCount_0f7a4 25 = .ok (.iload_n 0, 1) := by decide +kernel
theorem dJ6_bitCount_0f7a4_26 : decode cJ6_bitCount_0f7a4 26 = .ok (.iconst 4, 1) := by decide +kernel
theorem dJ6_bitCount_0f7a4_27 : decode cJ6_bitCount_0f7a4 27 = .ok (.iushr, 1) := by decide +kernel
theorem dJ6_bitCount_0f7a4_28 : decode cJ6_bitCount_0f7a4 28 = .ok (.iadd, 1) := by decide +kernel
theorem dJ6_bitCount_0f7a4_29 : decode cJ6_bitCount_0f7a4 29 = .ok (.ldc_w 267, 3) := by decide +kernel
theorem dJ6_bitCount_0f7a4_32 : decode cJ6_bitCount_0f7a4 32 = .ok (.iand, 1) := by decide +kernel
theorem dJ6_bitCount_0f7a4_33 : decode cJ6_bitCount_0f7a4 33 = .ok (.istore_n 0, 1) := by decide +kernel
theorem dJ6_bitCount_0f7a4_34 : decode cJ6_bitCount_0f7a4 34 = .ok (.iload_n 0, 1) := by decide +kernel
theorem dJ6_bitCount_0f7a4_35 : decode cJ6_bitCount_0f7a4 35 = .ok (.iload_n 0, 1) := by decide +kernel
theorem dJ6_bitCount_0f7a4_36 : decode cJ6_bitCount_0f7a4 36 = .ok (.bipush 8, 2) := by decide +kernel
theorem dJ6_bitCount_0f7a4_38 : decode cJ6_bitCount_0f7a4 38 = .ok (.iushr, 1) := by decide +kernel
theorem dJ6_bitCount_0f7a4_39 : decode cJ6_bitCount_0f7a4 39 = .ok (.iadd, 1) := by decide +kernel
theorem dJ6_bitCount_0f7a4_40 : decode cJ6_bitCount_0f7a4 40 = .ok (.istore_n 0, 1) := by decide +kernel
theorem dJ6_bitCount_0f7a4_41 : decode cJ6_bitCount_0f7a4 41 = .ok (.iload_n 0, 1) := by decide +kernel
theorem dJ6_bitCount_0f7a4_42 : decode cJ6_bitCount_0f7a4 42 = .ok (.iload_n 0, 1) := by decide +kernel
theorem dJ6_bitCount_0f7a4_43 : decode cJ6_bitCount_0f7a4 43 = .ok (.bipush 16, 2) := by decide +kernel
theorem dJ6_bitCount_0f7a4_45 : decode cJ6_bitCount_0f7a4 45 = .ok (.iushr, 1) := by decide +kernel
theorem dJ6_bitCount_0f7a4_46 : decode cJ6_bitCount_0f7a4 46 = .ok (.iadd, 1) := by decide +kernel
theorem dJ6_bitCount_0f7a4_47 : decode cJ6_bitCount_0f7a4 47 = .ok (.istore_n 0, 1) := by decide +kernel
theorem dJ6_bitCount_0f7a4_48 : decode cJ6_bitCount_0f7a4 48 = .ok (.iload_n 0, 1) := by decide +kernel
theorem dJ6_bitCount_0f7a4_49 : decode cJ6_bitCount_0f7a4 49 = .ok (.bipush 63, 2) := by decide +kernel
theorem dJ6_bitCount_0f7a4_51 : decode cJ6_bitCount_0f7a4 51 = .ok (.iand, 1) := by decide +kernel
theorem dJ6_bitCount_0f7a4_52 : decode cJ6_bitCount_0f7a4 52 = .ok (.ireturn, 1) := by decide +kernel
theorem dJ9_max_7cf53_0 : decode cJ9_max_7cf53 0 = .ok (.iload_n 0, 1) := by decide +kernel
theorem dJ9_max_7cf53_1 : decode cJ9_max_7cf53 1 = .ok (.iload_n 1, 1) := by decide +kernel
theorem dJ9_max_7cf53_2 : decode cJ9_max_7cf53 2 = .ok (.if_icmp .lt 7, 3) := by decide +kernel
theorem dJ9_max_7cf53_5 : decode cJ9_max_7cf53 5 = .ok (.iload_n 0, 1) := by decide +kernel
theorem dJ9_max_7cf53_6 : decode cJ9_max_7cf53 6 = .ok (.goto 4, 3) := by decide +kernel
theorem dJ9_max_7cf53_9 : decode cJ9_max_7cf53 9 = .ok (.iload_n 1, 1) := by decide +kernel
theorem dJ9_max_7cf53_10 : decode cJ9_max_7cf53 10 = .ok (.ireturn, 1) := by decide +kernel
theorem dJ9_min_7cf53_0 : decode cJ9_min_7cf53 0 = .ok (.iload_n 0, 1) := by decide +kernel
theorem dJ9_min_7cf53_1 : decode cJ9_min_7cf53 1 = .ok (.iload_n 1, 1) := by decide +kernel
theorem dJ9_min_7cf53_2 : decode cJ9_min_7cf53 2 = .ok (.if_icmp .gt 7, 3) := by decide +kernel
theorem dJ9_min_7cf53_5 : decode cJ9_min_7cf53 5 = .ok (.iload_n 0, 1) := by decide +kernel
theorem dJ9_min_7cf53_6 : decode cJ9_min_7cf53 6 = .ok (.goto 4, 3) := by decide +kernel
theorem dJ9_min_7cf53_9 : decode cJ9_min_7cf53 9 = .ok (.iload_n 1, 1) := by decide +kernel
theorem dJ9_min_7cf53_10 : decode cJ9_min_7cf53 10 = .ok (.ireturn, 1) := by decide +kernel
theorem dL_resize_0 : decode cL_resize 0 = .ok (.aload_n 2, 1) := by decide +kernel
theorem dL_resize_1 : decode cL_resize 1 = .ok (.iconst 0, 1) := by decide +kernel
theorem dL_resize_2 : decode cL_resize 2 = .ok (.aload_n 0, 1) := by decide +kernel
theorem dL_resize_3 : decode cL_resize 3 = .ok (.iload_n 1, 1) := by decide +kernel
theorem dL_resize_4 : decode cL_resize 4 = .ok (.invokevirtual 7, 3) := by decide +kernel
theorem dL_resize_7 : decode cL_resize 7 = .ok (.i2l, 1) := by decide +kernel
theorem dL_resize_8 : decode cL_resize 8 = .ok (.lastore, 1) := by decide +kernel
theorem dL_resize_9 : decode cL_resize 9 = .ok (.goto 6, 3) := by decide +kernel
theorem dL_resize_12 : decode cL_resize 12 = .ok (.astore_n 3, 1) := by decide +kernel
theorem dL_resize_13 : decode cL_resize 13 = .ok (.iconst 1, 1) := by decide +kernel
theorem dL_resize_14 : decode cL_resize 14 = .ok (.ireturn, 1) := by decide +kernel
theorem dL_resize_15 : decode cL_resize 15 = .ok (.iconst 0, 1) := by decide +kernel
theorem dL_resize_16 : decode cL_resize 16 = .ok (.ireturn, 1) := by decide +kernel
theorem dL_set_0 : decode cL_set 0 = .ok (.aload 5, 2) := by decide +kernel
theorem dL_set_2 : decode cL_set 2 = .ok (.iconst 0, 1) := by decide +kernel
theorem dL_set_3 : decode cL_set 3 = .ok (.aload_n 0, 1) := by decide +kernel
theorem dL_set_4 : decode cL_set 4 = .ok (.iload_n 1, 1) := by decide +kernel
theorem dL_set_5 : decode cL_set 5 = .ok (.iload_n 2, 1) := by decide +kernel
theorem dL_set_6 : decode cL_set 6 = .ok (.iload_n 3, 1) := by decide +kernel
theorem dL_set_7 : decode cL_set 7 = .ok (.iload 4, 2) := by decide +kernel
theorem dL_set_9 : decode cL_set 9 = .ok (.invokevirtual 15, 3) := by decide +kernel
theorem dL_set_12 : decode cL_set 12 = .ok (.i2l, 1) := by decide +kernel
theorem dL_set_13 : decode cL_set 13 = .ok (.lastore, 1) := by decide +kernel
theorem dL_set_14 : decode cL_set 14 = .ok (.goto 11, 3) := by decide +kernel
theorem dL_set_17 : decode cL_set 17 = .ok (.astore 6, 2) := by decide +kernel
theorem dL_set_19 : decode cL_set 19 = .ok (.iconst 1, 1) := by decide +kernel
theorem dL_set_20 : decode cL_set 20 = .ok (.ireturn, 1) := by decide +kernel
theorem dL_set_21 : decode cL_set 21 = .ok (.astore 6, 2) := by decide +kernel
theorem dL_set_23 : decode cL_set 23 = .ok (.iconst 2, 1) := by decide +kernel
theorem dL_set_24 : decode cL_set 24 = .ok (.ireturn, 1) := by decide +kernel
theorem dL_set_25 : decode cL_set 25 = .ok (.iconst 0, 1) := by decide +kernel
theorem dL_set_26 : decode cL_set 26 = .ok (.ireturn, 1) := by decide +kernel
theorem dL_get_0 : decode cL_get 0 = .ok (.aload 4, 2) := by decide +kernel
theorem dL_get_2 : decode cL_get 2 = .ok (.iconst 0, 1) := by decide +kernel
theorem dL_get_3 : decode cL_get 3 = .ok (.aload_n 0, 1) := by decide +kernel
theorem dL_get_4 : decode cL_get 4 = .ok (.iload_n 1, 1) := by decide +kernel
theorem dL_get_5 : decode cL_get 5 = .ok (.iload_n 2, 1) := by decide +kernel
theorem dL_get_6 : decode cL_get 6 = .ok (.iload_n 3, 1) := by decide +kernel
theorem dL_get_7 : decode cL_get 7 = .ok (.invokevirtual 21, 3) := by decide +kernel
theorem dL_get_10 : decode cL_get 10 = .ok (.i2l, 1) := by decide +kernel
theorem dL_get_11 : decode cL_get 11 = .ok (.lastore, 1) := by decide +kernel
theorem dL_get_12 : decode cL_get 12 = .ok (.goto 11, 3) := by decide +kernel
theorem dL_get_15 : decode cL_get 15 = .ok (.astore 5, 2) := by decide +kernel
theorem dL_get_17 : decode cL_get 17 = .ok (.iconst 1, 1) := by decide +kernel
theorem dL_get_18 : decode cL_get 18 = .ok (.ireturn, 1) := by decide +kernel
theorem dL_get_19 : decode cL_get 19 = .ok (.astore 5, 2) := by decide +kernel
theorem dL_get_21 : decode cL_get 21 = .ok (.iconst 2, 1) := by decide +kernel
theorem dL_get_22 : decode cL_get 22 = .ok (.ireturn, 1) := by decide +kernel
theorem dL_get_23 : decode cL_get 23 = .ok (.iconst 0, 1) := by decide +kernel
theorem dL_get_24 : decode cL_get 24 = .ok (.ireturn, 1) := by decide +kernel
theorem dL_fill_0 : decode cL_fill 0 = .ok (.aload 5, 2) := by decide +kernel
theorem dL_fill_2 : decode cL_fill 2 = .ok (.iconst 0, 1) := by decide +kernel
theorem dL_fill_3 : decode cL_fill 3 = .ok (.aload_n 0, 1) := by decide +kernel
theorem dL_fill_4 : decode cL_fill 4 = .ok (.iload_n 1, 1) := by decide +kernel
theorem dL_fill_5 : decode cL_fill 5 = .ok (.iload_n 2, 1) := by decide +kernel
theorem dL_fill_6 : decode cL_fill 6 = .ok (.iload_n 3, 1) := by decide +kernel
theorem dL_fill_7 : decode cL_fill 7 = .ok (.iload 4, 2) := by decide +kernel
theorem dL_fill_9 : decode cL_fill 9 = .ok (.invokevirtual 25, 3) := by decide +kernel
theorem dL_fill_12 : decode cL_fill 12 = .ok (.i2l, 1) := by decide +kernel
theorem dL_fill_13 : decode cL_fill 13 = .ok (.lastore, 1) := by decide +kernel
theorem dL_fill_14 : decode cL_fill 14 = .ok (.goto 7, 3) := by decide +kernel
theorem dL_fill_17 : decode cL_fill 17 = .ok (.astore 6, 2) := by decide +kernel
theorem dL_fill_19 : decode cL_fill 19 = .ok (.iconst 1, 1) := by decide +kernel
theorem dL_fill_20 : decode cL_fill 20 = .ok (.ireturn, 1) := by decide +kernel
theorem dL_fill_21 : decode cL_fill 21 = .ok (.iconst 0, 1) := by decide +kernel
theorem dL_fill_22 : decode cL_fill 22 = .ok (.ireturn, 1) := by decide +kernel
theorem dL_location_0 : decode cL_location 0 = .ok (.aload_n 2, 1) := by decide +kernel
theorem dL_location_1 : decode cL_location 1 = .ok (.iconst 0, 1) := by decide +kernel
theorem dL_location_2 : decode cL_location 2 = .ok (.aload_n 0, 1) := by decide +kernel
theorem dL_location_3 : decode cL_location 3 = .ok (.iload_n 1, 1) := by decide +kernel
theorem dL_location_4 : decode cL_location 4 = .ok (.invokevirtual 29, 3) := by decide +kernel
theorem dL_location_7 : decode cL_location 7 = .ok (.i2l, 1) := by decide +kernel
theorem dL_location_8 : decode cL_location 8 = .ok (.lastore, 1) := by decide +kernel
theorem dL_location_9 : decode cL_location 9 = .ok (.goto 6, 3) := by decide +kernel
theorem dL_location_12 : decode cL_location 12 = .ok (.astore_n 3, 1) := by decide +kernel
theorem dL_location_13 : decode cL_location 13 = .ok (.iconst 1, 1) := by decide +kernel
theorem dL_location_14 : decode cL_location 14 = .ok (.ireturn, 1) := by decide +kernel
theorem dL_location_15 : decode cL_location 15 = .ok (.iconst 0, 1) := by decide +kernel
theorem dL_location_16 : decode cL_location 16 = .ok (.ireturn, 1) := by decide +kernel
theorem dL_choose_0 : decode cL_choose 0 = .ok (.aload_n 2, 1) := by decide +kernel
theorem dL_choose_1 : decode cL_choose 1 = .ok (.iconst 0, 1) := by decide +kernel
theorem dL_choose_2 : decode cL_choose 2 = .ok (.aload_n 0, 1) := by decide +kernel
theorem dL_choose_3 : decode cL_choose 3 = .ok (.iload_n 1, 1) := by decide +kernel
theorem dL_choose_4 : decode cL_choose 4 = .ok (.invokevirtual 32, 3) := by decide +kernel
theorem dL_choose_7 : decode cL_choose 7 = .ok (.i2l, 1) := by decide +kernel
theorem dL_choose_8 : decode cL_choose 8 = .ok (.lastore, 1) := by decide +kernel
theorem dL_choose_9 : decode cL_choose 9 = .ok (.goto 6, 3) := by decide +kernel
theorem dL_choose_12 : decode cL_choose 12 = .ok (.astore_n 3, 1) := by decide +kernel
theorem dL_choose_13 : decode cL_choose 13 = .ok (.iconst 1, 1) := by decide +kernel
theorem dL_choose_14 : decode cL_choose 14 = .ok (.ireturn, 1) := by decide +kernel
theorem dL_choose_15 : decode cL_choose 15 = .ok (.iconst 0, 1) := by decide +kernel
theorem dL_choose_16 : decode cL_choose 16 = .ok (.ireturn, 1) := by decide +kernel
theorem dL_exchange_0 : decode cL_exchange 0 = .ok (.aload_n 3, 1) := by decide +kernel
theorem dL_exchange_1 : decode cL_exchange 1 = .ok (.iconst 0, 1) := by decide +kernel
theorem dL_exchange_2 : decode cL_exchange 2 = .ok (.aload_n 0, 1) := by decide +kernel
theorem dL_exchange_3 : decode cL_exchange 3 = .ok (.iload_n 1, 1) := by decide +kernel
theorem dL_exchange_4 : decode cL_exchange 4 = .ok (.iload_n 2, 1) := by decide +kernel
theorem dL_exchange_5 : decode cL_exchange 5 = .ok (.invokevirtual 35, 3) := by decide +kernel
theorem dL_exchange_8 : decode cL_exchange 8 = .ok (.i2l, 1) := by decide +kernel
theorem dL_exchange_9 : decode cL_exchange 9 = .ok (.lastore, 1) := by decide +kernel
theorem dL_exchange_10 : decode cL_exchange 10 = .ok (.goto 7, 3) := by decide +kernel
theorem dL_exchange_13 : decode cL_exchange 13 = .ok (.astore 4, 2) := by decide +kernel
theorem dL_exchange_15 : decode cL_exchange 15 = .ok (.iconst 1, 1) := by decide +kernel
theorem dL_exchange_16 : decode cL_exchange 16 = .ok (.ireturn, 1) := by decide +kernel
theorem dL_exchange_17 : decode cL_exchange 17 = .ok (.iconst 0, 1) := by decide +kernel
theorem dL_exchange_18 : decode cL_exchange 18 = .ok (.ireturn, 1) := by decide +kernel
theorem dL_gain_0 : decode cL_gain 0 = .ok (.aload_n 3, 1) := by decide +kernel
theorem dL_gain_1 : decode cL_gain 1 = .ok (.iconst 0, 1) := by decide +kernel
theorem dL_gain_2 : decode cL_gain 2 = .ok (.aload_n 0, 1) := by decide +kernel
theorem dL_gain_3 : decode cL_gain 3 = .ok (.iload_n 1, 1) := by decide +kernel
theorem dL_gain_4 : decode cL_gain 4 = .ok (.iload_n 2, 1) := by decide +kernel
theorem dL_gain_5 : decode cL_gain 5 = .ok (.invokevirtual 39, 3) := by decide +kernel
theorem dL_gain_8 : decode cL_gain 8 = .ok (.i2l, 1) := by decide +kernel
theorem dL_gain_9 : decode cL_gain 9 = .ok (.lastore, 1) := by decide +kernel
theorem dL_gain_10 : decode cL_gain 10 = .ok (.goto 7, 3) := by decide +kernel
theorem dL_gain_13 : decode cL_gain 13 = .ok (.astore 4, 2) := by decide +kernel
theorem dL_gain_15 : decode cL_gain 15 = .ok (.iconst 1, 1) := by decide +kernel
theorem dL_gain_16 : decode cL_gain 16 = .ok (.ireturn, 1) := by decide +kernel
theorem dL_gain_17 : decode cL_gain 17 = .ok (.iconst 0, 1) := by decide +kernel
theorem dL_gain_18 : decode cL_gain 18 = .ok (.ireturn, 1) := by decide +kernel
theorem dL_mean_0 : decode cL_mean 0 = .ok (.aload_n 2, 1) := by decide +kernel
theorem dL_mean_1 : decode cL_mean 1 = .ok (.iconst 0, 1) := by decide +kernel
theorem dL_mean_2 : decode cL_mean 2 = .ok (.aload_n 0, 1) := by decide +kernel
theorem dL_mean_3 : decode cL_mean 3 = .ok (.iload_n 1, 1) := by decide +kernel
theorem dL_mean_4 : decode cL_mean 4 = .ok (.invokevirtual 42, 3) := by decide +kernel
theorem dL_mean_7 : decode cL_mean 7 = .ok (.i2l, 1) := by decide +kernel
theorem dL_mean_8 : decode cL_mean 8 = .ok (.lastore, 1) := by decide +kernel
theorem dL_mean_9 : decode cL_mean 9 = .ok (.goto 6, 3) := by decide +kernel
theorem dL_mean_12 : decode cL_mean 12 = .ok (.astore_n 3, 1) := by decide +kernel
theorem dL_mean_13 : decode cL_mean 13 = .ok (.iconst 1, 1) := by decide +kernel
theorem dL_mean_14 : decode cL_mean 14 = .ok (.ireturn, 1) := by decide +kernel
theorem dL_mean_15 : decode cL_mean 15 = .ok (.iconst 0, 1) := by decide +kernel
theorem dL_mean_16 : decode cL_mean 16 = .ok (.ireturn, 1) := by decide +kernel
theorem dL_fix_0 : decode cL_fix 0 = .ok (.aload_n 3, 1) := by decide +kernel
theorem dL_fix_1 : decode cL_fix 1 = .ok (.iconst 0, 1) := by decide +kernel
theorem dL_fix_2 : decode cL_fix 2 = .ok (.aload_n 0, 1) := by decide +kernel
theorem dL_fix_3 : decode cL_fix 3 = .ok (.iload_n 1, 1) := by decide +kernel
theorem dL_fix_4 : decode cL_fix 4 = .ok (.iload_n 2, 1) := by decide +kernel
theorem dL_fix_5 : decode cL_fix 5 = .ok (.invokevirtual 45, 3) := by decide +kernel
theorem dL_fix_8 : decode cL_fix 8 = .ok (.i2l, 1) := by decide +kernel
theorem dL_fix_9 : decode cL_fix 9 = .ok (.lastore, 1) := by decide +kernel
theorem dL_fix_10 : decode cL_fix 10 = .ok (.goto 11, 3) := by decide +kernel
theorem dL_fix_13 : decode cL_fix 13 = .ok (.astore 4, 2) := by decide +kernel
theorem dL_fix_15 : decode cL_fix 15 = .ok (.iconst 1, 1) := by decide +kernel
theorem dL_fix_16 : decode cL_fix 16 = .ok (.ireturn, 1) := by decide +kernel
theorem dL_fix_17 : decode cL_fix 17 = .ok (.astore 4, 2) := by decide +kernel
theorem dL_fix_19 : decode cL_fix 19 = .ok (.iconst 2, 1) := by decide +kernel
theorem dL_fix_20 : decode cL_fix 20 = .ok (.ireturn, 1) := by decide +kernel
theorem dL_fix_21 : decode cL_fix 21 = .ok (.iconst 0, 1) := by decide +kernel
theorem dL_fix_22 : decode cL_fix 22 = .ok (.ireturn, 1) := by decide +kernel
theorem dL_free_0 : decode cL_free 0 = .ok (.aload_n 2, 1) := by decide +kernel
theorem dL_free_1 : decode cL_free 1 = .ok (.iconst 0, 1) := by decide +kernel
theorem dL_free_2 : decode cL_free 2 = .ok (.aload_n 0, 1) := by decide +kernel
theorem dL_free_3 : decode cL_free 3 = .ok (.iload_n 1, 1) := by decide +kernel
theorem dL_free_4 : decode cL_free 4 = .ok (.invokevirtual 50, 3) := by decide +kernel
theorem dL_free_7 : decode cL_free 7 = .ok (.i2l, 1) := by decide +kernel
theorem dL_free_8 : decode cL_free 8 = .ok (.lastore, 1) := by decide +kernel
theorem dL_free_9 : decode cL_free 9 = .ok (.goto 9, 3) := by decide +kernel
theorem dL_free_12 : decode cL_free 12 = .ok (.astore_n 3, 1) := by decide +kernel
theorem dL_free_13 : decode cL_free 13 = .ok (.iconst 1, 1) := by decide +kernel
theorem dL_free_14 : decode cL_free 14 = .ok (.ireturn, 1) := by decide +kernel
theorem dL_free_15 : decode cL_free 15 = .ok (.astore_n 3, 1) := by decide +kernel
theorem dL_free_16 : decode cL_free 16 = .ok (.iconst 2, 1) := by decide +kernel
theorem dL_free_17 : decode cL_free 17 = .ok (.ireturn, 1) := by decide +kernel
theorem dL_free_18 : decode cL_free 18 = .ok (.iconst 0, 1) := by decide +kernel
theorem dL_free_19 : decode cL_free 19 = .ok (.ireturn, 1) := by decide +kernel
theorem dL_fixed_0 : decode cL_fixed 0 = .ok (.aload_n 2, 1) := by decide +kernel
theorem dL_fixed_1 : decode cL_fixed 1 = .ok (.iconst 0, 1) := by decide +kernel
theorem dL_fixed_2 : decode cL_fixed 2 = .ok (.aload_n 0, 1) := by decide +kernel
theorem dL_fixed_3 : decode cL_fixed 3 = .ok (.iload_n 1, 1) := by decide +kernel
theorem dL_fixed_4 : decode cL_fixed 4 = .ok (.invokevirtual 53, 3) := by decide +kernel
theorem dL_fixed_7 : decode cL_fixed 7 = .ok (.i2l, 1) := by decide +kernel
theorem dL_fixed_8 : decode cL_fixed 8 = .ok (.lastore, 1) := by decide +kernel
theorem dL_fixed_9 : decode cL_fixed 9 = .ok (.goto 6, 3) := by decide +kernel
theorem dL_fixed_12 : decode cL_fixed 12 = .ok (.astore_n 3, 1) := by decide +kernel
theorem dL_fixed_13 : decode cL_fixed 13 = .ok (.iconst 1, 1) := by decide +kernel
theorem dL_fixed_14 : decode cL_fixed 14 = .ok (.ireturn, 1) := by decide +kernel
theorem dL_fixed_15 : decode cL_fixed 15 = .ok (.iconst 0, 1) := by decide +kernel
theorem dL_fixed_16 : decode cL_fixed 16 = .ok (.ireturn, 1) := by decide +kernel
theorem dL_entry_0 : decode cL_entry 0 = .ok (.aload_n 3, 1) := by decide +kernel
theorem dL_entry_1 : decode cL_entry 1 = .ok (.iconst 0, 1) := by decide +kernel
theorem dL_entry_2 : decode cL_entry 2 = .ok (.aload_n 0, 1) := by decide +kernel
theorem dL_entry_3 : decode cL_entry 3 = .ok (.iload_n 1, 1) := by decide +kernel
theorem dL_entry_4 : decode cL_entry 4 = .ok (.iload_n 2, 1) := by decide +kernel
theorem dL_entry_5 : decode cL_entry 5 = .ok (.invokevirtual 56, 3) := by decide +kernel
theorem dL_entry_8 : decode cL_entry 8 = .ok (.i2l, 1) := by decide +kernel
theorem dL_entry_9 : decode cL_entry 9 = .ok (.lastore, 1) := by decide +kernel
theorem dL_entry_10 : decode cL_entry 10 = .ok (.goto 11, 3) := by decide +kernel
theorem dL_entry_13 : decode cL_entry 13 = .ok (.astore 4, 2) := by decide +kernel
theorem dL_entry_15 : decode cL_entry 15 = .ok (.iconst 1, 1) := by decide +kernel
theorem dL_entry_16 : decode cL_entry 16 = .ok (.ireturn, 1) := by decide +kernel
theorem dL_entry_17 : decode cL_entry 17 = .ok (.astore 4, 2) := by decide +kernel
theorem dL_entry_19 : decode cL_entry 19 = .ok (.iconst 2, 1) := by decide +kernel
theorem dL_entry_20 : decode cL_entry 20 = .ok (.ireturn, 1) := by decide +kernel
theorem dL_entry_21 : decode cL_entry 21 = .ok (.iconst 0, 1) := by decide +kernel
theorem dL_entry_22 : decode cL_entry 22 = .ok (.ireturn, 1) := by decide +kernel
theorem dL_boundWith_0 : decode cL_boundWith 0 = .ok (.aload_n 3, 1) := by decide +kernel
theorem dL_boundWith_1 : decode cL_boundWith 1 = .ok (.iconst 0, 1) := by decide +kernel
theorem dL_boundWith_2 : decode cL_boundWith 2 = .ok (.aload_n 0, 1) := by decide +kernel
theorem dL_boundWith_3 : decode cL_boundWith 3 = .ok (.iload_n 1, 1) := by decide +kernel
theorem dL_boundWith_4 : decode cL_boundWith 4 = .ok (.iload_n 2, 1) := by decide +kernel
theorem dL_boundWith_5 : decode cL_boundWith 5 = .ok (.invokevirtual 59, 3) := by decide +kernel
theorem dL_boundWith_8 : decode cL_boundWith 8 = .ok (.i2l, 1) := by decide +kernel
theorem dL_boundWith_9 : decode cL_boundWith 9 = .ok (.lastore, 1) := by decide +kernel
theorem dL_boundWith_10 : decode cL_boundWith 10 = .ok (.goto 11, 3) := by decide +kernel
theorem dL_boundWith_13 : decode cL_boundWith 13 = .ok (.astore 4, 2) := by decide +kernel
theorem dL_boundWith_15 : decode cL_boundWith 15 = .ok (.iconst 1, 1) := by decide +kernel
theorem dL_boundWith_16 : decode cL_boundWith 16 = .ok (.ireturn, 1) := by decide +kernel
theorem dL_boundWith_17 : decode cL_boundWith 17 = .ok (.astore 4, 2) := by decide +kernel
theorem dL_boundWith_19 : decode cL_boundWith 19 = .ok (.iconst 2, 1) := by decide +kernel
theorem dL_boundWith_20 : decode cL_boundWith 20 = .ok (.ireturn, 1) := by decide +kernel
theorem dL_boundWith_21 : decode cL_boundWith 21 = .ok (.iconst 0, 1) := by decide +kernel
theorem dL_boundWith_22 : decode cL_boundWith 22 = .ok (.ireturn, 1) := by decide +kernel
theorem dL_regret_0 : decode cL_regret 0 = .ok (.aload_n 2, 1) := by decide +kernel
theorem dL_regret_1 : decode cL_regret 1 = .ok (.iconst 0, 1) := by decide +kernel
theorem dL_regret_2 : decode cL_regret 2 = .ok (.aload_n 0, 1) := by decide +kernel
theorem dL_regret_3 : decode cL_regret 3 = .ok (.iload_n 1, 1) := by decide +kernel
theorem dL_regret_4 : decode cL_regret 4 = .ok (.invokevirtual 62, 3) := by decide +kernel
theorem dL_regret_7 : decode cL_regret 7 = .ok (.i2l, 1) := by decide +kernel
theorem dL_regret_8 : decode cL_regret 8 = .ok (.lastore, 1) := by decide +kernel
theorem dL_regret_9 : decode cL_regret 9 = .ok (.goto 9, 3) := by decide +kernel
theorem dL_regret_12 : decode cL_regret 12 = .ok (.astore_n 3, 1) := by decide +kernel
theorem dL_regret_13 : decode cL_regret 13 = .ok (.iconst 1, 1) := by decide +kernel
theorem dL_regret_14 : decode cL_regret 14 = .ok (.ireturn, 1) := by decide +kernel
theorem dL_regret_15 : decode cL_regret 15 = .ok (.astore_n 3, 1) := by decide +kernel
theorem dL_regret_16 : decode cL_regret 16 = .ok (.iconst 2, 1) := by decide +kernel
theorem dL_regret_17 : decode cL_regret 17 = .ok (.ireturn, 1) := by decide +kernel
theorem dL_regret_18 : decode cL_regret 18 = .ok (.iconst 0, 1) := by decide +kernel
theorem dL_regret_19 : decode cL_regret 19 = .ok (.ireturn, 1) := by decide +kernel
theorem dL_representative_0 : decode cL_representative 0 = .ok (.aload_n 2, 1) := by decide +kernel
theorem dL_representative_1 : decode cL_representative 1 = .ok (.iconst 0, 1) := by decide +kernel
theorem dL_representative_2 : decode cL_representative 2 = .ok (.aload_n 0, 1) := by decide +kernel
theorem dL_representative_3 : decode cL_representative 3 = .ok (.iload_n 1, 1) := by decide +kernel
theorem dL_representative_4 : decode cL_representative 4 = .ok (.invokevirtual 65, 3) := by decide +kernel
theorem dL_representative_7 : decode cL_representative 7 = .ok (.i2l, 1) := by decide +kernel
theorem dL_representative_8 : decode cL_representative 8 = .ok (.lastore, 1) := by decide +kernel
theorem dL_representative_9 : decode cL_representative 9 = .ok (.goto 6, 3) := by decide +kernel
theorem dL_representative_12 : decode cL_representative 12 = .ok (.astore_n 3, 1) := by decide +kernel
theorem dL_representative_13 : decode cL_representative 13 = .ok (.iconst 1, 1) := by decide +kernel
theorem dL_representative_14 : decode cL_representative 14 = .ok (.ireturn, 1) := by decide +kernel
theorem dL_representative_15 : decode cL_representative 15 = .ok (.iconst 0, 1) := by decide +kernel
theorem dL_representative_16 : decode cL_representative 16 = .ok (.ireturn, 1) := by decide +kernel
theorem dL_found_0 : decode cL_found 0 = .ok (.aload_n 2, 1) := by decide +kernel
theorem dL_found_1 : decode cL_found 1 = .ok (.iconst 0, 1) := by decide +kernel
theorem dL_found_2 : decode cL_found 2 = .ok (.aload_n 0, 1) := by decide +kernel
theorem dL_found_3 : decode cL_found 3 = .ok (.iload_n 1, 1) := by decide +kernel
theorem dL_found_4 : decode cL_found 4 = .ok (.invokevirtual 68, 3) := by decide +kernel
theorem dL_found_7 : decode cL_found 7 = .ok (.i2l, 1) := by decide +kernel
theorem dL_found_8 : decode cL_found 8 = .ok (.lastore, 1) := by decide +kernel
theorem dL_found_9 : decode cL_found 9 = .ok (.goto 6, 3) := by decide +kernel
theorem dL_found_12 : decode cL_found 12 = .ok (.astore_n 3, 1) := by decide +kernel
theorem dL_found_13 : decode cL_found 13 = .ok (.iconst 1, 1) := by decide +kernel
theorem dL_found_14 : decode cL_found 14 = .ok (.ireturn, 1) := by decide +kernel
theorem dL_found_15 : decode cL_found 15 = .ok (.iconst 0, 1) := by decide +kernel
theorem dL_found_16 : decode cL_found 16 = .ok (.ireturn, 1) := by decide +kernel
theorem dL_nodes_0 : decode cL_nodes 0 = .ok (.aload_n 2, 1) := by decide +kernel
theorem dL_nodes_1 : decode cL_nodes 1 = .ok (.iconst 0, 1) := by decide +kernel
theorem dL_nodes_2 : decode cL_nodes 2 = .ok (.aload_n 0, 1) := by decide +kernel
theorem dL_nodes_3 : decode cL_nodes 3 = .ok (.iload_n 1, 1) := by decide +kernel
theorem dL_nodes_4 : decode cL_nodes 4 = .ok (.invokevirtual 71, 3) := by decide +kernel
theorem dL_nodes_7 : decode cL_nodes 7 = .ok (.i2l, 1) := by decide +kernel
theorem dL_nodes_8 : decode cL_nodes 8 = .ok (.lastore, 1) := by decide +kernel
theorem dL_nodes_9 : decode cL_nodes 9 = .ok (.goto 6, 3) := by decide +kernel
theorem dL_nodes_12 : decode cL_nodes 12 = .ok (.astore_n 3, 1) := by decide +kernel
theorem dL_nodes_13 : decode cL_nodes 13 = .ok (.iconst 1, 1) := by decide +kernel
theorem dL_nodes_14 : decode cL_nodes 14 = .ok (.ireturn, 1) := by decide +kernel
theorem dL_nodes_15 : decode cL_nodes 15 = .ok (.iconst 0, 1) := by decide +kernel
theorem dL_nodes_16 : decode cL_nodes 16 = .ok (.ireturn, 1) := by decide +kernel
theorem dL_type_0 : decode cL_type 0 = .ok (.aload_n 2, 1) := by decide +kernel
theorem dL_type_1 : decode cL_type 1 = .ok (.iconst 0, 1) := by decide +kernel
theorem dL_type_2 : decode cL_type 2 = .ok (.aload_n 0, 1) := by decide +kernel
theorem dL_type_3 : decode cL_type 3 = .ok (.iload_n 1, 1) := by decide +kernel
theorem dL_type_4 : decode cL_type 4 = .ok (.invokevirtual 74, 3) := by decide +kernel
theorem dL_type_7 : decode cL_type 7 = .ok (.i2l, 1) := by decide +kernel
theorem dL_type_8 : decode cL_type 8 = .ok (.lastore, 1) := by decide +kernel
theorem dL_type_9 : decode cL_type 9 = .ok (.goto 9, 3) := by decide +kernel
theorem dL_type_12 : decode cL_type 12 = .ok (.astore_n 3, 1) := by decide +kernel
theorem dL_type_13 : decode cL_type 13 = .ok (.iconst 1, 1) := by decide +kernel
theorem dL_type_14 : decode cL_type 14 = .ok (.ireturn, 1) := by decide +kernel
theorem dL_type_15 : decode cL_type 15 = .ok (.astore_n 3, 1) := by decide +kernel
theorem dL_type_16 : decode cL_type 16 = .ok (.iconst 2, 1) := by decide +kernel
theorem dL_type_17 : decode cL_type 17 = .ok (.ireturn, 1) := by decide +kernel
theorem dL_type_18 : decode cL_type 18 = .ok (.iconst 0, 1) := by decide +kernel
theorem dL_type_19 : decode cL_type 19 = .ok (.ireturn, 1) := by decide +kernel
theorem dL_run_0 : decode cL_run 0 = .ok (.aload_n 1, 1) := by decide +kernel
theorem dL_run_1 : decode cL_run 1 = .ok (.iconst 0, 1) := by decide +kernel
theorem dL_run_2 : decode cL_run 2 = .ok (.aload_n 0, 1) := by decide +kernel
theorem dL_run_3 : decode cL_run 3 = .ok (.invokevirtual 77, 3) := by decide +kernel
theorem dL_run_6 : decode cL_run 6 = .ok (.i2l, 1) := by decide +kernel
theorem dL_run_7 : decode cL_run 7 = .ok (.lastore, 1) := by decide +kernel
theorem dL_run_8 : decode cL_run 8 = .ok (.goto 6, 3) := by decide +kernel
theorem dL_run_11 : decode cL_run 11 = .ok (.astore_n 2, 1) := by decide +kernel
theorem dL_run_12 : decode cL_run 12 = .ok (.iconst 1, 1) := by decide +kernel
theorem dL_run_13 : decode cL_run 13 = .ok (.ireturn, 1) := by decide +kernel
theorem dL_run_14 : decode cL_run 14 = .ok (.iconst 0, 1) := by decide +kernel
theorem dL_run_15 : decode cL_run 15 = .ok (.ireturn, 1) := by decide +kernel
theorem dL_undo_0 : decode cL_undo 0 = .ok (.aload_n 1, 1) := by decide +kernel
theorem dL_undo_1 : decode cL_undo 1 = .ok (.iconst 0, 1) := by decide +kernel
theorem dL_undo_2 : decode cL_undo 2 = .ok (.aload_n 0, 1) := by decide +kernel
theorem dL_undo_3 : decode cL_undo 3 = .ok (.invokevirtual 81, 3) := by decide +kernel
theorem dL_undo_6 : decode cL_undo 6 = .ok (.i2l, 1) := by decide +kernel
theorem dL_undo_7 : decode cL_undo 7 = .ok (.lastore, 1) := by decide +kernel
theorem dL_undo_8 : decode cL_undo 8 = .ok (.goto 6, 3) := by decide +kernel
theorem dL_undo_11 : decode cL_undo 11 = .ok (.astore_n 2, 1) := by decide +kernel
theorem dL_undo_12 : decode cL_undo 12 = .ok (.iconst 1, 1) := by decide +kernel
theorem dL_undo_13 : decode cL_undo 13 = .ok (.ireturn, 1) := by decide +kernel
theorem dL_undo_14 : decode cL_undo 14 = .ok (.iconst 0, 1) := by decide +kernel
theorem dL_undo_15 : decode cL_undo 15 = .ok (.ireturn, 1) := by decide +kernel
theorem dL_law_0 : decode cL_law 0 = .ok (.new 8, 3) := by decide +kernel
theorem dL_law_3 : decode cL_law 3 = .ok (.dup, 1) := by decide +kernel
theorem dL_law_4 : decode cL_law 4 = .ok (.invokespecial 84, 3) := by decide +kernel
theorem dL_law_7 : decode cL_law 7 = .ok (.astore_n 1, 1) := by decide +kernel
theorem dL_law_8 : decode cL_law 8 = .ok (.new 85, 3) := by decide +kernel
theorem dL_law_11 : decode cL_law 11 = .ok (.dup, 1) := by decide +kernel
theorem dL_law_12 : decode cL_law 12 = .ok (.invokespecial 87, 3) := by decide +kernel
theorem dL_law_15 : decode cL_law 15 = .ok (.astore_n 2, 1) := by decide +kernel
theorem dL_law_16 : decode cL_law 16 = .ok (.iconst 1, 1) := by decide +kernel
theorem dL_law_17 : decode cL_law 17 = .ok (.newarray .long, 2) := by decide +kernel
theorem dL_law_19 : decode cL_law 19 = .ok (.astore_n 3, 1) := by decide +kernel
theorem dL_law_20 : decode cL_law 20 = .ok (.iconst 0, 1) := by decide +kernel
theorem dL_law_21 : decode cL_law 21 = .ok (.istore 4, 2) := by decide +kernel
theorem dL_law_23 : decode cL_law 23 = .ok (.iload 4, 2) := by decide +kernel
theorem dL_law_25 : decode cL_law 25 = .ok (.aload_n 0, 1) := by decide +kernel
theorem dL_law_26 : decode cL_law 26 = .ok (.arraylength, 1) := by decide +kernel
theorem dL_law_27 : decode cL_law 27 = .ok (.iconst 5, 1) := by decide +kernel
theorem dL_law_28 : decode cL_law 28 = .ok (.isub, 1) := by decide +kernel
theorem dL_law_29 : decode cL_law 29 = .ok (.if_icmp .gt 1824, 3) := by decide +kernel
theorem dL_law_32 : decode cL_law 32 = .ok (.aload_n 0, 1) := by decide +kernel
theorem dL_law_33 : decode cL_law 33 = .ok (.iload 4, 2) := by decide +kernel
theorem dL_law_35 : decode cL_law 35 = .ok (.iaload, 1) := by decide +kernel
theorem dL_law_36 : decode cL_law 36 = .ok (.bipush 63, 2) := by decide +kernel
theorem dL_law_38 : decode cL_law 38 = .ok (.iand, 1) := by decide +kernel
theorem dL_law_39 : decode cL_law 39 = .ok (.tableswitch 1808 0 38 #[169, 225, 238, 330, 410, 518, 574, 587, 643, 656, 724, 792, 805, 818, 843, 856, 869, 894, 950, 963, 1031, 1087, 1143, 1156, 1224, 1237, 1305, 1361, 1374, 1387, 1443, 1512, 1568, 1624, 1680, 1693, 1706, 1750, 1794], 169) := by decide +kernel
theorem dL_law_208 : decode cL_law 208 = .ok (.aload_n 1, 1) := by decide +kernel
theorem dL_law_209 : decode cL_law 209 = .ok (.aload_n 0, 1) := by decide +kernel
theorem dL_law_210 : decode cL_law 210 = .ok (.iload 4, 2) := by decide +kernel
theorem dL_law_212 : decode cL_law 212 = .ok (.iconst 1, 1) := by decide +kernel
theorem dL_law_213 : decode cL_law 213 = .ok (.iadd, 1) := by decide +kernel
theorem dL_law_214 : decode cL_law 214 = .ok (.iaload, 1) := by decide +kernel
theorem dL_law_215 : decode cL_law 215 = .ok (.aload_n 3, 1) := by decide +kernel
theorem dL_law_216 : decode cL_law 216 = .ok (.invokestatic 88, 3) := by decide +kernel
theorem dL_law_219 : decode cL_law 219 = .ok (.istore 5, 2) := by decide +kernel
theorem dL_law_221 : decode cL_law 221 = .ok (.aload_n 2, 1) := by decide +kernel
theorem dL_law_222 : decode cL_law 222 = .ok (.aload_n 0, 1) := by decide +kernel
theorem dL_law_223 : decode cL_law 223 = .ok (.iload 4, 2) := by decide +kernel
theorem dL_law_225 : decode cL_law 225 = .ok (.iconst 1, 1) := by decide +kernel
theorem dL_law_226 : decode cL_law 226 = .ok (.iadd, 1) := by decide +kernel
theorem dL_law_227 : decode cL_law 227 = .ok (.iaload, 1) := by decide +kernel
theorem dL_law_228 : decode cL_law 228 = .ok (.invokevirtual 93, 3) := by decide +kernel
theorem dL_law_231 : decode cL_law 231 = .ok (.istore 6, 2) := by decide +kernel
theorem dL_law_233 : decode cL_law 233 = .ok (.aload_n 2, 1) := by decide +kernel
theorem dL_law_234 : decode cL_law 234 = .ok (.invokevirtual 94, 3) := by decide +kernel
theorem dL_law_237 : decode cL_law 237 = .ok (.iload 5, 2) := by decide +kernel
theorem dL_law_239 : decode cL_law 239 = .ok (.if_icmp .eq 5, 3) := by decide +kernel
theorem dL_law_242 : decode cL_law 242 = .ok (.iconst 0, 1) := by decide +kernel
theorem dL_law_243 : decode cL_law 243 = .ok (.ireturn, 1) := by decide +kernel
theorem dL_law_244 : decode cL_law 244 = .ok (.iload 5, 2) := by decide +kernel
theorem dL_law_246 : decode cL_law 246 = .ok (.ifCond .ne 15, 3) := by decide +kernel
theorem dL_law_249 : decode cL_law 249 = .ok (.aload_n 3, 1) := by decide +kernel
theorem dL_law_250 : decode cL_law 250 = .ok (.iconst 0, 1) := by decide +kernel
theorem dL_law_251 : decode cL_law 251 = .ok (.laload, 1) := by decide +kernel
theorem dL_law_252 : decode cL_law 252 = .ok (.iload 6, 2) := by decide +kernel
theorem dL_law_254 : decode cL_law 254 = .ok (.i2l, 1) := by decide +kernel
theorem dL_law_255 : decode cL_law 255 = .ok (.lcmp, 1) := by decide +kernel
theorem dL_law_256 : decode cL_law 256 = .ok (.ifCond .eq 5, 3) := by decide +kernel
theorem dL_law_259 : decode cL_law 259 = .ok (.iconst 0, 1) := by decide +kernel
theorem dL_law_260 : decode cL_law 260 = .ok (.ireturn, 1) := by decide +kernel
theorem dL_law_261 : decode cL_law 261 = .ok (.goto 1586, 3) := by decide +kernel
theorem dL_law_264 : decode cL_law 264 = .ok (.aload_n 1, 1) := by decide +kernel
theorem dL_law_265 : decode cL_law 265 = .ok (.invokevirtual 97, 3) := by decide +kernel
theorem dL_law_268 : decode cL_law 268 = .ok (.aload_n 2, 1) := by decide +kernel
theorem dL_law_269 : decode cL_law 269 = .ok (.invokevirtual 100, 3) := by decide +kernel
theorem dL_law_272 : decode cL_law 272 = .ok (.if_icmp .eq 1575, 3) := by decide +kernel
theorem dL_law_275 : decode cL_law 275 = .ok (.iconst 0, 1) := by decide +kernel
theorem dL_law_276 : decode cL_law 276 = .ok (.ireturn, 1) := by decide +kernel
theorem dL_law_277 : decode cL_law 277 = .ok (.aload_n 1, 1) := by decide +kernel
theorem dL_law_278 : decode cL_law 278 = .ok (.aload_n 0, 1) := by decide +kernel
theorem dL_law_279 : decode cL_law 279 = .ok (.iload 4, 2) := by decide +kernel
theorem dL_law_281 : decode cL_law 281 = .ok (.iconst 1, 1) := by decide +kernel
theorem dL_law_282 : decode cL_law 282 = .ok (.iadd, 1) := by decide +kernel
theorem dL_law_283 : decode cL_law 283 = .ok (.iaload, 1) := by decide +kernel
theorem dL_law_284 : decode cL_law 284 = .ok (.aload_n 0, 1) := by decide +kernel
theorem dL_law_285 : decode cL_law 285 = .ok (.iload 4, 2) := by decide +kernel
theorem dL_law_287 : decode cL_law 287 = .ok (.iconst 2, 1) := by decide +kernel
theorem dL_law_288 : decode cL_law 288 = .ok (.iadd, 1) := by decide +kernel
theorem dL_law_289 : decode cL_law 289 = .ok (.iaload, 1) := by decide +kernel
theorem dL_law_290 : decode cL_law 290 = .ok (.aload_n 0, 1) := by decide +kernel
theorem dL_law_291 : decode cL_law 291 = .ok (.iload 4, 2) := by decide +kernel
theorem dL_law_293 : decode cL_law 293 = .ok (.iconst 3, 1) := by decide +kernel
theorem dL_law_294 : decode cL_law 294 = .ok (.iadd, 1) := by decide +kernel
theorem dL_law_295 : decode cL_law 295 = .ok (.iaload, 1) := by decide +kernel
theorem dL_law_296 : decode cL_law 296 = .ok (.aload_n 0, 1) := by decide +kernel
theorem dL_law_297 : decode cL_law 297 = .ok (.iload 4, 2) := by decide +kernel
theorem dL_law_299 : decode cL_law 299 = .ok (.iconst 4, 1) := by decide +kernel
theorem dL_law_300 : decode cL_law 300 = .ok (.iadd, 1) := by decide +kernel
theorem dL_law_301 : decode cL_law 301 = .ok (.iaload, 1) := by decide +kernel
theorem dL_law_302 : decode cL_law 302 = .ok (.aload_n 3, 1) := by decide +kernel
theorem dL_law_303 : decode cL_law 303 = .ok (.invokestatic 101, 3) := by decide +kernel
theorem dL_law_306 : decode cL_law 306 = .ok (.istore 5, 2) := by decide +kernel
theorem dL_law_308 : decode cL_law 308 = .ok (.aload_n 2, 1) := by decide +kernel
theorem dL_law_309 : decode cL_law 309 = .ok (.aload_n 0, 1) := by decide +kernel
theorem dL_law_310 : decode cL_law 310 = .ok (.iload 4, 2) := by decide +kernel
theorem dL_law_312 : decode cL_law 312 = .ok (.iconst 1, 1) := by decide +kernel
theorem dL_law_313 : decode cL_law 313 = .ok (.iadd, 1) := by decide +kernel
theorem dL_law_314 : decode cL_law 314 = .ok (.iaload, 1) := by decide +kernel
theorem dL_law_315 : decode cL_law 315 = .ok (.aload_n 0, 1) := by decide +kernel
theorem dL_law_316 : decode cL_law 316 = .ok (.iload 4, 2) := by decide +kernel
theorem dL_law_318 : decode cL_law 318 = .ok (.iconst 2, 1) := by decide +kernel
theorem dL_law_319 : decode cL_law 319 = .ok (.iadd, 1) := by decide +kernel
theorem dL_law_320 : decode cL_law 320 = .ok (.iaload, 1) := by decide +kernel
theorem dL_law_321 : decode cL_law 321 = .ok (.aload_n 0, 1) := by decide +kernel
theorem dL_law_322 : decode cL_law 322 = .ok (.iload 4, 2) := by decide +kernel
theorem dL_law_324 : decode cL_law 324 = .ok (.iconst 3, 1) := by decide +kernel
theorem dL_law_325 : decode cL_law 325 = .ok (.iadd, 1) := by decide +kernel
theorem dL_law_326 : decode cL_law 326 = .ok (.iaload, 1) := by decide +kernel
theorem dL_law_327 : decode cL_law 327 = .ok (.aload_n 0, 1) := by decide +kernel
theorem dL_law_328 : decode cL_law 328 = .ok (.iload 4, 2) := by decide +kernel
theorem dL_law_330 : decode cL_law 330 = .ok (.iconst 4, 1) := by decide +kernel
theorem dL_law_331 : decode cL_law 331 = .ok (.iadd, 1) := by decide +kernel
theorem dL_law_332 : decode cL_law 332 = .ok (.iaload, 1) := by decide +kernel
theorem dL_law_333 : decode cL_law 333 = .ok (.invokevirtual 104, 3) := by decide +kernel
theorem dL_law_336 : decode cL_law 336 = .ok (.istore 6, 2) := by decide +kernel
theorem dL_law_338 : decode cL_law 338 = .ok (.aload_n 2, 1) := by decide +kernel
theorem dL_law_339 : decode cL_law 339 = .ok (.invokevirtual 94, 3) := by decide +kernel
theorem dL_law_342 : decode cL_law 342 = .ok (.iload 5, 2) := by decide +kernel
theorem dL_law_344 : decode cL_law 344 = .ok (.if_icmp .eq 5, 3) := by decide +kernel
theorem dL_law_347 : decode cL_law 347 = .ok (.iconst 0, 1) := by decide +kernel
theorem dL_law_348 : decode cL_law 348 = .ok (.ireturn, 1) := by decide +kernel
theorem dL_law_349 : decode cL_law 349 = .ok (.iload 5, 2) := by decide +kernel
theorem dL_law_351 : decode cL_law 351 = .ok (.ifCond .ne 15, 3) := by decide +kernel
theorem dL_law_354 : decode cL_law 354 = .ok (.aload_n 3, 1) := by decide +kernel
theorem dL_law_355 : decode cL_law 355 = .ok (.iconst 0, 1) := by decide +kernel
theorem dL_law_356 : decode cL_law 356 = .ok (.laload, 1) := by decide +kernel
theorem dL_law_357 : decode cL_law 357 = .ok (.iload 6, 2) := by decide +kernel
theorem dL_law_359 : decode cL_law 359 = .ok (.i2l, 1) := by decide +kernel
theorem dL_law_360 : decode cL_law 360 = .ok (.lcmp, 1) := by decide +kernel
theorem dL_law_361 : decode cL_law 361 = .ok (.ifCond .eq 5, 3) := by decide +kernel
theorem dL_law_364 : decode cL_law 364 = .ok (.iconst 0, 1) := by decide +kernel
theorem dL_law_365 : decode cL_law 365 = .ok (.ireturn, 1) := by decide +kernel
theorem dL_law_366 : decode cL_law 366 = .ok (.goto 1481, 3) := by decide +kernel
theorem dL_law_369 : decode cL_law 369 = .ok (.aload_n 1, 1) := by decide +kernel
theorem dL_law_370 : decode cL_law 370 = .ok (.aload_n 0, 1) := by decide +kernel
theorem dL_law_371 : decode cL_law 371 = .ok (.iload 4, 2) := by decide +kernel
theorem dL_law_373 : decode cL_law 373 = .ok (.iconst 1, 1) := by decide +kernel
theorem dL_law_374 : decode cL_law 374 = .ok (.iadd, 1) := by decide +kernel
theorem dL_law_375 : decode cL_law 375 = .ok (.iaload, 1) := by decide +kernel
theorem dL_law_376 : decode cL_law 376 = .ok (.aload_n 0, 1) := by decide +kernel
theorem dL_law_377 : decode cL_law 377 = .ok (.iload 4, 2) := by decide +kernel
theorem dL_law_379 : decode cL_law 379 = .ok (.iconst 2, 1) := by decide +kernel
theorem dL_law_380 : decode cL_law 380 = .ok (.iadd, 1) := by decide +kernel
theorem dL_law_381 : decode cL_law 381 = .ok (.iaload, 1) := by decide +kernel
theorem dL_law_382 : decode cL_law 382 = .ok (.aload_n 0, 1) := by decide +kernel
theorem dL_law_383 : decode cL_law 383 = .ok (.iload 4, 2) := by decide +kernel
theorem dL_law_385 : decode cL_law 385 = .ok (.iconst 3, 1) := by decide +kernel
theorem dL_law_386 : decode cL_law 386 = .ok (.iadd, 1) := by decide +kernel
theorem dL_law_387 : decode cL_law 387 = .ok (.iaload, 1) := by decide +kernel
theorem dL_law_388 : decode cL_law 388 = .ok (.aload_n 3, 1) := by decide +kernel
theorem dL_law_389 : decode cL_law 389 = .ok (.invokestatic 105, 3) := by decide +kernel
theorem dL_law_392 : decode cL_law 392 = .ok (.istore 5, 2) := by decide +kernel
theorem dL_law_394 : decode cL_law 394 = .ok (.aload_n 2, 1) := by decide +kernel
theorem dL_law_395 : decode cL_law 395 = .ok (.aload_n 0, 1) := by decide +kernel
theorem dL_law_396 : decode cL_law 396 = .ok (.iload 4, 2) := by decide +kernel
theorem dL_law_398 : decode cL_law 398 = .ok (.iconst 1, 1) := by decide +kernel
theorem dL_law_399 : decode cL_law 399 = .ok (.iadd, 1) := by decide +kernel
theorem dL_law_400 : decode cL_law 400 = .ok (.iaload, 1) := by decide +kernel
theorem dL_law_401 : decode cL_law 401 = .ok (.aload_n 0, 1) := by decide +kernel
theorem dL_law_402 : decode cL_law 402 = .ok (.iload 4, 2) := by decide +kernel
theorem dL_law_404 : decode cL_law 404 = .ok (.iconst 2, 1) := by decide +kernel
theorem dL_law_405 : decode cL_law 405 = .ok (.iadd, 1) := by decide +kernel
theorem dL_law_406 : decode cL_law 406 = .ok (.iaload, 1) := by decide +kernel
theorem dL_law_407 : decode cL_law 407 = .ok (.aload_n 0, 1) := by decide +kernel
theorem dL_law_408 : decode cL_law 408 = .ok (.iload 4, 2) := by decide +kernel
theorem dL_law_410 : decode cL_law 410 = .ok (.iconst 3, 1) := by decide +kernel
theorem dL_law_411 : decode cL_law 411 = .ok (.iadd, 1) := by decide +kernel
theorem dL_law_412 : decode cL_law 412 = .ok (.iaload, 1) := by decide +kernel
theorem dL_law_413 : decode cL_law 413 = .ok (.invokevirtual 108, 3) := by decide +kernel
theorem dL_law_416 : decode cL_law 416 = .ok (.istore 6, 2) := by decide +kernel
theorem dL_law_418 : decode cL_law 418 = .ok (.aload_n 2, 1) := by decide +kernel
theorem dL_law_419 : decode cL_law 419 = .ok (.invokevirtual 94, 3) := by decide +kernel
theorem dL_law_422 : decode cL_law 422 = .ok (.iload 5, 2) := by decide +kernel
theorem dL_law_424 : decode cL_law 424 = .ok (.if_icmp .eq 5, 3) := by decide +kernel
theorem dL_law_427 : decode cL_law 427 = .ok (.iconst 0, 1) := by decide +kernel
theorem dL_law_428 : decode cL_law 428 = .ok (.ireturn, 1) := by decide +kernel
theorem dL_law_429 : decode cL_law 429 = .ok (.iload 5, 2) := by decide +kernel
theorem dL_law_431 : decode cL_law 431 = .ok (.ifCond .ne 15, 3) := by decide +kernel
theorem dL_law_434 : decode cL_law 434 = .ok (.aload_n 3, 1) := by decide +kernel
theorem dL_law_435 : decode cL_law 435 = .ok (.iconst 0, 1) := by decide +kernel
theorem dL_law_436 : decode cL_law 436 = .ok (.laload, 1) := by decide +kernel
theorem dL_law_437 : decode cL_law 437 = .ok (.iload 6, 2) := by decide +kernel
theorem dL_law_439 : decode cL_law 439 = .ok (.i2l, 1) := by decide +kernel
theorem dL_law_440 : decode cL_law 440 = .ok (.lcmp, 1) := by decide +kernel
theorem dL_law_441 : decode cL_law 441 = .ok (.ifCond .eq 5, 3) := by decide +kernel
theorem dL_law_444 : decode cL_law 444 = .ok (.iconst 0, 1) := by decide +kernel
theorem dL_law_445 : decode cL_law 445 = .ok (.ireturn, 1) := by decide +kernel
theorem dL_law_446 : decode cL_law 446 = .ok (.goto 1401, 3) := by decide +kernel
theorem dL_law_449 : decode cL_law 449 = .ok (.aload_n 1, 1) := by decide +kernel
theorem dL_law_450 : decode cL_law 450 = .ok (.aload_n 0, 1) := by decide +kernel
theorem dL_law_451 : decode cL_law 451 = .ok (.iload 4, 2) := by decide +kernel
theorem dL_law_453 : decode cL_law 453 = .ok (.iconst 1, 1) := by decide +kernel
theorem dL_law_454 : decode cL_law 454 = .ok (.iadd, 1) := by decide +kernel
theorem dL_law_455 : decode cL_law 455 = .ok (.iaload, 1) := by decide +kernel
theorem dL_law_456 : decode cL_law 456 = .ok (.aload_n 0, 1) := by decide +kernel
theorem dL_law_457 : decode cL_law 457 = .ok (.iload 4, 2) := by decide +kernel
theorem dL_law_459 : decode cL_law 459 = .ok (.iconst 2, 1) := by decide +kernel
theorem dL_law_460 : decode cL_law 460 = .ok (.iadd, 1) := by decide +kernel
theorem dL_law_461 : decode cL_law 461 = .ok (.iaload, 1) := by decide +kernel
theorem dL_law_462 : decode cL_law 462 = .ok (.aload_n 0, 1) := by decide +kernel
theorem dL_law_463 : decode cL_law 463 = .ok (.iload 4, 2) := by decide +kernel
theorem dL_law_465 : decode cL_law 465 = .ok (.iconst 3, 1) := by decide +kernel
theorem dL_law_466 : decode cL_law 466 = .ok (.iadd, 1) := by decide +kernel
theorem dL_law_467 : decode cL_law 467 = .ok (.iaload, 1) := by decide +kernel
theorem dL_law_468 : decode cL_law 468 = .ok (.aload_n 0, 1) := by decide +kernel
theorem dL_law_469 : decode cL_law 469 = .ok (.iload 4, 2) := by decide +kernel
theorem dL_law_471 : decode cL_law 471 = .ok (.iconst 4, 1) := by decide +kernel
theorem dL_law_472 : decode cL_law 472 = .ok (.iadd, 1) := by decide +kernel
theorem dL_law_473 : decode cL_law 473 = .ok (.iaload, 1) := by decide +kernel
theorem dL_law_474 : decode cL_law 474 = .ok (.ifCond .eq 7, 3) := by decide +kernel
theorem dL_law_477 : decode cL_law 477 = .ok (.iconst 1, 1) := by decide +kernel
theorem dL_law_478 : decode cL_law 478 = .ok (.goto 4, 3) := by decide +kernel
theorem dL_law_481 : decode cL_law 481 = .ok (.iconst 0, 1) := by decide +kernel
theorem dL_law_482 : decode cL_law 482 = .ok (.aload_n 3, 1) := by decide +kernel
theorem dL_law_483 : decode cL_law 483 = .ok (.invokestatic 109, 3) := by decide +kernel
theorem dL_law_486 : decode cL_law 486 = .ok (.istore 5, 2) := by decide +kernel
theorem dL_law_488 : decode cL_law 488 = .ok (.aload_n 2, 1) := by decide +kernel
theorem dL_law_489 : decode cL_law 489 = .ok (.aload_n 0, 1) := by decide +kernel
theorem dL_law_490 : decode cL_law 490 = .ok (.iload 4, 2) := by decide +kernel
theorem dL_law_492 : decode cL_law 492 = .ok (.iconst 1, 1) := by decide +kernel
theorem dL_law_493 : decode cL_law 493 = .ok (.iadd, 1) := by decide +kernel
theorem dL_law_494 : decode cL_law 494 = .ok (.iaload, 1) := by decide +kernel
theorem dL_law_495 : decode cL_law 495 = .ok (.aload_n 0, 1) := by decide +kernel
theorem dL_law_496 : decode cL_law 496 = .ok (.iload 4, 2) := by decide +kernel
theorem dL_law_498 : decode cL_law 498 = .ok (.iconst 2, 1) := by decide +kernel
theorem dL_law_499 : decode cL_law 499 = .ok (.iadd, 1) := by decide +kernel
theorem dL_law_500 : decode cL_law 500 = .ok (.iaload, 1) := by decide +kernel
theorem dL_law_501 : decode cL_law 501 = .ok (.aload_n 0, 1) := by decide +kernel
theorem dL_law_502 : decode cL_law 502 = .ok (.iload 4, 2) := by decide +kernel
theorem dL_law_504 : decode cL_law 504 = .ok (.iconst 3, 1) := by decide +kernel
theorem dL_law_505 : decode cL_law 505 = .ok (.iadd, 1) := by decide +kernel
theorem dL_law_506 : decode cL_law 506 = .ok (.iaload, 1) := by decide +kernel
theorem dL_law_507 : decode cL_law 507 = .ok (.aload_n 0, 1) := by decide +kernel
theorem dL_law_508 : decode cL_law 508 = .ok (.iload 4, 2) := by decide +kernel
theorem dL_law_510 : decode cL_law 510 = .ok (.iconst 4, 1) := by decide +kernel
theorem dL_law_511 : decode cL_law 511 = .ok (.iadd, 1) := by decide +kernel
theorem dL_law_512 : decode cL_law 512 = .ok (.iaload, 1) := by decide +kernel
theorem dL_law_513 : decode cL_law 513 = .ok (.ifCond .eq 7, 3) := by decide +kernel
theorem dL_law_516 : decode cL_law 516 = .ok (.iconst 1, 1) := by decide +kernel
theorem dL_law_517 : decode cL_law 517 = .ok (.goto 4, 3) := by decide +kernel
theorem dL_law_520 : decode cL_law 520 = .ok (.iconst 0, 1) := by decide +kernel
theorem dL_law_521 : decode cL_law 521 = .ok (.invokevirtual 112, 3) := by decide +kernel
theorem dL_law_524 : decode cL_law 524 = .ok (.istore 6, 2) := by decide +kernel
theorem dL_law_526 : decode cL_law 526 = .ok (.aload_n 2, 1) := by decide +kernel
theorem dL_law_527 : decode cL_law 527 = .ok (.invokevirtual 94, 3) := by decide +kernel
theorem dL_law_530 : decode cL_law 530 = .ok (.iload 5, 2) := by decide +kernel
theorem dL_law_532 : decode cL_law 532 = .ok (.if_icmp .eq 5, 3) := by decide +kernel
theorem dL_law_535 : decode cL_law 535 = .ok (.iconst 0, 1) := by decide +kernel
theorem dL_law_536 : decode cL_law 536 = .ok (.ireturn, 1) := by decide +kernel
theorem dL_law_537 : decode cL_law 537 = .ok (.iload 5, 2) := by decide +kernel
theorem dL_law_539 : decode cL_law 539 = .ok (.ifCond .ne 15, 3) := by decide +kernel
theorem dL_law_542 : decode cL_law 542 = .ok (.aload_n 3, 1) := by decide +kernel
theorem dL_law_543 : decode cL_law 543 = .ok (.iconst 0, 1) := by decide +kernel
theorem dL_law_544 : decode cL_law 544 = .ok (.laload, 1) := by decide +kernel
theorem dL_law_545 : decode cL_law 545 = .ok (.iload 6, 2) := by decide +kernel
theorem dL_law_547 : decode cL_law 547 = .ok (.i2l, 1) := by decide +kernel
theorem dL_law_548 : decode cL_law 548 = .ok (.lcmp, 1) := by decide +kernel
theorem dL_law_549 : decode cL_law 549 = .ok (.ifCond .eq 5, 3) := by decide +kernel
theorem dL_law_552 : decode cL_law 552 = .ok (.iconst 0, 1) := by decide +kernel
theorem dL_law_553 : decode cL_law 553 = .ok (.ireturn, 1) := by decide +kernel
theorem dL_law_554 : decode cL_law 554 = .ok (.goto 1293, 3) := by decide +kernel
theorem dL_law_557 : decode cL_law 557 = .ok (.aload_n 1, 1) := by decide +kernel
theorem dL_law_558 : decode cL_law 558 = .ok (.aload_n 0, 1) := by decide +kernel
theorem dL_law_559 : decode cL_law 559 = .ok (.iload 4, 2) := by decide +kernel
theorem dL_law_561 : decode cL_law 561 = .ok (.iconst 1, 1) := by decide +kernel
theorem dL_law_562 : decode cL_law 562 = .ok (.iadd, 1) := by decide +kernel
theorem dL_law_563 : decode cL_law 563 = .ok (.iaload, 1) := by decide +kernel
theorem dL_law_564 : decode cL_law 564 = .ok (.aload_n 3, 1) := by decide +kernel
theorem dL_law_565 : decode cL_law 565 = .ok (.invokestatic 113, 3) := by decide +kernel
theorem dL_law_568 : decode cL_law 568 = .ok (.istore 5, 2) := by decide +kernel
theorem dL_law_570 : decode cL_law 570 = .ok (.aload_n 2, 1) := by decide +kernel
theorem dL_law_571 : decode cL_law 571 = .ok (.aload_n 0, 1) := by decide +kernel
theorem dL_law_572 : decode cL_law 572 = .ok (.iload 4, 2) := by decide +kernel
theorem dL_law_574 : decode cL_law 574 = .ok (.iconst 1, 1) := by decide +kernel
theorem dL_law_575 : decode cL_law 575 = .ok (.iadd, 1) := by decide +kernel
theorem dL_law_576 : decode cL_law 576 = .ok (.iaload, 1) := by decide +kernel
theorem dL_law_577 : decode cL_law 577 = .ok (.invokevirtual 115, 3) := by decide +kernel
theorem dL_law_580 : decode cL_law 580 = .ok (.istore 6, 2) := by decide +kernel
theorem dL_law_582 : decode cL_law 582 = .ok (.aload_n 2, 1) := by decide +kernel
theorem dL_law_583 : decode cL_law 583 = .ok (.invokevirtual 94, 3) := by decide +kernel
theorem dL_law_586 : decode cL_law 586 = .ok (.iload 5, 2) := by decide +kernel
theorem dL_law_588 : decode cL_law 588 = .ok (.if_icmp .eq 5, 3) := by decide +kernel
theorem dL_law_591 : decode cL_law 591 = .ok (.iconst 0, 1) := by decide +kernel
theorem dL_law_592 : decode cL_law 592 = .ok (.ireturn, 1) := by decide +kernel
theorem dL_law_593 : decode cL_law 593 = .ok (.iload 5, 2) := by decide +kernel
theorem dL_law_595 : decode cL_law 595 = .ok (.ifCond .ne 15, 3) := by decide +kernel
theorem dL_law_598 : decode cL_law 598 = .ok (.aload_n 3, 1) := by decide +kernel
theorem dL_law_599 : decode cL_law 599 = .ok (.iconst 0, 1) := by decide +kernel
theorem dL_law_600 : decode cL_law 600 = .ok (.laload, 1) := by decide +kernel
theorem dL_law_601 : decode cL_law 601 = .ok (.iload 6, 2) := by decide +kernel
theorem dL_law_603 : decode cL_law 603 = .ok (.i2l, 1) := by decide +kernel
theorem dL_law_604 : decode cL_law 604 = .ok (.lcmp, 1) := by decide +kernel
theorem dL_law_605 : decode cL_law 605 = .ok (.ifCond .eq 5, 3) := by decide +kernel
theorem dL_law_608 : decode cL_law 608 = .ok (.iconst 0, 1) := by decide +kernel
theorem dL_law_609 : decode cL_law 609 = .ok (.ireturn, 1) := by decide +kernel
theorem dL_law_610 : decode cL_law 610 = .ok (.goto 1237, 3) := by decide +kernel
theorem dL_law_613 : decode cL_law 613 = .ok (.aload_n 1, 1) := by decide +kernel
theorem dL_law_614 : decode cL_law 614 = .ok (.invokevirtual 116, 3) := by decide +kernel
theorem dL_law_617 : decode cL_law 617 = .ok (.aload_n 2, 1) := by decide +kernel
theorem dL_law_618 : decode cL_law 618 = .ok (.invokevirtual 119, 3) := by decide +kernel
theorem dL_law_621 : decode cL_law 621 = .ok (.if_icmp .eq 1226, 3) := by decide +kernel
theorem dL_law_624 : decode cL_law 624 = .ok (.iconst 0, 1) := by decide +kernel
theorem dL_law_625 : decode cL_law 625 = .ok (.ireturn, 1) := by decide +kernel
theorem dL_law_626 : decode cL_law 626 = .ok (.aload_n 1, 1) := by decide +kernel
theorem dL_law_627 : decode cL_law 627 = .ok (.aload_n 0, 1) := by decide +kernel
theorem dL_law_628 : decode cL_law 628 = .ok (.iload 4, 2) := by decide +kernel
theorem dL_law_630 : decode cL_law 630 = .ok (.iconst 1, 1) := by decide +kernel
theorem dL_law_631 : decode cL_law 631 = .ok (.iadd, 1) := by decide +kernel
theorem dL_law_632 : decode cL_law 632 = .ok (.iaload, 1) := by decide +kernel
theorem dL_law_633 : decode cL_law 633 = .ok (.aload_n 3, 1) := by decide +kernel
theorem dL_law_634 : decode cL_law 634 = .ok (.invokestatic 120, 3) := by decide +kernel
theorem dL_law_637 : decode cL_law 637 = .ok (.istore 5, 2) := by decide +kernel
theorem dL_law_639 : decode cL_law 639 = .ok (.aload_n 2, 1) := by decide +kernel
theorem dL_law_640 : decode cL_law 640 = .ok (.aload_n 0, 1) := by decide +kernel
theorem dL_law_641 : decode cL_law 641 = .ok (.iload 4, 2) := by decide +kernel
theorem dL_law_643 : decode cL_law 643 = .ok (.iconst 1, 1) := by decide +kernel
theorem dL_law_644 : decode cL_law 644 = .ok (.iadd, 1) := by decide +kernel
theorem dL_law_645 : decode cL_law 645 = .ok (.iaload, 1) := by decide +kernel
theorem dL_law_646 : decode cL_law 646 = .ok (.invokevirtual 122, 3) := by decide +kernel
theorem dL_law_649 : decode cL_law 649 = .ok (.istore 6, 2) := by decide +kernel
theorem dL_law_651 : decode cL_law 651 = .ok (.aload_n 2, 1) := by decide +kernel
theorem dL_law_652 : decode cL_law 652 = .ok (.invokevirtual 94, 3) := by decide +kernel
theorem dL_law_655 : decode cL_law 655 = .ok (.iload 5, 2) := by decide +kernel
theorem dL_law_657 : decode cL_law 657 = .ok (.if_icmp .eq 5, 3) := by decide +kernel
theorem dL_law_660 : decode cL_law 660 = .ok (.iconst 0, 1) := by decide +kernel
theorem dL_law_661 : decode cL_law 661 = .ok (.ireturn, 1) := by decide +kernel
theorem dL_law_662 : decode cL_law 662 = .ok (.iload 5, 2) := by decide +kernel
theorem dL_law_664 : decode cL_law 664 = .ok (.ifCond .ne 15, 3) := by decide +kernel
theorem dL_law_667 : decode cL_law 667 = .ok (.aload_n 3, 1) := by decide +kernel
theorem dL_law_668 : decode cL_law 668 = .ok (.iconst 0, 1) := by decide +kernel
theorem dL_law_669 : decode cL_law 669 = .ok (.laload, 1) := by decide +kernel
theorem dL_law_670 : decode cL_law 670 = .ok (.iload 6, 2) := by decide +kernel
theorem dL_law_672 : decode cL_law 672 = .ok (.i2l, 1) := by decide +kernel
theorem dL_law_673 : decode cL_law 673 = .ok (.lcmp, 1) := by decide +kernel
theorem dL_law_674 : decode cL_law 674 = .ok (.ifCond .eq 5, 3) := by decide +kernel
theorem dL_law_677 : decode cL_law 677 = .ok (.iconst 0, 1) := by decide +kernel
theorem dL_law_678 : decode cL_law 678 = .ok (.ireturn, 1) := by decide +kernel
theorem dL_law_679 : decode cL_law 679 = .ok (.goto 1168, 3) := by decide +kernel
theorem dL_law_682 : decode cL_law 682 = .ok (.aload_n 1, 1) := by decide +kernel
theorem dL_law_683 : decode cL_law 683 = .ok (.invokevirtual 123, 3) := by decide +kernel
theorem dL_law_686 : decode cL_law 686 = .ok (.aload_n 2, 1) := by decide +kernel
theorem dL_law_687 : decode cL_law 687 = .ok (.invokevirtual 126, 3) := by decide +kernel
theorem dL_law_690 : decode cL_law 690 = .ok (.if_icmp .eq 1157, 3) := by decide +kernel
theorem dL_law_693 : decode cL_law 693 = .ok (.iconst 0, 1) := by decide +kernel
theorem dL_law_694 : decode cL_law 694 = .ok (.ireturn, 1) := by decide +kernel
theorem dL_law_695 : decode cL_law 695 = .ok (.aload_n 1, 1) := by decide +kernel
theorem dL_law_696 : decode cL_law 696 = .ok (.aload_n 0, 1) := by decide +kernel
theorem dL_law_697 : decode cL_law 697 = .ok (.iload 4, 2) := by decide +kernel
theorem dL_law_699 : decode cL_law 699 = .ok (.iconst 1, 1) := by decide +kernel
theorem dL_law_700 : decode cL_law 700 = .ok (.iadd, 1) := by decide +kernel
theorem dL_law_701 : decode cL_law 701 = .ok (.iaload, 1) := by decide +kernel
theorem dL_law_702 : decode cL_law 702 = .ok (.aload_n 0, 1) := by decide +kernel
theorem dL_law_703 : decode cL_law 703 = .ok (.iload 4, 2) := by decide +kernel
theorem dL_law_705 : decode cL_law 705 = .ok (.iconst 2, 1) := by decide +kernel
theorem dL_law_706 : decode cL_law 706 = .ok (.iadd, 1) := by decide +kernel
theorem dL_law_707 : decode cL_law 707 = .ok (.iaload, 1) := by decide +kernel
theorem dL_law_708 : decode cL_law 708 = .ok (.aload_n 3, 1) := by decide +kernel
theorem dL_law_709 : decode cL_law 709 = .ok (.invokestatic 127, 3) := by decide +kernel
theorem dL_law_712 : decode cL_law 712 = .ok (.istore 5, 2) := by decide +kernel
theorem dL_law_714 : decode cL_law 714 = .ok (.aload_n 2, 1) := by decide +kernel
theorem dL_law_715 : decode cL_law 715 = .ok (.aload_n 0, 1) := by decide +kernel
theorem dL_law_716 : decode cL_law 716 = .ok (.iload 4, 2) := by decide +kernel
theorem dL_law_718 : decode cL_law 718 = .ok (.iconst 1, 1) := by decide +kernel
theorem dL_law_719 : decode cL_law 719 = .ok (.iadd, 1) := by decide +kernel
theorem dL_law_720 : decode cL_law 720 = .ok (.iaload, 1) := by decide +kernel
theorem dL_law_721 : decode cL_law 721 = .ok (.aload_n 0, 1) := by decide +kernel
theorem dL_law_722 : decode cL_law 722 = .ok (.iload 4, 2) := by decide +kernel
theorem dL_law_724 : decode cL_law 724 = .ok (.iconst 2, 1) := by decide +kernel
theorem dL_law_725 : decode cL_law 725 = .ok (.iadd, 1) := by decide +kernel
theorem dL_law_726 : decode cL_law 726 = .ok (.iaload, 1) := by decide +kernel
theorem dL_law_727 : decode cL_law 727 = .ok (.invokevirtual 130, 3) := by decide +kernel
theorem dL_law_730 : decode cL_law 730 = .ok (.istore 6, 2) := by decide +kernel
theorem dL_law_732 : decode cL_law 732 = .ok (.aload_n 2, 1) := by decide +kernel
theorem dL_law_733 : decode cL_law 733 = .ok (.invokevirtual 94, 3) := by decide +kernel
theorem dL_law_736 : decode cL_law 736 = .ok (.iload 5, 2) := by decide +kernel
theorem dL_law_738 : decode cL_law 738 = .ok (.if_icmp .eq 5, 3) := by decide +kernel
theorem dL_law_741 : decode cL_law 741 = .ok (.iconst 0, 1) := by decide +kernel
theorem dL_law_742 : decode cL_law 742 = .ok (.ireturn, 1) := by decide +kernel
theorem dL_law_743 : decode cL_law 743 = .ok (.iload 5, 2) := by decide +kernel
theorem dL_law_745 : decode cL_law 745 = .ok (.ifCond .ne 15, 3) := by decide +kernel
theorem dL_law_748 : decode cL_law 748 = .ok (.aload_n 3, 1) := by decide +kernel
theorem dL_law_749 : decode cL_law 749 = .ok (.iconst 0, 1) := by decide +kernel
theorem dL_law_750 : decode cL_law 750 = .ok (.laload, 1) := by decide +kernel
theorem dL_law_751 : decode cL_law 751 = .ok (.iload 6, 2) := by decide +kernel
theorem dL_law_753 : decode cL_law 753 = .ok (.i2l, 1) := by decide +kernel
theorem dL_law_754 : decode cL_law 754 = .ok (.lcmp, 1) := by decide +kernel
theorem dL_law_755 : decode cL_law 755 = .ok (.ifCond .eq 5, 3) := by decide +kernel
theorem dL_law_758 : decode cL_law 758 = .ok (.iconst 0, 1) := by decide +kernel
theorem dL_law_759 : decode cL_law 759 = .ok (.ireturn, 1) := by decide +kernel
theorem dL_law_760 : decode cL_law 760 = .ok (.goto 1087, 3) := by decide +kernel
theorem dL_law_763 : decode cL_law 763 = .ok (.aload_n 1, 1) := by decide +kernel
theorem dL_law_764 : decode cL_law 764 = .ok (.aload_n 0, 1) := by decide +kernel
theorem dL_law_765 : decode cL_law 765 = .ok (.iload 4, 2) := by decide +kernel
theorem dL_law_767 : decode cL_law 767 = .ok (.iconst 1, 1) := by decide +kernel
theorem dL_law_768 : decode cL_law 768 = .ok (.iadd, 1) := by decide +kernel
theorem dL_law_769 : decode cL_law 769 = .ok (.iaload, 1) := by decide +kernel
theorem dL_law_770 : decode cL_law 770 = .ok (.aload_n 0, 1) := by decide +kernel
theorem dL_law_771 : decode cL_law 771 = .ok (.iload 4, 2) := by decide +kernel
theorem dL_law_773 : decode cL_law 773 = .ok (.iconst 2, 1) := by decide +kernel
theorem dL_law_774 : decode cL_law 774 = .ok (.iadd, 1) := by decide +kernel
theorem dL_law_775 : decode cL_law 775 = .ok (.iaload, 1) := by decide +kernel
theorem dL_law_776 : decode cL_law 776 = .ok (.aload_n 3, 1) := by decide +kernel
theorem dL_law_777 : decode cL_law 777 = .ok (.invokestatic 131, 3) := by decide +kernel
theorem dL_law_780 : decode cL_law 780 = .ok (.istore 5, 2) := by decide +kernel
theorem dL_law_782 : decode cL_law 782 = .ok (.aload_n 2, 1) := by decide +kernel
theorem dL_law_783 : decode cL_law 783 = .ok (.aload_n 0, 1) := by decide +kernel
theorem dL_law_784 : decode cL_law 784 = .ok (.iload 4, 2) := by decide +kernel
theorem dL_law_786 : decode cL_law 786 = .ok (.iconst 1, 1) := by decide +kernel
theorem dL_law_787 : decode cL_law 787 = .ok (.iadd, 1) := by decide +kernel
theorem dL_law_788 : decode cL_law 788 = .ok (.iaload, 1) := by decide +kernel
theorem dL_law_789 : decode cL_law 789 = .ok (.aload_n 0, 1) := by decide +kernel
theorem dL_law_790 : decode cL_law 790 = .ok (.iload 4, 2) := by decide +kernel
theorem dL_law_792 : decode cL_law 792 = .ok (.iconst 2, 1) := by decide +kernel
theorem dL_law_793 : decode cL_law 793 = .ok (.iadd, 1) := by decide +kernel
theorem dL_law_794 : decode cL_law 794 = .ok (.iaload, 1) := by decide +kernel
theorem dL_law_795 : decode cL_law 795 = .ok (.invokevirtual 133, 3) := by decide +kernel
theorem dL_law_798 : decode cL_law 798 = .ok (.istore 6, 2) := by decide +kernel
theorem dL_law_800 : decode cL_law 800 = .ok (.aload_n 2, 1) := by decide +kernel
theorem dL_law_801 : decode cL_law 801 = .ok (.invokevirtual 94, 3) := by decide +kernel
theorem dL_law_804 : decode cL_law 804 = .ok (.iload 5, 2) := by decide +kernel
theorem dL_law_806 : decode cL_law 806 = .ok (.if_icmp .eq 5, 3) := by decide +kernel
theorem dL_law_809 : decode cL_law 809 = .ok (.iconst 0, 1) := by decide +kernel
theorem dL_law_810 : decode cL_law 810 = .ok (.ireturn, 1) := by decide +kernel
theorem dL_law_811 : decode cL_law 811 = .ok (.iload 5, 2) := by decide +kernel
theorem dL_law_813 : decode cL_law 813 = .ok (.ifCond .ne 15, 3) := by decide +kernel
theorem dL_law_816 : decode cL_law 816 = .ok (.aload_n 3, 1) := by decide +kernel
theorem dL_law_817 : decode cL_law 817 = .ok (.iconst 0, 1) := by decide +kernel
theorem dL_law_818 : decode cL_law 818 = .ok (.laload, 1) := by decide +kernel
theorem dL_law_819 : decode cL_law 819 = .ok (.iload 6, 2) := by decide +kernel
theorem dL_law_821 : decode cL_law 821 = .ok (.i2l, 1) := by decide +kernel
theorem dL_law_822 : decode cL_law 822 = .ok (.lcmp, 1) := by decide +kernel
theorem dL_law_823 : decode cL_law 823 = .ok (.ifCond .eq 5, 3) := by decide +kernel
theorem dL_law_826 : decode cL_law 826 = .ok (.iconst 0, 1) := by decide +kernel
theorem dL_law_827 : decode cL_law 827 = .ok (.ireturn, 1) := by decide +kernel
theorem dL_law_828 : decode cL_law 828 = .ok (.goto 1019, 3) := by decide +kernel
theorem dL_law_831 : decode cL_law 831 = .ok (.aload_n 1, 1) := by decide +kernel
theorem dL_law_832 : decode cL_law 832 = .ok (.invokevirtual 134, 3) := by decide +kernel
theorem dL_law_835 : decode cL_law 835 = .ok (.aload_n 2, 1) := by decide +kernel
theorem dL_law_836 : decode cL_law 836 = .ok (.invokevirtual 137, 3) := by decide +kernel
theorem dL_law_839 : decode cL_law 839 = .ok (.if_icmp .eq 1008, 3) := by decide +kernel
theorem dL_law_842 : decode cL_law 842 = .ok (.iconst 0, 1) := by decide +kernel
theorem dL_law_843 : decode cL_law 843 = .ok (.ireturn, 1) := by decide +kernel
theorem dL_law_844 : decode cL_law 844 = .ok (.aload_n 1, 1) := by decide +kernel
theorem dL_law_845 : decode cL_law 845 = .ok (.invokevirtual 138, 3) := by decide +kernel
theorem dL_law_848 : decode cL_law 848 = .ok (.aload_n 2, 1) := by decide +kernel
theorem dL_law_849 : decode cL_law 849 = .ok (.invokevirtual 141, 3) := by decide +kernel
theorem dL_law_852 : decode cL_law 852 = .ok (.if_icmp .eq 995, 3) := by decide +kernel
theorem dL_law_855 : decode cL_law 855 = .ok (.iconst 0, 1) := by decide +kernel
theorem dL_law_856 : decode cL_law 856 = .ok (.ireturn, 1) := by decide +kernel
theorem dL_law_857 : decode cL_law 857 = .ok (.aload_n 1, 1) := by decide +kernel
theorem dL_law_858 : decode cL_law 858 = .ok (.aload_n 0, 1) := by decide +kernel
theorem dL_law_859 : decode cL_law 859 = .ok (.iload 4, 2) := by decide +kernel
theorem dL_law_861 : decode cL_law 861 = .ok (.iconst 1, 1) := by decide +kernel
theorem dL_law_862 : decode cL_law 862 = .ok (.iadd, 1) := by decide +kernel
theorem dL_law_863 : decode cL_law 863 = .ok (.iaload, 1) := by decide +kernel
theorem dL_law_864 : decode cL_law 864 = .ok (.invokevirtual 142, 3) := by decide +kernel
theorem dL_law_867 : decode cL_law 867 = .ok (.aload_n 2, 1) := by decide +kernel
theorem dL_law_868 : decode cL_law 868 = .ok (.aload_n 0, 1) := by decide +kernel
theorem dL_law_869 : decode cL_law 869 = .ok (.iload 4, 2) := by decide +kernel
theorem dL_law_871 : decode cL_law 871 = .ok (.iconst 1, 1) := by decide +kernel
theorem dL_law_872 : decode cL_law 872 = .ok (.iadd, 1) := by decide +kernel
theorem dL_law_873 : decode cL_law 873 = .ok (.iaload, 1) := by decide +kernel
theorem dL_law_874 : decode cL_law 874 = .ok (.invokevirtual 145, 3) := by decide +kernel
theorem dL_law_877 : decode cL_law 877 = .ok (.if_icmp .eq 970, 3) := by decide +kernel
theorem dL_law_880 : decode cL_law 880 = .ok (.iconst 0, 1) := by decide +kernel
theorem dL_law_881 : decode cL_law 881 = .ok (.ireturn, 1) := by decide +kernel
theorem dL_law_882 : decode cL_law 882 = .ok (.aload_n 1, 1) := by decide +kernel
theorem dL_law_883 : decode cL_law 883 = .ok (.invokevirtual 146, 3) := by decide +kernel
theorem dL_law_886 : decode cL_law 886 = .ok (.aload_n 2, 1) := by decide +kernel
theorem dL_law_887 : decode cL_law 887 = .ok (.invokevirtual 149, 3) := by decide +kernel
theorem dL_law_890 : decode cL_law 890 = .ok (.if_icmp .eq 957, 3) := by decide +kernel
theorem dL_law_893 : decode cL_law 893 = .ok (.iconst 0, 1) := by decide +kernel
theorem dL_law_894 : decode cL_law 894 = .ok (.ireturn, 1) := by decide +kernel
theorem dL_law_895 : decode cL_law 895 = .ok (.aload_n 1, 1) := by decide +kernel
theorem dL_law_896 : decode cL_law 896 = .ok (.invokevirtual 150, 3) := by decide +kernel
theorem dL_law_899 : decode cL_law 899 = .ok (.aload_n 2, 1) := by decide +kernel
theorem dL_law_900 : decode cL_law 900 = .ok (.invokevirtual 153, 3) := by decide +kernel
theorem dL_law_903 : decode cL_law 903 = .ok (.if_icmp .eq 944, 3) := by decide +kernel
theorem dL_law_906 : decode cL_law 906 = .ok (.iconst 0, 1) := by decide +kernel
theorem dL_law_907 : decode cL_law 907 = .ok (.ireturn, 1) := by decide +kernel
theorem dL_law_908 : decode cL_law 908 = .ok (.aload_n 1, 1) := by decide +kernel
theorem dL_law_909 : decode cL_law 909 = .ok (.aload_n 0, 1) := by decide +kernel
theorem dL_law_910 : decode cL_law 910 = .ok (.iload 4, 2) := by decide +kernel
theorem dL_law_912 : decode cL_law 912 = .ok (.iconst 1, 1) := by decide +kernel
theorem dL_law_913 : decode cL_law 913 = .ok (.iadd, 1) := by decide +kernel
theorem dL_law_914 : decode cL_law 914 = .ok (.iaload, 1) := by decide +kernel
theorem dL_law_915 : decode cL_law 915 = .ok (.invokevirtual 154, 3) := by decide +kernel
theorem dL_law_918 : decode cL_law 918 = .ok (.aload_n 2, 1) := by decide +kernel
theorem dL_law_919 : decode cL_law 919 = .ok (.aload_n 0, 1) := by decide +kernel
theorem dL_law_920 : decode cL_law 920 = .ok (.iload 4, 2) := by decide +kernel
theorem dL_law_922 : decode cL_law 922 = .ok (.iconst 1, 1) := by decide +kernel
theorem dL_law_923 : decode cL_law 923 = .ok (.iadd, 1) := by decide +kernel
theorem dL_law_924 : decode cL_law 924 = .ok (.iaload, 1) := by decide +kernel
theorem dL_law_925 : decode cL_law 925 = .ok (.invokevirtual 157, 3) := by decide +kernel
theorem dL_law_928 : decode cL_law 928 = .ok (.if_icmp .eq 919, 3) := by decide +kernel
theorem dL_law_931 : decode cL_law 931 = .ok (.iconst 0, 1) := by decide +kernel
theorem dL_law_932 : decode cL_law 932 = .ok (.ireturn, 1) := by decide +kernel
theorem dL_law_933 : decode cL_law 933 = .ok (.aload_n 1, 1) := by decide +kernel
theorem dL_law_934 : decode cL_law 934 = .ok (.aload_n 0, 1) := by decide +kernel
theorem dL_law_935 : decode cL_law 935 = .ok (.iload 4, 2) := by decide +kernel
theorem dL_law_937 : decode cL_law 937 = .ok (.iconst 1, 1) := by decide +kernel
theorem dL_law_938 : decode cL_law 938 = .ok (.iadd, 1) := by decide +kernel
theorem dL_law_939 : decode cL_law 939 = .ok (.iaload, 1) := by decide +kernel
theorem dL_law_940 : decode cL_law 940 = .ok (.aload_n 3, 1) := by decide +kernel
theorem dL_law_941 : decode cL_law 941 = .ok (.invokestatic 158, 3) := by decide +kernel
theorem dL_law_944 : decode cL_law 944 = .ok (.istore 5, 2) := by decide +kernel
theorem dL_law_946 : decode cL_law 946 = .ok (.aload_n 2, 1) := by decide +kernel
theorem dL_law_947 : decode cL_law 947 = .ok (.aload_n 0, 1) := by decide +kernel
theorem dL_law_948 : decode cL_law 948 = .ok (.iload 4, 2) := by decide +kernel
theorem dL_law_950 : decode cL_law 950 = .ok (.iconst 1, 1) := by decide +kernel
theorem dL_law_951 : decode cL_law 951 = .ok (.iadd, 1) := by decide +kernel
theorem dL_law_952 : decode cL_law 952 = .ok (.iaload, 1) := by decide +kernel
theorem dL_law_953 : decode cL_law 953 = .ok (.invokevirtual 160, 3) := by decide +kernel
theorem dL_law_956 : decode cL_law 956 = .ok (.istore 6, 2) := by decide +kernel
theorem dL_law_958 : decode cL_law 958 = .ok (.aload_n 2, 1) := by decide +kernel
theorem dL_law_959 : decode cL_law 959 = .ok (.invokevirtual 94, 3) := by decide +kernel
theorem dL_law_962 : decode cL_law 962 = .ok (.iload 5, 2) := by decide +kernel
theorem dL_law_964 : decode cL_law 964 = .ok (.if_icmp .eq 5, 3) := by decide +kernel
theorem dL_law_967 : decode cL_law 967 = .ok (.iconst 0, 1) := by decide +kernel
theorem dL_law_968 : decode cL_law 968 = .ok (.ireturn, 1) := by decide +kernel
theorem dL_law_969 : decode cL_law 969 = .ok (.iload 5, 2) := by decide +kernel
theorem dL_law_971 : decode cL_law 971 = .ok (.ifCond .ne 15, 3) := by decide +kernel
theorem dL_law_974 : decode cL_law 974 = .ok (.aload_n 3, 1) := by decide +kernel
theorem dL_law_975 : decode cL_law 975 = .ok (.iconst 0, 1) := by decide +kernel
theorem dL_law_976 : decode cL_law 976 = .ok (.laload, 1) := by decide +kernel
theorem dL_law_977 : decode cL_law 977 = .ok (.iload 6, 2) := by decide +kernel
theorem dL_law_979 : decode cL_law 979 = .ok (.i2l, 1) := by decide +kernel
theorem dL_law_980 : decode cL_law 980 = .ok (.lcmp, 1) := by decide +kernel
theorem dL_law_981 : decode cL_law 981 = .ok (.ifCond .eq 5, 3) := by decide +kernel
theorem dL_law_984 : decode cL_law 984 = .ok (.iconst 0, 1) := by decide +kernel
theorem dL_law_985 : decode cL_law 985 = .ok (.ireturn, 1) := by decide +kernel
theorem dL_law_986 : decode cL_law 986 = .ok (.goto 861, 3) := by decide +kernel
theorem dL_law_989 : decode cL_law 989 = .ok (.aload_n 1, 1) := by decide +kernel
theorem dL_law_990 : decode cL_law 990 = .ok (.invokevirtual 161, 3) := by decide +kernel
theorem dL_law_993 : decode cL_law 993 = .ok (.aload_n 2, 1) := by decide +kernel
theorem dL_law_994 : decode cL_law 994 = .ok (.invokevirtual 164, 3) := by decide +kernel
theorem dL_law_997 : decode cL_law 997 = .ok (.if_icmp .eq 850, 3) := by decide +kernel
theorem dL_law_1000 : decode cL_law 1000 = .ok (.iconst 0, 1) := by decide +kernel
theorem dL_law_1001 : decode cL_law 1001 = .ok (.ireturn, 1) := by decide +kernel
theorem dL_law_1002 : decode cL_law 1002 = .ok (.aload_n 1, 1) := by decide +kernel
theorem dL_law_1003 : decode cL_law 1003 = .ok (.aload_n 0, 1) := by decide +kernel
theorem dL_law_1004 : decode cL_law 1004 = .ok (.iload 4, 2) := by decide +kernel
theorem dL_law_1006 : decode cL_law 1006 = .ok (.iconst 1, 1) := by decide +kernel
theorem dL_law_1007 : decode cL_law 1007 = .ok (.iadd, 1) := by decide +kernel
theorem dL_law_1008 : decode cL_law 1008 = .ok (.iaload, 1) := by decide +kernel
theorem dL_law_1009 : decode cL_law 1009 = .ok (.aload_n 0, 1) := by decide +kernel
theorem dL_law_1010 : decode cL_law 1010 = .ok (.iload 4, 2) := by decide +kernel
theorem dL_law_1012 : decode cL_law 1012 = .ok (.iconst 2, 1) := by decide +kernel
theorem dL_law_1013 : decode cL_law 1013 = .ok (.iadd, 1) := by decide +kernel
theorem dL_law_1014 : decode cL_law 1014 = .ok (.iaload, 1) := by decide +kernel
theorem dL_law_1015 : decode cL_law 1015 = .ok (.aload_n 3, 1) := by decide +kernel
theorem dL_law_1016 : decode cL_law 1016 = .ok (.invokestatic 165, 3) := by decide +kernel
theorem dL_law_1019 : decode cL_law 1019 = .ok (.istore 5, 2) := by decide +kernel
theorem dL_law_1021 : decode cL_law 1021 = .ok (.aload_n 2, 1) := by decide +kernel
theorem dL_law_1022 : decode cL_law 1022 = .ok (.aload_n 0, 1) := by decide +kernel
theorem dL_law_1023 : decode cL_law 1023 = .ok (.iload 4, 2) := by decide +kernel
theorem dL_law_1025 : decode cL_law 1025 = .ok (.iconst 1, 1) := by decide +kernel
theorem dL_law_1026 : decode cL_law 1026 = .ok (.iadd, 1) := by decide +kernel
theorem dL_law_1027 : decode cL_law 1027 = .ok (.iaload, 1) := by decide +kernel
theorem dL_law_1028 : decode cL_law 1028 = .ok (.aload_n 0, 1) := by decide +kernel
theorem dL_law_1029 : decode cL_law 1029 = .ok (.iload 4, 2) := by decide +kernel
theorem dL_law_1031 : decode cL_law 1031 = .ok (.iconst 2, 1) := by decide +kernel
theorem dL_law_1032 : decode cL_law 1032 = .ok (.iadd, 1) := by decide +kernel
theorem dL_law_1033 : decode cL_law 1033 = .ok (.iaload, 1) := by decide +kernel
theorem dL_law_1034 : decode cL_law 1034 = .ok (.invokevirtual 167, 3) := by decide +kernel
theorem dL_law_1037 : decode cL_law 1037 = .ok (.istore 6, 2) := by decide +kernel
theorem dL_law_1039 : decode cL_law 1039 = .ok (.aload_n 2, 1) := by decide +kernel
theorem dL_law_1040 : decode cL_law 1040 = .ok (.invokevirtual 94, 3) := by decide +kernel
theorem dL_law_1043 : decode cL_law 1043 = .ok (.iload 5, 2) := by decide +kernel
theorem dL_law_1045 : decode cL_law 1045 = .ok (.if_icmp .eq 5, 3) := by decide +kernel
theorem dL_law_1048 : decode cL_law 1048 = .ok (.iconst 0, 1) := by decide +kernel
theorem dL_law_1049 : decode cL_law 1049 = .ok (.ireturn, 1) := by decide +kernel
theorem dL_law_1050 : decode cL_law 1050 = .ok (.iload 5, 2) := by decide +kernel
theorem dL_law_1052 : decode cL_law 1052 = .ok (.ifCond .ne 15, 3) := by decide +kernel
theorem dL_law_1055 : decode cL_law 1055 = .ok (.aload_n 3, 1) := by decide +kernel
theorem dL_law_1056 : decode cL_law 1056 = .ok (.iconst 0, 1) := by decide +kernel
theorem dL_law_1057 : decode cL_law 1057 = .ok (.laload, 1) := by decide +kernel
theorem dL_law_1058 : decode cL_law 1058 = .ok (.iload 6, 2) := by decide +kernel
theorem dL_law_1060 : decode cL_law 1060 = .ok (.i2l, 1) := by decide +kernel
theorem dL_law_1061 : decode cL_law 1061 = .ok (.lcmp, 1) := by decide +kernel
theorem dL_law_1062 : decode cL_law 1062 = .ok (.ifCond .eq 5, 3) := by decide +kernel
theorem dL_law_1065 : decode cL_law 1065 = .ok (.iconst 0, 1) := by decide +kernel
theorem dL_law_1066 : decode cL_law 1066 = .ok (.ireturn, 1) := by decide +kernel
theorem dL_law_1067 : decode cL_law 1067 = .ok (.goto 780, 3) := by decide +kernel
theorem dL_law_1070 : decode cL_law 1070 = .ok (.aload_n 1, 1) := by decide +kernel
theorem dL_law_1071 : decode cL_law 1071 = .ok (.aload_n 0, 1) := by decide +kernel
theorem dL_law_1072 : decode cL_law 1072 = .ok (.iload 4, 2) := by decide +kernel
theorem dL_law_1074 : decode cL_law 1074 = .ok (.iconst 1, 1) := by decide +kernel
theorem dL_law_1075 : decode cL_law 1075 = .ok (.iadd, 1) := by decide +kernel
theorem dL_law_1076 : decode cL_law 1076 = .ok (.iaload, 1) := by decide +kernel
theorem dL_law_1077 : decode cL_law 1077 = .ok (.aload_n 3, 1) := by decide +kernel
theorem dL_law_1078 : decode cL_law 1078 = .ok (.invokestatic 168, 3) := by decide +kernel
theorem dL_law_1081 : decode cL_law 1081 = .ok (.istore 5, 2) := by decide +kernel
theorem dL_law_1083 : decode cL_law 1083 = .ok (.aload_n 2, 1) := by decide +kernel
theorem dL_law_1084 : decode cL_law 1084 = .ok (.aload_n 0, 1) := by decide +kernel
theorem dL_law_1085 : decode cL_law 1085 = .ok (.iload 4, 2) := by decide +kernel
theorem dL_law_1087 : decode cL_law 1087 = .ok (.iconst 1, 1) := by decide +kernel
theorem dL_law_1088 : decode cL_law 1088 = .ok (.iadd, 1) := by decide +kernel
theorem dL_law_1089 : decode cL_law 1089 = .ok (.iaload, 1) := by decide +kernel
theorem dL_law_1090 : decode cL_law 1090 = .ok (.invokevirtual 170, 3) := by decide +kernel
theorem dL_law_1093 : decode cL_law 1093 = .ok (.istore 6, 2) := by decide +kernel
theorem dL_law_1095 : decode cL_law 1095 = .ok (.aload_n 2, 1) := by decide +kernel
theorem dL_law_1096 : decode cL_law 1096 = .ok (.invokevirtual 94, 3) := by decide +kernel
theorem dL_law_1099 : decode cL_law 1099 = .ok (.iload 5, 2) := by decide +kernel
theorem dL_law_1101 : decode cL_law 1101 = .ok (.if_icmp .eq 5, 3) := by decide +kernel
theorem dL_law_1104 : decode cL_law 1104 = .ok (.iconst 0, 1) := by decide +kernel
theorem dL_law_1105 : decode cL_law 1105 = .ok (.ireturn, 1) := by decide +kernel
theorem dL_law_1106 : decode cL_law 1106 = .ok (.iload 5, 2) := by decide +kernel
theorem dL_law_1108 : decode cL_law 1108 = .ok (.ifCond .ne 15, 3) := by decide +kernel
theorem dL_law_1111 : decode cL_law 1111 = .ok (.aload_n 3, 1) := by decide +kernel
theorem dL_law_1112 : decode cL_law 1112 = .ok (.iconst 0, 1) := by decide +kernel
theorem dL_law_1113 : decode cL_law 1113 = .ok (.laload, 1) := by decide +kernel
theorem dL_law_1114 : decode cL_law 1114 = .ok (.iload 6, 2) := by decide +kernel
theorem dL_law_1116 : decode cL_law 1116 = .ok (.i2l, 1) := by decide +kernel
theorem dL_law_1117 : decode cL_law 1117 = .ok (.lcmp, 1) := by decide +kernel
theorem dL_law_1118 : decode cL_law 1118 = .ok (.ifCond .eq 5, 3) := by decide +kernel
theorem dL_law_1121 : decode cL_law 1121 = .ok (.iconst 0, 1) := by decide +kernel
theorem dL_law_1122 : decode cL_law 1122 = .ok (.ireturn, 1) := by decide +kernel
theorem dL_law_1123 : decode cL_law 1123 = .ok (.goto 724, 3) := by decide +kernel
theorem dL_law_1126 : decode cL_law 1126 = .ok (.aload_n 1, 1) := by decide +kernel
theorem dL_law_1127 : decode cL_law 1127 = .ok (.aload_n 0, 1) := by decide +kernel
theorem dL_law_1128 : decode cL_law 1128 = .ok (.iload 4, 2) := by decide +kernel
theorem dL_law_1130 : decode cL_law 1130 = .ok (.iconst 1, 1) := by decide +kernel
theorem dL_law_1131 : decode cL_law 1131 = .ok (.iadd, 1) := by decide +kernel
theorem dL_law_1132 : decode cL_law 1132 = .ok (.iaload, 1) := by decide +kernel
theorem dL_law_1133 : decode cL_law 1133 = .ok (.aload_n 3, 1) := by decide +kernel
theorem dL_law_1134 : decode cL_law 1134 = .ok (.invokestatic 171, 3) := by decide +kernel
theorem dL_law_1137 : decode cL_law 1137 = .ok (.istore 5, 2) := by decide +kernel
theorem dL_law_1139 : decode cL_law 1139 = .ok (.aload_n 2, 1) := by decide +kernel
theorem dL_law_1140 : decode cL_law 1140 = .ok (.aload_n 0, 1) := by decide +kernel
theorem dL_law_1141 : decode cL_law 1141 = .ok (.iload 4, 2) := by decide +kernel
theorem dL_law_1143 : decode cL_law 1143 = .ok (.iconst 1, 1) := by decide +kernel
theorem dL_law_1144 : decode cL_law 1144 = .ok (.iadd, 1) := by decide +kernel
theorem dL_law_1145 : decode cL_law 1145 = .ok (.iaload, 1) := by decide +kernel
theorem dL_law_1146 : decode cL_law 1146 = .ok (.invokevirtual 173, 3) := by decide +kernel
theorem dL_law_1149 : decode cL_law 1149 = .ok (.istore 6, 2) := by decide +kernel
theorem dL_law_1151 : decode cL_law 1151 = .ok (.aload_n 2, 1) := by decide +kernel
theorem dL_law_1152 : decode cL_law 1152 = .ok (.invokevirtual 94, 3) := by decide +kernel
theorem dL_law_1155 : decode cL_law 1155 = .ok (.iload 5, 2) := by decide +kernel
theorem dL_law_1157 : decode cL_law 1157 = .ok (.if_icmp .eq 5, 3) := by decide +kernel
theorem dL_law_1160 : decode cL_law 1160 = .ok (.iconst 0, 1) := by decide +kernel
theorem dL_law_1161 : decode cL_law 1161 = .ok (.ireturn, 1) := by decide +kernel
theorem dL_law_1162 : decode cL_law 1162 = .ok (.iload 5, 2) := by decide +kernel
theorem dL_law_1164 : decode cL_law 1164 = .ok (.ifCond .ne 15, 3) := by decide +kernel
theorem dL_law_1167 : decode cL_law 1167 = .ok (.aload_n 3, 1) := by decide +kernel
theorem dL_law_1168 : decode cL_law 1168 = .ok (.iconst 0, 1) := by decide +kernel
theorem dL_law_1169 : decode cL_law 1169 = .ok (.laload, 1) := by decide +kernel
theorem dL_law_1170 : decode cL_law 1170 = .ok (.iload 6, 2) := by decide +kernel
theorem dL_law_1172 : decode cL_law 1172 = .ok (.i2l, 1) := by decide +kernel
theorem dL_law_1173 : decode cL_law 1173 = .ok (.lcmp, 1) := by decide +kernel
theorem dL_law_1174 : decode cL_law 1174 = .ok (.ifCond .eq 5, 3) := by decide +kernel
theorem dL_law_1177 : decode cL_law 1177 = .ok (.iconst 0, 1) := by decide +kernel
theorem dL_law_1178 : decode cL_law 1178 = .ok (.ireturn, 1) := by decide +kernel
theorem dL_law_1179 : decode cL_law 1179 = .ok (.goto 668, 3) := by decide +kernel
theorem dL_law_1182 : decode cL_law 1182 = .ok (.aload_n 1, 1) := by decide +kernel
theorem dL_law_1183 : decode cL_law 1183 = .ok (.invokevirtual 174, 3) := by decide +kernel
theorem dL_law_1186 : decode cL_law 1186 = .ok (.aload_n 2, 1) := by decide +kernel
theorem dL_law_1187 : decode cL_law 1187 = .ok (.invokevirtual 177, 3) := by decide +kernel
theorem dL_law_1190 : decode cL_law 1190 = .ok (.if_icmp .eq 657, 3) := by decide +kernel
theorem dL_law_1193 : decode cL_law 1193 = .ok (.iconst 0, 1) := by decide +kernel
theorem dL_law_1194 : decode cL_law 1194 = .ok (.ireturn, 1) := by decide +kernel
theorem dL_law_1195 : decode cL_law 1195 = .ok (.aload_n 1, 1) := by decide +kernel
theorem dL_law_1196 : decode cL_law 1196 = .ok (.aload_n 0, 1) := by decide +kernel
theorem dL_law_1197 : decode cL_law 1197 = .ok (.iload 4, 2) := by decide +kernel
theorem dL_law_1199 : decode cL_law 1199 = .ok (.iconst 1, 1) := by decide +kernel
theorem dL_law_1200 : decode cL_law 1200 = .ok (.iadd, 1) := by decide +kernel
theorem dL_law_1201 : decode cL_law 1201 = .ok (.iaload, 1) := by decide +kernel
theorem dL_law_1202 : decode cL_law 1202 = .ok (.aload_n 0, 1) := by decide +kernel
theorem dL_law_1203 : decode cL_law 1203 = .ok (.iload 4, 2) := by decide +kernel
theorem dL_law_1205 : decode cL_law 1205 = .ok (.iconst 2, 1) := by decide +kernel
theorem dL_law_1206 : decode cL_law 1206 = .ok (.iadd, 1) := by decide +kernel
theorem dL_law_1207 : decode cL_law 1207 = .ok (.iaload, 1) := by decide +kernel
theorem dL_law_1208 : decode cL_law 1208 = .ok (.aload_n 3, 1) := by decide +kernel
theorem dL_law_1209 : decode cL_law 1209 = .ok (.invokestatic 178, 3) := by decide +kernel
theorem dL_law_1212 : decode cL_law 1212 = .ok (.istore 5, 2) := by decide +kernel
theorem dL_law_1214 : decode cL_law 1214 = .ok (.aload_n 2, 1) := by decide +kernel
theorem dL_law_1215 : decode cL_law 1215 = .ok (.aload_n 0, 1) := by decide +kernel
theorem dL_law_1216 : decode cL_law 1216 = .ok (.iload 4, 2) := by decide +kernel
theorem dL_law_1218 : decode cL_law 1218 = .ok (.iconst 1, 1) := by decide +kernel
theorem dL_law_1219 : decode cL_law 1219 = .ok (.iadd, 1) := by decide +kernel
theorem dL_law_1220 : decode cL_law 1220 = .ok (.iaload, 1) := by decide +kernel
theorem dL_law_1221 : decode cL_law 1221 = .ok (.aload_n 0, 1) := by decide +kernel
theorem dL_law_1222 : decode cL_law 1222 = .ok (.iload 4, 2) := by decide +kernel
theorem dL_law_1224 : decode cL_law 1224 = .ok (.iconst 2, 1) := by decide +kernel
theorem dL_law_1225 : decode cL_law 1225 = .ok (.iadd, 1) := by decide +kernel
theorem dL_law_1226 : decode cL_law 1226 = .ok (.iaload, 1) := by decide +kernel
theorem dL_law_1227 : decode cL_law 1227 = .ok (.invokevirtual 180, 3) := by decide +kernel
theorem dL_law_1230 : decode cL_law 1230 = .ok (.istore 6, 2) := by decide +kernel
theorem dL_law_1232 : decode cL_law 1232 = .ok (.aload_n 2, 1) := by decide +kernel
theorem dL_law_1233 : decode cL_law 1233 = .ok (.invokevirtual 94, 3) := by decide +kernel
theorem dL_law_1236 : decode cL_law 1236 = .ok (.iload 5, 2) := by decide +kernel
theorem dL_law_1238 : decode cL_law 1238 = .ok (.if_icmp .eq 5, 3) := by decide +kernel
theorem dL_law_1241 : decode cL_law 1241 = .ok (.iconst 0, 1) := by decide +kernel
theorem dL_law_1242 : decode cL_law 1242 = .ok (.ireturn, 1) := by decide +kernel
theorem dL_law_1243 : decode cL_law 1243 = .ok (.iload 5, 2) := by decide +kernel
theorem dL_law_1245 : decode cL_law 1245 = .ok (.ifCond .ne 15, 3) := by decide +kernel
theorem dL_law_1248 : decode cL_law 1248 = .ok (.aload_n 3, 1) := by decide +kernel
theorem dL_law_1249 : decode cL_law 1249 = .ok (.iconst 0, 1) := by decide +kernel
theorem dL_law_1250 : decode cL_law 1250 = .ok (.laload, 1) := by decide +kernel
theorem dL_law_1251 : decode cL_law 1251 = .ok (.iload 6, 2) := by decide +kernel
theorem dL_law_1253 : decode cL_law 1253 = .ok (.i2l, 1) := by decide +kernel
theorem dL_law_1254 : decode cL_law 1254 = .ok (.lcmp, 1) := by decide +kernel
theorem dL_law_1255 : decode cL_law 1255 = .ok (.ifCond .eq 5, 3) := by decide +kernel
theorem dL_law_1258 : decode cL_law 1258 = .ok (.iconst 0, 1) := by decide +kernel
theorem dL_law_1259 : decode cL_law 1259 = .ok (.ireturn, 1) := by decide +kernel
theorem dL_law_1260 : decode cL_law 1260 = .ok (.goto 587, 3) := by decide +kernel
theorem dL_law_1263 : decode cL_law 1263 = .ok (.aload_n 1, 1) := by decide +kernel
theorem dL_law_1264 : decode cL_law 1264 = .ok (.invokevirtual 181, 3) := by decide +kernel
theorem dL_law_1267 : decode cL_law 1267 = .ok (.aload_n 2, 1) := by decide +kernel
theorem dL_law_1268 : decode cL_law 1268 = .ok (.invokevirtual 184, 3) := by decide +kernel
theorem dL_law_1271 : decode cL_law 1271 = .ok (.if_icmp .eq 576, 3) := by decide +kernel
theorem dL_law_1274 : decode cL_law 1274 = .ok (.iconst 0, 1) := by decide +kernel
theorem dL_law_1275 : decode cL_law 1275 = .ok (.ireturn, 1) := by decide +kernel
theorem dL_law_1276 : decode cL_law 1276 = .ok (.aload_n 1, 1) := by decide +kernel
theorem dL_law_1277 : decode cL_law 1277 = .ok (.aload_n 0, 1) := by decide +kernel
theorem dL_law_1278 : decode cL_law 1278 = .ok (.iload 4, 2) := by decide +kernel
theorem dL_law_1280 : decode cL_law 1280 = .ok (.iconst 1, 1) := by decide +kernel
theorem dL_law_1281 : decode cL_law 1281 = .ok (.iadd, 1) := by decide +kernel
theorem dL_law_1282 : decode cL_law 1282 = .ok (.iaload, 1) := by decide +kernel
theorem dL_law_1283 : decode cL_law 1283 = .ok (.aload_n 0, 1) := by decide +kernel
theorem dL_law_1284 : decode cL_law 1284 = .ok (.iload 4, 2) := by decide +kernel
theorem dL_law_1286 : decode cL_law 1286 = .ok (.iconst 2, 1) := by decide +kernel
theorem dL_law_1287 : decode cL_law 1287 = .ok (.iadd, 1) := by decide +kernel
theorem dL_law_1288 : decode cL_law 1288 = .ok (.iaload, 1) := by decide +kernel
theorem dL_law_1289 : decode cL_law 1289 = .ok (.aload_n 3, 1) := by decide +kernel
theorem dL_law_1290 : decode cL_law 1290 = .ok (.invokestatic 185, 3) := by decide +kernel
theorem dL_law_1293 : decode cL_law 1293 = .ok (.istore 5, 2) := by decide +kernel
theorem dL_law_1295 : decode cL_law 1295 = .ok (.aload_n 2, 1) := by decide +kernel
theorem dL_law_1296 : decode cL_law 1296 = .ok (.aload_n 0, 1) := by decide +kernel
theorem dL_law_1297 : decode cL_law 1297 = .ok (.iload 4, 2) := by decide +kernel
theorem dL_law_1299 : decode cL_law 1299 = .ok (.iconst 1, 1) := by decide +kernel
theorem dL_law_1300 : decode cL_law 1300 = .ok (.iadd, 1) := by decide +kernel
theorem dL_law_1301 : decode cL_law 1301 = .ok (.iaload, 1) := by decide +kernel
theorem dL_law_1302 : decode cL_law 1302 = .ok (.aload_n 0, 1) := by decide +kernel
theorem dL_law_1303 : decode cL_law 1303 = .ok (.iload 4, 2) := by decide +kernel
theorem dL_law_1305 : decode cL_law 1305 = .ok (.iconst 2, 1) := by decide +kernel
theorem dL_law_1306 : decode cL_law 1306 = .ok (.iadd, 1) := by decide +kernel
theorem dL_law_1307 : decode cL_law 1307 = .ok (.iaload, 1) := by decide +kernel
theorem dL_law_1308 : decode cL_law 1308 = .ok (.invokevirtual 187, 3) := by decide +kernel
theorem dL_law_1311 : decode cL_law 1311 = .ok (.istore 6, 2) := by decide +kernel
theorem dL_law_1313 : decode cL_law 1313 = .ok (.aload_n 2, 1) := by decide +kernel
theorem dL_law_1314 : decode cL_law 1314 = .ok (.invokevirtual 94, 3) := by decide +kernel
theorem dL_law_1317 : decode cL_law 1317 = .ok (.iload 5, 2) := by decide +kernel
theorem dL_law_1319 : decode cL_law 1319 = .ok (.if_icmp .eq 5, 3) := by decide +kernel
theorem dL_law_1322 : decode cL_law 1322 = .ok (.iconst 0, 1) := by decide +kernel
theorem dL_law_1323 : decode cL_law 1323 = .ok (.ireturn, 1) := by decide +kernel
theorem dL_law_1324 : decode cL_law 1324 = .ok (.iload 5, 2) := by decide +kernel
theorem dL_law_1326 : decode cL_law 1326 = .ok (.ifCond .ne 15, 3) := by decide +kernel
theorem dL_law_1329 : decode cL_law 1329 = .ok (.aload_n 3, 1) := by decide +kernel
theorem dL_law_1330 : decode cL_law 1330 = .ok (.iconst 0, 1) := by decide +kernel
theorem dL_law_1331 : decode cL_law 1331 = .ok (.laload, 1) := by decide +kernel
theorem dL_law_1332 : decode cL_law 1332 = .ok (.iload 6, 2) := by decide +kernel
theorem dL_law_1334 : decode cL_law 1334 = .ok (.i2l, 1) := by decide +kernel
theorem dL_law_1335 : decode cL_law 1335 = .ok (.lcmp, 1) := by decide +kernel
theorem dL_law_1336 : decode cL_law 1336 = .ok (.ifCond .eq 5, 3) := by decide +kernel
theorem dL_law_1339 : decode cL_law 1339 = .ok (.iconst 0, 1) := by decide +kernel
theorem dL_law_1340 : decode cL_law 1340 = .ok (.ireturn, 1) := by decide +kernel
theorem dL_law_1341 : decode cL_law 1341 = .ok (.goto 506, 3) := by decide +kernel
theorem dL_law_1344 : decode cL_law 1344 = .ok (.aload_n 1, 1) := by decide +kernel
theorem dL_law_1345 : decode cL_law 1345 = .ok (.aload_n 0, 1) := by decide +kernel
theorem dL_law_1346 : decode cL_law 1346 = .ok (.iload 4, 2) := by decide +kernel
theorem dL_law_1348 : decode cL_law 1348 = .ok (.iconst 1, 1) := by decide +kernel
theorem dL_law_1349 : decode cL_law 1349 = .ok (.iadd, 1) := by decide +kernel
theorem dL_law_1350 : decode cL_law 1350 = .ok (.iaload, 1) := by decide +kernel
theorem dL_law_1351 : decode cL_law 1351 = .ok (.aload_n 3, 1) := by decide +kernel
theorem dL_law_1352 : decode cL_law 1352 = .ok (.invokestatic 188, 3) := by decide +kernel
theorem dL_law_1355 : decode cL_law 1355 = .ok (.istore 5, 2) := by decide +kernel
theorem dL_law_1357 : decode cL_law 1357 = .ok (.aload_n 2, 1) := by decide +kernel
theorem dL_law_1358 : decode cL_law 1358 = .ok (.aload_n 0, 1) := by decide +kernel
theorem dL_law_1359 : decode cL_law 1359 = .ok (.iload 4, 2) := by decide +kernel
theorem dL_law_1361 : decode cL_law 1361 = .ok (.iconst 1, 1) := by decide +kernel
theorem dL_law_1362 : decode cL_law 1362 = .ok (.iadd, 1) := by decide +kernel
theorem dL_law_1363 : decode cL_law 1363 = .ok (.iaload, 1) := by decide +kernel
theorem dL_law_1364 : decode cL_law 1364 = .ok (.invokevirtual 190, 3) := by decide +kernel
theorem dL_law_1367 : decode cL_law 1367 = .ok (.istore 6, 2) := by decide +kernel
theorem dL_law_1369 : decode cL_law 1369 = .ok (.aload_n 2, 1) := by decide +kernel
theorem dL_law_1370 : decode cL_law 1370 = .ok (.invokevirtual 94, 3) := by decide +kernel
theorem dL_law_1373 : decode cL_law 1373 = .ok (.iload 5, 2) := by decide +kernel
theorem dL_law_1375 : decode cL_law 1375 = .ok (.if_icmp .eq 5, 3) := by decide +kernel
theorem dL_law_1378 : decode cL_law 1378 = .ok (.iconst 0, 1) := by decide +kernel
theorem dL_law_1379 : decode cL_law 1379 = .ok (.ireturn, 1) := by decide +kernel
theorem dL_law_1380 : decode cL_law 1380 = .ok (.iload 5, 2) := by decide +kernel
theorem dL_law_1382 : decode cL_law 1382 = .ok (.ifCond .ne 15, 3) := by decide +kernel
theorem dL_law_1385 : decode cL_law 1385 = .ok (.aload_n 3, 1) := by decide +kernel
theorem dL_law_1386 : decode cL_law 1386 = .ok (.iconst 0, 1) := by decide +kernel
theorem dL_law_1387 : decode cL_law 1387 = .ok (.laload, 1) := by decide +kernel
theorem dL_law_1388 : decode cL_law 1388 = .ok (.iload 6, 2) := by decide +kernel
theorem dL_law_1390 : decode cL_law 1390 = .ok (.i2l, 1) := by decide +kernel
theorem dL_law_1391 : decode cL_law 1391 = .ok (.lcmp, 1) := by decide +kernel
theorem dL_law_1392 : decode cL_law 1392 = .ok (.ifCond .eq 5, 3) := by decide +kernel
theorem dL_law_1395 : decode cL_law 1395 = .ok (.iconst 0, 1) := by decide +kernel
theorem dL_law_1396 : decode cL_law 1396 = .ok (.ireturn, 1) := by decide +kernel
theorem dL_law_1397 : decode cL_law 1397 = .ok (.goto 450, 3) := by decide +kernel
theorem dL_law_1400 : decode cL_law 1400 = .ok (.aload_n 1, 1) := by decide +kernel
theorem dL_law_1401 : decode cL_law 1401 = .ok (.invokevirtual 191, 3) := by decide +kernel
theorem dL_law_1404 : decode cL_law 1404 = .ok (.aload_n 2, 1) := by decide +kernel
theorem dL_law_1405 : decode cL_law 1405 = .ok (.invokevirtual 194, 3) := by decide +kernel
theorem dL_law_1408 : decode cL_law 1408 = .ok (.if_icmp .eq 439, 3) := by decide +kernel
theorem dL_law_1411 : decode cL_law 1411 = .ok (.iconst 0, 1) := by decide +kernel
theorem dL_law_1412 : decode cL_law 1412 = .ok (.ireturn, 1) := by decide +kernel
theorem dL_law_1413 : decode cL_law 1413 = .ok (.aload_n 1, 1) := by decide +kernel
theorem dL_law_1414 : decode cL_law 1414 = .ok (.invokevirtual 195, 3) := by decide +kernel
theorem dL_law_1417 : decode cL_law 1417 = .ok (.aload_n 2, 1) := by decide +kernel
theorem dL_law_1418 : decode cL_law 1418 = .ok (.invokevirtual 198, 3) := by decide +kernel
theorem dL_law_1421 : decode cL_law 1421 = .ok (.if_icmp .eq 426, 3) := by decide +kernel
theorem dL_law_1424 : decode cL_law 1424 = .ok (.iconst 0, 1) := by decide +kernel
theorem dL_law_1425 : decode cL_law 1425 = .ok (.ireturn, 1) := by decide +kernel
theorem dL_law_1426 : decode cL_law 1426 = .ok (.aload_n 1, 1) := by decide +kernel
theorem dL_law_1427 : decode cL_law 1427 = .ok (.aload_n 0, 1) := by decide +kernel
theorem dL_law_1428 : decode cL_law 1428 = .ok (.iload 4, 2) := by decide +kernel
theorem dL_law_1430 : decode cL_law 1430 = .ok (.iconst 1, 1) := by decide +kernel
theorem dL_law_1431 : decode cL_law 1431 = .ok (.iadd, 1) := by decide +kernel
theorem dL_law_1432 : decode cL_law 1432 = .ok (.iaload, 1) := by decide +kernel
theorem dL_law_1433 : decode cL_law 1433 = .ok (.aload_n 3, 1) := by decide +kernel
theorem dL_law_1434 : decode cL_law 1434 = .ok (.invokestatic 199, 3) := by decide +kernel
theorem dL_law_1437 : decode cL_law 1437 = .ok (.istore 5, 2) := by decide +kernel
theorem dL_law_1439 : decode cL_law 1439 = .ok (.aload_n 2, 1) := by decide +kernel
theorem dL_law_1440 : decode cL_law 1440 = .ok (.aload_n 0, 1) := by decide +kernel
theorem dL_law_1441 : decode cL_law 1441 = .ok (.iload 4, 2) := by decide +kernel
theorem dL_law_1443 : decode cL_law 1443 = .ok (.iconst 1, 1) := by decide +kernel
theorem dL_law_1444 : decode cL_law 1444 = .ok (.iadd, 1) := by decide +kernel
theorem dL_law_1445 : decode cL_law 1445 = .ok (.iaload, 1) := by decide +kernel
theorem dL_law_1446 : decode cL_law 1446 = .ok (.invokevirtual 201, 3) := by decide +kernel
theorem dL_law_1449 : decode cL_law 1449 = .ok (.istore 6, 2) := by decide +kernel
theorem dL_law_1451 : decode cL_law 1451 = .ok (.aload_n 2, 1) := by decide +kernel
theorem dL_law_1452 : decode cL_law 1452 = .ok (.invokevirtual 94, 3) := by decide +kernel
theorem dL_law_1455 : decode cL_law 1455 = .ok (.iload 5, 2) := by decide +kernel
theorem dL_law_1457 : decode cL_law 1457 = .ok (.if_icmp .eq 5, 3) := by decide +kernel
theorem dL_law_1460 : decode cL_law 1460 = .ok (.iconst 0, 1) := by decide +kernel
theorem dL_law_1461 : decode cL_law 1461 = .ok (.ireturn, 1) := by decide +kernel
theorem dL_law_1462 : decode cL_law 1462 = .ok (.iload 5, 2) := by decide +kernel
theorem dL_law_1464 : decode cL_law 1464 = .ok (.ifCond .ne 15, 3) := by decide +kernel
theorem dL_law_1467 : decode cL_law 1467 = .ok (.aload_n 3, 1) := by decide +kernel
theorem dL_law_1468 : decode cL_law 1468 = .ok (.iconst 0, 1) := by decide +kernel
theorem dL_law_1469 : decode cL_law 1469 = .ok (.laload, 1) := by decide +kernel
theorem dL_law_1470 : decode cL_law 1470 = .ok (.iload 6, 2) := by decide +kernel
theorem dL_law_1472 : decode cL_law 1472 = .ok (.i2l, 1) := by decide +kernel
theorem dL_law_1473 : decode cL_law 1473 = .ok (.lcmp, 1) := by decide +kernel
theorem dL_law_1474 : decode cL_law 1474 = .ok (.ifCond .eq 5, 3) := by decide +kernel
theorem dL_law_1477 : decode cL_law 1477 = .ok (.iconst 0, 1) := by decide +kernel
theorem dL_law_1478 : decode cL_law 1478 = .ok (.ireturn, 1) := by decide +kernel
theorem dL_law_1479 : decode cL_law 1479 = .ok (.goto 368, 3) := by decide +kernel
theorem dL_law_1482 : decode cL_law 1482 = .ok (.aload_n 1, 1) := by decide +kernel
theorem dL_law_1483 : decode cL_law 1483 = .ok (.aload_n 0, 1) := by decide +kernel
theorem dL_law_1484 : decode cL_law 1484 = .ok (.iload 4, 2) := by decide +kernel
theorem dL_law_1486 : decode cL_law 1486 = .ok (.iconst 1, 1) := by decide +kernel
theorem dL_law_1487 : decode cL_law 1487 = .ok (.iadd, 1) := by decide +kernel
theorem dL_law_1488 : decode cL_law 1488 = .ok (.iaload, 1) := by decide +kernel
theorem dL_law_1489 : decode cL_law 1489 = .ok (.ifCond .eq 7, 3) := by decide +kernel
theorem dL_law_1492 : decode cL_law 1492 = .ok (.iconst 1, 1) := by decide +kernel
theorem dL_law_1493 : decode cL_law 1493 = .ok (.goto 4, 3) := by decide +kernel
theorem dL_law_1496 : decode cL_law 1496 = .ok (.iconst 0, 1) := by decide +kernel
theorem dL_law_1497 : decode cL_law 1497 = .ok (.aload_n 0, 1) := by decide +kernel
theorem dL_law_1498 : decode cL_law 1498 = .ok (.iload 4, 2) := by decide +kernel
theorem dL_law_1500 : decode cL_law 1500 = .ok (.iconst 2, 1) := by decide +kernel
theorem dL_law_1501 : decode cL_law 1501 = .ok (.iadd, 1) := by decide +kernel
theorem dL_law_1502 : decode cL_law 1502 = .ok (.iaload, 1) := by decide +kernel
theorem dL_law_1503 : decode cL_law 1503 = .ok (.ifCond .eq 7, 3) := by decide +kernel
theorem dL_law_1506 : decode cL_law 1506 = .ok (.iconst 1, 1) := by decide +kernel
theorem dL_law_1507 : decode cL_law 1507 = .ok (.goto 4, 3) := by decide +kernel
theorem dL_law_1510 : decode cL_law 1510 = .ok (.iconst 0, 1) := by decide +kernel
theorem dL_law_1511 : decode cL_law 1511 = .ok (.invokevirtual 202, 3) := by decide +kernel
theorem dL_law_1514 : decode cL_law 1514 = .ok (.aload_n 2, 1) := by decide +kernel
theorem dL_law_1515 : decode cL_law 1515 = .ok (.aload_n 0, 1) := by decide +kernel
theorem dL_law_1516 : decode cL_law 1516 = .ok (.iload 4, 2) := by decide +kernel
theorem dL_law_1518 : decode cL_law 1518 = .ok (.iconst 1, 1) := by decide +kernel
theorem dL_law_1519 : decode cL_law 1519 = .ok (.iadd, 1) := by decide +kernel
theorem dL_law_1520 : decode cL_law 1520 = .ok (.iaload, 1) := by decide +kernel
theorem dL_law_1521 : decode cL_law 1521 = .ok (.ifCond .eq 7, 3) := by decide +kernel
theorem dL_law_1524 : decode cL_law 1524 = .ok (.iconst 1, 1) := by decide +kernel
theorem dL_law_1525 : decode cL_law 1525 = .ok (.goto 4, 3) := by decide +kernel
theorem dL_law_1528 : decode cL_law 1528 = .ok (.iconst 0, 1) := by decide +kernel
theorem dL_law_1529 : decode cL_law 1529 = .ok (.aload_n 0, 1) := by decide +kernel
theorem dL_law_1530 : decode cL_law 1530 = .ok (.iload 4, 2) := by decide +kernel
theorem dL_law_1532 : decode cL_law 1532 = .ok (.iconst 2, 1) := by decide +kernel
theorem dL_law_1533 : decode cL_law 1533 = .ok (.iadd, 1) := by decide +kernel
theorem dL_law_1534 : decode cL_law 1534 = .ok (.iaload, 1) := by decide +kernel
theorem dL_law_1535 : decode cL_law 1535 = .ok (.ifCond .eq 7, 3) := by decide +kernel
theorem dL_law_1538 : decode cL_law 1538 = .ok (.iconst 1, 1) := by decide +kernel
theorem dL_law_1539 : decode cL_law 1539 = .ok (.goto 4, 3) := by decide +kernel
theorem dL_law_1542 : decode cL_law 1542 = .ok (.iconst 0, 1) := by decide +kernel
theorem dL_law_1543 : decode cL_law 1543 = .ok (.invokevirtual 206, 3) := by decide +kernel
theorem dL_law_1546 : decode cL_law 1546 = .ok (.if_icmp .eq 301, 3) := by decide +kernel
theorem dL_law_1549 : decode cL_law 1549 = .ok (.iconst 0, 1) := by decide +kernel
theorem dL_law_1550 : decode cL_law 1550 = .ok (.ireturn, 1) := by decide +kernel
theorem dL_law_1551 : decode cL_law 1551 = .ok (.aload_n 1, 1) := by decide +kernel
theorem dL_law_1552 : decode cL_law 1552 = .ok (.aload_n 0, 1) := by decide +kernel
theorem dL_law_1553 : decode cL_law 1553 = .ok (.iload 4, 2) := by decide +kernel
theorem dL_law_1555 : decode cL_law 1555 = .ok (.iconst 1, 1) := by decide +kernel
theorem dL_law_1556 : decode cL_law 1556 = .ok (.iadd, 1) := by decide +kernel
theorem dL_law_1557 : decode cL_law 1557 = .ok (.iaload, 1) := by decide +kernel
theorem dL_law_1558 : decode cL_law 1558 = .ok (.aload_n 3, 1) := by decide +kernel
theorem dL_law_1559 : decode cL_law 1559 = .ok (.invokestatic 207, 3) := by decide +kernel
theorem dL_law_1562 : decode cL_law 1562 = .ok (.istore 5, 2) := by decide +kernel
theorem dL_law_1564 : decode cL_law 1564 = .ok (.aload_n 2, 1) := by decide +kernel
theorem dL_law_1565 : decode cL_law 1565 = .ok (.aload_n 0, 1) := by decide +kernel
theorem dL_law_1566 : decode cL_law 1566 = .ok (.iload 4, 2) := by decide +kernel
theorem dL_law_1568 : decode cL_law 1568 = .ok (.iconst 1, 1) := by decide +kernel
theorem dL_law_1569 : decode cL_law 1569 = .ok (.iadd, 1) := by decide +kernel
theorem dL_law_1570 : decode cL_law 1570 = .ok (.iaload, 1) := by decide +kernel
theorem dL_law_1571 : decode cL_law 1571 = .ok (.invokevirtual 209, 3) := by decide +kernel
theorem dL_law_1574 : decode cL_law 1574 = .ok (.istore 6, 2) := by decide +kernel
theorem dL_law_1576 : decode cL_law 1576 = .ok (.aload_n 2, 1) := by decide +kernel
theorem dL_law_1577 : decode cL_law 1577 = .ok (.invokevirtual 94, 3) := by decide +kernel
theorem dL_law_1580 : decode cL_law 1580 = .ok (.iload 5, 2) := by decide +kernel
theorem dL_law_1582 : decode cL_law 1582 = .ok (.if_icmp .eq 5, 3) := by decide +kernel
theorem dL_law_1585 : decode cL_law 1585 = .ok (.iconst 0, 1) := by decide +kernel
theorem dL_law_1586 : decode cL_law 1586 = .ok (.ireturn, 1) := by decide +kernel
theorem dL_law_1587 : decode cL_law 1587 = .ok (.iload 5, 2) := by decide +kernel
theorem dL_law_1589 : decode cL_law 1589 = .ok (.ifCond .ne 15, 3) := by decide +kernel
theorem dL_law_1592 : decode cL_law 1592 = .ok (.aload_n 3, 1) := by decide +kernel
theorem dL_law_1593 : decode cL_law 1593 = .ok (.iconst 0, 1) := by decide +kernel
theorem dL_law_1594 : decode cL_law 1594 = .ok (.laload, 1) := by decide +kernel
theorem dL_law_1595 : decode cL_law 1595 = .ok (.iload 6, 2) := by decide +kernel
theorem dL_law_1597 : decode cL_law 1597 = .ok (.i2l, 1) := by decide +kernel
theorem dL_law_1598 : decode cL_law 1598 = .ok (.lcmp, 1) := by decide +kernel
theorem dL_law_1599 : decode cL_law 1599 = .ok (.ifCond .eq 5, 3) := by decide +kernel
theorem dL_law_1602 : decode cL_law 1602 = .ok (.iconst 0, 1) := by decide +kernel
theorem dL_law_1603 : decode cL_law 1603 = .ok (.ireturn, 1) := by decide +kernel
theorem dL_law_1604 : decode cL_law 1604 = .ok (.goto 243, 3) := by decide +kernel
theorem dL_law_1607 : decode cL_law 1607 = .ok (.aload_n 1, 1) := by decide +kernel
theorem dL_law_1608 : decode cL_law 1608 = .ok (.aload_n 0, 1) := by decide +kernel
theorem dL_law_1609 : decode cL_law 1609 = .ok (.iload 4, 2) := by decide +kernel
theorem dL_law_1611 : decode cL_law 1611 = .ok (.iconst 1, 1) := by decide +kernel
theorem dL_law_1612 : decode cL_law 1612 = .ok (.iadd, 1) := by decide +kernel
theorem dL_law_1613 : decode cL_law 1613 = .ok (.iaload, 1) := by decide +kernel
theorem dL_law_1614 : decode cL_law 1614 = .ok (.aload_n 3, 1) := by decide +kernel
theorem dL_law_1615 : decode cL_law 1615 = .ok (.invokestatic 210, 3) := by decide +kernel
theorem dL_law_1618 : decode cL_law 1618 = .ok (.istore 5, 2) := by decide +kernel
theorem dL_law_1620 : decode cL_law 1620 = .ok (.aload_n 2, 1) := by decide +kernel
theorem dL_law_1621 : decode cL_law 1621 = .ok (.aload_n 0, 1) := by decide +kernel
theorem dL_law_1622 : decode cL_law 1622 = .ok (.iload 4, 2) := by decide +kernel
theorem dL_law_1624 : decode cL_law 1624 = .ok (.iconst 1, 1) := by decide +kernel
theorem dL_law_1625 : decode cL_law 1625 = .ok (.iadd, 1) := by decide +kernel
theorem dL_law_1626 : decode cL_law 1626 = .ok (.iaload, 1) := by decide +kernel
theorem dL_law_1627 : decode cL_law 1627 = .ok (.invokevirtual 212, 3) := by decide +kernel
theorem dL_law_1630 : decode cL_law 1630 = .ok (.istore 6, 2) := by decide +kernel
theorem dL_law_1632 : decode cL_law 1632 = .ok (.aload_n 2, 1) := by decide +kernel
theorem dL_law_1633 : decode cL_law 1633 = .ok (.invokevirtual 94, 3) := by decide +kernel
theorem dL_law_1636 : decode cL_law 1636 = .ok (.iload 5, 2) := by decide +kernel
theorem dL_law_1638 : decode cL_law 1638 = .ok (.if_icmp .eq 5, 3) := by decide +kernel
theorem dL_law_1641 : decode cL_law 1641 = .ok (.iconst 0, 1) := by decide +kernel
theorem dL_law_1642 : decode cL_law 1642 = .ok (.ireturn, 1) := by decide +kernel
theorem dL_law_1643 : decode cL_law 1643 = .ok (.iload 5, 2) := by decide +kernel
theorem dL_law_1645 : decode cL_law 1645 = .ok (.ifCond .ne 15, 3) := by decide +kernel
theorem dL_law_1648 : decode cL_law 1648 = .ok (.aload_n 3, 1) := by decide +kernel
theorem dL_law_1649 : decode cL_law 1649 = .ok (.iconst 0, 1) := by decide +kernel
theorem dL_law_1650 : decode cL_law 1650 = .ok (.laload, 1) := by decide +kernel
theorem dL_law_1651 : decode cL_law 1651 = .ok (.iload 6, 2) := by decide +kernel
theorem dL_law_1653 : decode cL_law 1653 = .ok (.i2l, 1) := by decide +kernel
theorem dL_law_1654 : decode cL_law 1654 = .ok (.lcmp, 1) := by decide +kernel
theorem dL_law_1655 : decode cL_law 1655 = .ok (.ifCond .eq 5, 3) := by decide +kernel
theorem dL_law_1658 : decode cL_law 1658 = .ok (.iconst 0, 1) := by decide +kernel
theorem dL_law_1659 : decode cL_law 1659 = .ok (.ireturn, 1) := by decide +kernel
theorem dL_law_1660 : decode cL_law 1660 = .ok (.goto 187, 3) := by decide +kernel
theorem dL_law_1663 : decode cL_law 1663 = .ok (.aload_n 1, 1) := by decide +kernel
theorem dL_law_1664 : decode cL_law 1664 = .ok (.aload_n 0, 1) := by decide +kernel
theorem dL_law_1665 : decode cL_law 1665 = .ok (.iload 4, 2) := by decide +kernel
theorem dL_law_1667 : decode cL_law 1667 = .ok (.iconst 1, 1) := by decide +kernel
theorem dL_law_1668 : decode cL_law 1668 = .ok (.iadd, 1) := by decide +kernel
theorem dL_law_1669 : decode cL_law 1669 = .ok (.iaload, 1) := by decide +kernel
theorem dL_law_1670 : decode cL_law 1670 = .ok (.aload_n 3, 1) := by decide +kernel
theorem dL_law_1671 : decode cL_law 1671 = .ok (.invokestatic 213, 3) := by decide +kernel
theorem dL_law_1674 : decode cL_law 1674 = .ok (.istore 5, 2) := by decide +kernel
theorem dL_law_1676 : decode cL_law 1676 = .ok (.aload_n 2, 1) := by decide +kernel
theorem dL_law_1677 : decode cL_law 1677 = .ok (.aload_n 0, 1) := by decide +kernel
theorem dL_law_1678 : decode cL_law 1678 = .ok (.iload 4, 2) := by decide +kernel
theorem dL_law_1680 : decode cL_law 1680 = .ok (.iconst 1, 1) := by decide +kernel
theorem dL_law_1681 : decode cL_law 1681 = .ok (.iadd, 1) := by decide +kernel
theorem dL_law_1682 : decode cL_law 1682 = .ok (.iaload, 1) := by decide +kernel
theorem dL_law_1683 : decode cL_law 1683 = .ok (.invokevirtual 215, 3) := by decide +kernel
theorem dL_law_1686 : decode cL_law 1686 = .ok (.istore 6, 2) := by decide +kernel
theorem dL_law_1688 : decode cL_law 1688 = .ok (.aload_n 2, 1) := by decide +kernel
theorem dL_law_1689 : decode cL_law 1689 = .ok (.invokevirtual 94, 3) := by decide +kernel
theorem dL_law_1692 : decode cL_law 1692 = .ok (.iload 5, 2) := by decide +kernel
theorem dL_law_1694 : decode cL_law 1694 = .ok (.if_icmp .eq 5, 3) := by decide +kernel
theorem dL_law_1697 : decode cL_law 1697 = .ok (.iconst 0, 1) := by decide +kernel
theorem dL_law_1698 : decode cL_law 1698 = .ok (.ireturn, 1) := by decide +kernel
theorem dL_law_1699 : decode cL_law 1699 = .ok (.iload 5, 2) := by decide +kernel
theorem dL_law_1701 : decode cL_law 1701 = .ok (.ifCond .ne 15, 3) := by decide +kernel
theorem dL_law_1704 : decode cL_law 1704 = .ok (.aload_n 3, 1) := by decide +kernel
theorem dL_law_1705 : decode cL_law 1705 = .ok (.iconst 0, 1) := by decide +kernel
theorem dL_law_1706 : decode cL_law 1706 = .ok (.laload, 1) := by decide +kernel
theorem dL_law_1707 : decode cL_law 1707 = .ok (.iload 6, 2) := by decide +kernel
theorem dL_law_1709 : decode cL_law 1709 = .ok (.i2l, 1) := by decide +kernel
theorem dL_law_1710 : decode cL_law 1710 = .ok (.lcmp, 1) := by decide +kernel
theorem dL_law_1711 : decode cL_law 1711 = .ok (.ifCond .eq 5, 3) := by decide +kernel
theorem dL_law_1714 : decode cL_law 1714 = .ok (.iconst 0, 1) := by decide +kernel
theorem dL_law_1715 : decode cL_law 1715 = .ok (.ireturn, 1) := by decide +kernel
theorem dL_law_1716 : decode cL_law 1716 = .ok (.goto 131, 3) := by decide +kernel
theorem dL_law_1719 : decode cL_law 1719 = .ok (.aload_n 1, 1) := by decide +kernel
theorem dL_law_1720 : decode cL_law 1720 = .ok (.invokevirtual 216, 3) := by decide +kernel
theorem dL_law_1723 : decode cL_law 1723 = .ok (.aload_n 2, 1) := by decide +kernel
theorem dL_law_1724 : decode cL_law 1724 = .ok (.invokevirtual 219, 3) := by decide +kernel
theorem dL_law_1727 : decode cL_law 1727 = .ok (.if_icmp .eq 120, 3) := by decide +kernel
theorem dL_law_1730 : decode cL_law 1730 = .ok (.iconst 0, 1) := by decide +kernel
theorem dL_law_1731 : decode cL_law 1731 = .ok (.ireturn, 1) := by decide +kernel
theorem dL_law_1732 : decode cL_law 1732 = .ok (.aload_n 1, 1) := by decide +kernel
theorem dL_law_1733 : decode cL_law 1733 = .ok (.invokevirtual 220, 3) := by decide +kernel
theorem dL_law_1736 : decode cL_law 1736 = .ok (.aload_n 2, 1) := by decide +kernel
theorem dL_law_1737 : decode cL_law 1737 = .ok (.invokevirtual 223, 3) := by decide +kernel
theorem dL_law_1740 : decode cL_law 1740 = .ok (.if_icmp .eq 107, 3) := by decide +kernel
theorem dL_law_1743 : decode cL_law 1743 = .ok (.iconst 0, 1) := by decide +kernel
theorem dL_law_1744 : decode cL_law 1744 = .ok (.ireturn, 1) := by decide +kernel
theorem dL_law_1745 : decode cL_law 1745 = .ok (.aload_n 1, 1) := by decide +kernel
theorem dL_law_1746 : decode cL_law 1746 = .ok (.aload_n 3, 1) := by decide +kernel
theorem dL_law_1747 : decode cL_law 1747 = .ok (.invokestatic 224, 3) := by decide +kernel
theorem dL_law_1750 : decode cL_law 1750 = .ok (.istore 5, 2) := by decide +kernel
theorem dL_law_1752 : decode cL_law 1752 = .ok (.aload_n 2, 1) := by decide +kernel
theorem dL_law_1753 : decode cL_law 1753 = .ok (.invokevirtual 227, 3) := by decide +kernel
theorem dL_law_1756 : decode cL_law 1756 = .ok (.istore 6, 2) := by decide +kernel
theorem dL_law_1758 : decode cL_law 1758 = .ok (.aload_n 2, 1) := by decide +kernel
theorem dL_law_1759 : decode cL_law 1759 = .ok (.invokevirtual 94, 3) := by decide +kernel
theorem dL_law_1762 : decode cL_law 1762 = .ok (.iload 5, 2) := by decide +kernel
theorem dL_law_1764 : decode cL_law 1764 = .ok (.if_icmp .eq 5, 3) := by decide +kernel
theorem dL_law_1767 : decode cL_law 1767 = .ok (.iconst 0, 1) := by decide +kernel
theorem dL_law_1768 : decode cL_law 1768 = .ok (.ireturn, 1) := by decide +kernel
theorem dL_law_1769 : decode cL_law 1769 = .ok (.iload 5, 2) := by decide +kernel
theorem dL_law_1771 : decode cL_law 1771 = .ok (.ifCond .ne 15, 3) := by decide +kernel
theorem dL_law_1774 : decode cL_law 1774 = .ok (.aload_n 3, 1) := by decide +kernel
theorem dL_law_1775 : decode cL_law 1775 = .ok (.iconst 0, 1) := by decide +kernel
theorem dL_law_1776 : decode cL_law 1776 = .ok (.laload, 1) := by decide +kernel
theorem dL_law_1777 : decode cL_law 1777 = .ok (.iload 6, 2) := by decide +kernel
theorem dL_law_1779 : decode cL_law 1779 = .ok (.i2l, 1) := by decide +kernel
theorem dL_law_1780 : decode cL_law 1780 = .ok (.lcmp, 1) := by decide +kernel
theorem dL_law_1781 : decode cL_law 1781 = .ok (.ifCond .eq 5, 3) := by decide +kernel
theorem dL_law_1784 : decode cL_law 1784 = .ok (.iconst 0, 1) := by decide +kernel
theorem dL_law_1785 : decode cL_law 1785 = .ok (.ireturn, 1) := by decide +kernel
theorem dL_law_1786 : decode cL_law 1786 = .ok (.goto 61, 3) := by decide +kernel
theorem dL_law_1789 : decode cL_law 1789 = .ok (.aload_n 1, 1) := by decide +kernel
theorem dL_law_1790 : decode cL_law 1790 = .ok (.aload_n 3, 1) := by decide +kernel
theorem dL_law_1791 : decode cL_law 1791 = .ok (.invokestatic 228, 3) := by decide +kernel
theorem dL_law_1794 : decode cL_law 1794 = .ok (.istore 5, 2) := by decide +kernel
theorem dL_law_1796 : decode cL_law 1796 = .ok (.aload_n 2, 1) := by decide +kernel
theorem dL_law_1797 : decode cL_law 1797 = .ok (.invokevirtual 230, 3) := by decide +kernel
theorem dL_law_1800 : decode cL_law 1800 = .ok (.istore 6, 2) := by decide +kernel
theorem dL_law_1802 : decode cL_law 1802 = .ok (.aload_n 2, 1) := by decide +kernel
theorem dL_law_1803 : decode cL_law 1803 = .ok (.invokevirtual 94, 3) := by decide +kernel
theorem dL_law_1806 : decode cL_law 1806 = .ok (.iload 5, 2) := by decide +kernel
theorem dL_law_1808 : decode cL_law 1808 = .ok (.if_icmp .eq 5, 3) := by decide +kernel
theorem dL_law_1811 : decode cL_law 1811 = .ok (.iconst 0, 1) := by decide +kernel
theorem dL_law_1812 : decode cL_law 1812 = .ok (.ireturn, 1) := by decide +kernel
theorem dL_law_1813 : decode cL_law 1813 = .ok (.iload 5, 2) := by decide +kernel
theorem dL_law_1815 : decode cL_law 1815 = .ok (.ifCond .ne 15, 3) := by decide +kernel
theorem dL_law_1818 : decode cL_law 1818 = .ok (.aload_n 3, 1) := by decide +kernel
theorem dL_law_1819 : decode cL_law 1819 = .ok (.iconst 0, 1) := by decide +kernel
theorem dL_law_1820 : decode cL_law 1820 = .ok (.laload, 1) := by decide +kernel
theorem dL_law_1821 : decode cL_law 1821 = .ok (.iload 6, 2) := by decide +kernel
theorem dL_law_1823 : decode cL_law 1823 = .ok (.i2l, 1) := by decide +kernel
theorem dL_law_1824 : decode cL_law 1824 = .ok (.lcmp, 1) := by decide +kernel
theorem dL_law_1825 : decode cL_law 1825 = .ok (.ifCond .eq 5, 3) := by decide +kernel
theorem dL_law_1828 : decode cL_law 1828 = .ok (.iconst 0, 1) := by decide +kernel
theorem dL_law_1829 : decode cL_law 1829 = .ok (.ireturn, 1) := by decide +kernel
theorem dL_law_1830 : decode cL_law 1830 = .ok (.goto 17, 3) := by decide +kernel
theorem dL_law_1833 : decode cL_law 1833 = .ok (.aload_n 1, 1) := by decide +kernel
theorem dL_law_1834 : decode cL_law 1834 = .ok (.invokevirtual 231, 3) := by decide +kernel
theorem dL_law_1837 : decode cL_law 1837 = .ok (.aload_n 2, 1) := by decide +kernel
theorem dL_law_1838 : decode cL_law 1838 = .ok (.invokevirtual 235, 3) := by decide +kernel
theorem dL_law_1841 : decode cL_law 1841 = .ok (.lcmp, 1) := by decide +kernel
theorem dL_law_1842 : decode cL_law 1842 = .ok (.ifCond .eq 5, 3) := by decide +kernel
theorem dL_law_1845 : decode cL_law 1845 = .ok (.iconst 0, 1) := by decide +kernel
theorem dL_law_1846 : decode cL_law 1846 = .ok (.ireturn, 1) := by decide +kernel
theorem dL_law_1847 : decode cL_law 1847 = .ok (.iinc 4 5, 3) := by decide +kernel
theorem dL_law_1850 : decode cL_law 1850 = .ok (.goto (-1827), 3) := by decide +kernel
theorem dL_law_1853 : decode cL_law 1853 = .ok (.iconst 1, 1) := by decide +kernel
theorem dL_law_1854 : decode cL_law 1854 = .ok (.ireturn, 1) := by decide +kernel

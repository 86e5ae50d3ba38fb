theorem dX0_init_0 : decode cX0_init 0 = .ok (.aload_n 0, 1) := by decide +kernel
theorem dX0_init_1 : decode cX0_init 1 = .ok (.invokespecial 3, 3) := by decide +kernel
theorem dX0_init_4 : decode cX0_init 4 = .ok (.aload_n 0, 1) := by decide +kernel
theorem dX0_init_5 : decode cX0_init 5 = .ok (.new 9, 3) := by decide +kernel
theorem dX0_init_8 : decode cX0_init 8 = .ok (.dup, 1) := by decide +kernel
theorem dX0_init_9 : decode cX0_init 9 = .ok (.bipush 6, 2) := by decide +kernel
theorem dX0_init_11 : decode cX0_init 11 = .ok (.iconst (-1), 1) := by decide +kernel
theorem dX0_init_12 : decode cX0_init 12 = .ok (.invokespecial 11, 3) := by decide +kernel
theorem dX0_init_15 : decode cX0_init 15 = .ok (.putfield 14, 3) := by decide +kernel
theorem dX0_init_18 : decode cX0_init 18 = .ok (.aload_n 0, 1) := by decide +kernel
theorem dX0_init_19 : decode cX0_init 19 = .ok (.aload_n 1, 1) := by decide +kernel
theorem dX0_init_20 : decode cX0_init 20 = .ok (.putfield 20, 3) := by decide +kernel
theorem dX0_init_23 : decode cX0_init 23 = .ok (.aload_n 0, 1) := by decide +kernel
theorem dX0_init_24 : decode cX0_init 24 = .ok (.aload_n 2, 1) := by decide +kernel
theorem dX0_init_25 : decode cX0_init 25 = .ok (.putfield 24, 3) := by decide +kernel
theorem dX0_init_28 : decode cX0_init 28 = .ok (.aload_n 0, 1) := by decide +kernel
theorem dX0_init_29 : decode cX0_init 29 = .ok (.new 28, 3) := by decide +kernel
theorem dX0_init_32 : decode cX0_init 32 = .ok (.dup, 1) := by decide +kernel
theorem dX0_init_33 : decode cX0_init 33 = .ok (.aload_n 1, 1) := by decide +kernel
theorem dX0_init_34 : decode cX0_init 34 = .ok (.invokespecial 30, 3) := by decide +kernel
theorem dX0_init_37 : decode cX0_init 37 = .ok (.putfield 33, 3) := by decide +kernel
theorem dX0_init_40 : decode cX0_init 40 = .ok (.return_, 1) := by decide +kernel
theorem dX0_findBest_0 : decode cX0_findBest 0 = .ok (.aload_n 0, 1) := by decide +kernel
theorem dX0_findBest_1 : decode cX0_findBest 1 = .ok (.getfield 20, 3) := by decide +kernel
theorem dX0_findBest_4 : decode cX0_findBest 4 = .ok (.invokevirtual 37, 3) := by decide +kernel
theorem dX0_findBest_7 : decode cX0_findBest 7 = .ok (.istore_n 1, 1) := by decide +kernel
theorem dX0_findBest_8 : decode cX0_findBest 8 = .ok (.aload_n 0, 1) := by decide +kernel
theorem dX0_findBest_9 : decode cX0_findBest 9 = .ok (.getfield 24, 3) := by decide +kernel
theorem dX0_findBest_12 : decode cX0_findBest 12 = .ok (.invokevirtual 43, 3) := by decide +kernel
theorem dX0_findBest_15 : decode cX0_findBest 15 = .ok (.istore_n 2, 1) := by decide +kernel
theorem dX0_findBest_16 : decode cX0_findBest 16 = .ok (.aload_n 0, 1) := by decide +kernel
theorem dX0_findBest_17 : decode cX0_findBest 17 = .ok (.getfield 14, 3) := by decide +kernel
theorem dX0_findBest_20 : decode cX0_findBest 20 = .ok (.iconst (-1), 1) := by decide +kernel
theorem dX0_findBest_21 : decode cX0_findBest 21 = .ok (.invokevirtual 48, 3) := by decide +kernel
theorem dX0_findBest_24 : decode cX0_findBest 24 = .ok (.iconst 0, 1) := by decide +kernel
theorem dX0_findBest_25 : decode cX0_findBest 25 = .ok (.istore_n 3, 1) := by decide +kernel
theorem dX0_findBest_26 : decode cX0_findBest 26 = .ok (.iconst 0, 1) := by decide +kernel
theorem dX0_findBest_27 : decode cX0_findBest 27 = .ok (.istore 4, 2) := by decide +kernel
theorem dX0_findBest_29 : decode cX0_findBest 29 = .ok (.iload 4, 2) := by decide +kernel
theorem dX0_findBest_31 : decode cX0_findBest 31 = .ok (.sipush 15625, 3) := by decide +kernel
theorem dX0_findBest_34 : decode cX0_findBest 34 = .ok (.if_icmp .ge 57, 3) := by decide +kernel
theorem dX0_findBest_37 : decode cX0_findBest 37 = .ok (.aload_n 0, 1) := by decide +kernel
theorem dX0_findBest_38 : decode cX0_findBest 38 = .ok (.iload 4, 2) := by decide +kernel
theorem dX0_findBest_40 : decode cX0_findBest 40 = .ok (.iload_n 1, 1) := by decide +kernel
theorem dX0_findBest_41 : decode cX0_findBest 41 = .ok (.invokevirtual 52, 3) := by decide +kernel
theorem dX0_findBest_44 : decode cX0_findBest 44 = .ok (.ifCond .eq 41, 3) := by decide +kernel
theorem dX0_findBest_47 : decode cX0_findBest 47 = .ok (.iload_n 3, 1) := by decide +kernel
theorem dX0_findBest_48 : decode cX0_findBest 48 = .ok (.ifCond .eq 10, 3) := by decide +kernel
theorem dX0_findBest_51 : decode cX0_findBest 51 = .ok (.aload_n 0, 1) := by decide +kernel
theorem dX0_findBest_52 : decode cX0_findBest 52 = .ok (.invokevirtual 56, 3) := by decide +kernel
theorem dX0_findBest_55 : decode cX0_findBest 55 = .ok (.ifCond .eq 30, 3) := by decide +kernel
theorem dX0_findBest_58 : decode cX0_findBest 58 = .ok (.aload_n 0, 1) := by decide +kernel
theorem dX0_findBest_59 : decode cX0_findBest 59 = .ok (.getfield 33, 3) := by decide +kernel
theorem dX0_findBest_62 : decode cX0_findBest 62 = .ok (.iload_n 2, 1) := by decide +kernel
theorem dX0_findBest_63 : decode cX0_findBest 63 = .ok (.invokevirtual 60, 3) := by decide +kernel
theorem dX0_findBest_66 : decode cX0_findBest 66 = .ok (.ifCond .eq 19, 3) := by decide +kernel
theorem dX0_findBest_69 : decode cX0_findBest 69 = .ok (.aload_n 0, 1) := by decide +kernel
theorem dX0_findBest_70 : decode cX0_findBest 70 = .ok (.getfield 14, 3) := by decide +kernel
theorem dX0_findBest_73 : decode cX0_findBest 73 = .ok (.aload_n 0, 1) := by decide +kernel
theorem dX0_findBest_74 : decode cX0_findBest 74 = .ok (.getfield 33, 3) := by decide +kernel
theorem dX0_findBest_77 : decode cX0_findBest 77 = .ok (.getfield 64, 3) := by decide +kernel
theorem dX0_findBest_80 : decode cX0_findBest 80 = .ok (.invokevirtual 67, 3) := by decide +kernel
theorem dX0_findBest_83 : decode cX0_findBest 83 = .ok (.iconst 1, 1) := by decide +kernel
theorem dX0_findBest_84 : decode cX0_findBest 84 = .ok (.istore_n 3, 1) := by decide +kernel
theorem dX0_findBest_85 : decode cX0_findBest 85 = .ok (.iinc 4 1, 3) := by decide +kernel
theorem dX0_findBest_88 : decode cX0_findBest 88 = .ok (.goto (-59), 3) := by decide +kernel
theorem dX0_findBest_91 : decode cX0_findBest 91 = .ok (.iload_n 3, 1) := by decide +kernel
theorem dX0_findBest_92 : decode cX0_findBest 92 = .ok (.ireturn, 1) := by decide +kernel
theorem dX0_pickAll_0 : decode cX0_pickAll 0 = .ok (.iload_n 1, 1) := by decide +kernel
theorem dX0_pickAll_1 : decode cX0_pickAll 1 = .ok (.istore_n 3, 1) := by decide +kernel
theorem dX0_pickAll_2 : decode cX0_pickAll 2 = .ok (.iconst 5, 1) := by decide +kernel
theorem dX0_pickAll_3 : decode cX0_pickAll 3 = .ok (.istore 4, 2) := by decide +kernel
theorem dX0_pickAll_5 : decode cX0_pickAll 5 = .ok (.iload 4, 2) := by decide +kernel
theorem dX0_pickAll_7 : decode cX0_pickAll 7 = .ok (.ifCond .lt 67, 3) := by decide +kernel
theorem dX0_pickAll_10 : decode cX0_pickAll 10 = .ok (.iload_n 3, 1) := by decide +kernel
theorem dX0_pickAll_11 : decode cX0_pickAll 11 = .ok (.iconst 5, 1) := by decide +kernel
theorem dX0_pickAll_12 : decode cX0_pickAll 12 = .ok (.irem, 1) := by decide +kernel
theorem dX0_pickAll_13 : decode cX0_pickAll 13 = .ok (.istore 5, 2) := by decide +kernel
theorem dX0_pickAll_15 : decode cX0_pickAll 15 = .ok (.iload_n 3, 1) := by decide +kernel
theorem dX0_pickAll_16 : decode cX0_pickAll 16 = .ok (.iconst 5, 1) := by decide +kernel
theorem dX0_pickAll_17 : decode cX0_pickAll 17 = .ok (.idiv, 1) := by decide +kernel
theorem dX0_pickAll_18 : decode cX0_pickAll 18 = .ok (.istore_n 3, 1) := by decide +kernel
theorem dX0_pickAll_19 : decode cX0_pickAll 19 = .ok (.aload_n 0, 1) := by decide +kernel
theorem dX0_pickAll_20 : decode cX0_pickAll 20 = .ok (.getfield 20, 3) := by decide +kernel
theorem dX0_pickAll_23 : decode cX0_pickAll 23 = .ok (.getfield 71, 3) := by decide +kernel
theorem dX0_pickAll_26 : decode cX0_pickAll 26 = .ok (.iload 4, 2) := by decide +kernel
theorem dX0_pickAll_28 : decode cX0_pickAll 28 = .ok (.iconst 3, 1) := by decide +kernel
theorem dX0_pickAll_29 : decode cX0_pickAll 29 = .ok (.iload 5, 2) := by decide +kernel
theorem dX0_pickAll_31 : decode cX0_pickAll 31 = .ok (.isub, 1) := by decide +kernel
theorem dX0_pickAll_32 : decode cX0_pickAll 32 = .ok (.invokevirtual 75, 3) := by decide +kernel
theorem dX0_pickAll_35 : decode cX0_pickAll 35 = .ok (.istore 6, 2) := by decide +kernel
theorem dX0_pickAll_37 : decode cX0_pickAll 37 = .ok (.iload 5, 2) := by decide +kernel
theorem dX0_pickAll_39 : decode cX0_pickAll 39 = .ok (.iconst 4, 1) := by decide +kernel
theorem dX0_pickAll_40 : decode cX0_pickAll 40 = .ok (.if_icmp .ge 14, 3) := by decide +kernel
theorem dX0_pickAll_43 : decode cX0_pickAll 43 = .ok (.iload_n 2, 1) := by decide +kernel
theorem dX0_pickAll_44 : decode cX0_pickAll 44 = .ok (.iload 6, 2) := by decide +kernel
theorem dX0_pickAll_46 : decode cX0_pickAll 46 = .ok (.invokestatic 81, 3) := by decide +kernel
theorem dX0_pickAll_49 : decode cX0_pickAll 49 = .ok (.ifCond .ne 5, 3) := by decide +kernel
theorem dX0_pickAll_52 : decode cX0_pickAll 52 = .ok (.iconst 0, 1) := by decide +kernel
theorem dX0_pickAll_53 : decode cX0_pickAll 53 = .ok (.ireturn, 1) := by decide +kernel
theorem dX0_pickAll_54 : decode cX0_pickAll 54 = .ok (.aload_n 0, 1) := by decide +kernel
theorem dX0_pickAll_55 : decode cX0_pickAll 55 = .ok (.getfield 33, 3) := by decide +kernel
theorem dX0_pickAll_58 : decode cX0_pickAll 58 = .ok (.getfield 64, 3) := by decide +kernel
theorem dX0_pickAll_61 : decode cX0_pickAll 61 = .ok (.iload 4, 2) := by decide +kernel
theorem dX0_pickAll_63 : decode cX0_pickAll 63 = .ok (.iload 6, 2) := by decide +kernel
theorem dX0_pickAll_65 : decode cX0_pickAll 65 = .ok (.invokevirtual 84, 3) := by decide +kernel
theorem dX0_pickAll_68 : decode cX0_pickAll 68 = .ok (.iinc 4 (-1), 3) := by decide +kernel
theorem dX0_pickAll_71 : decode cX0_pickAll 71 = .ok (.goto (-66), 3) := by decide +kernel
theorem dX0_pickAll_74 : decode cX0_pickAll 74 = .ok (.iconst 1, 1) := by decide +kernel
theorem dX0_pickAll_75 : decode cX0_pickAll 75 = .ok (.ireturn, 1) := by decide +kernel
theorem dX0_isBetter_0 : decode cX0_isBetter 0 = .ok (.aload_n 0, 1) := by decide +kernel
theorem dX0_isBetter_1 : decode cX0_isBetter 1 = .ok (.getfield 24, 3) := by decide +kernel
theorem dX0_isBetter_4 : decode cX0_isBetter 4 = .ok (.aload_n 0, 1) := by decide +kernel
theorem dX0_isBetter_5 : decode cX0_isBetter 5 = .ok (.getfield 33, 3) := by decide +kernel
theorem dX0_isBetter_8 : decode cX0_isBetter 8 = .ok (.getfield 64, 3) := by decide +kernel
theorem dX0_isBetter_11 : decode cX0_isBetter 11 = .ok (.iconst 5, 1) := by decide +kernel
theorem dX0_isBetter_12 : decode cX0_isBetter 12 = .ok (.invokevirtual 87, 3) := by decide +kernel
theorem dX0_isBetter_15 : decode cX0_isBetter 15 = .ok (.istore_n 1, 1) := by decide +kernel
theorem dX0_isBetter_16 : decode cX0_isBetter 16 = .ok (.aload_n 0, 1) := by decide +kernel
theorem dX0_isBetter_17 : decode cX0_isBetter 17 = .ok (.getfield 24, 3) := by decide +kernel
theorem dX0_isBetter_20 : decode cX0_isBetter 20 = .ok (.aload_n 0, 1) := by decide +kernel
theorem dX0_isBetter_21 : decode cX0_isBetter 21 = .ok (.getfield 14, 3) := by decide +kernel
theorem dX0_isBetter_24 : decode cX0_isBetter 24 = .ok (.iconst 5, 1) := by decide +kernel
theorem dX0_isBetter_25 : decode cX0_isBetter 25 = .ok (.invokevirtual 87, 3) := by decide +kernel
theorem dX0_isBetter_28 : decode cX0_isBetter 28 = .ok (.istore_n 2, 1) := by decide +kernel
theorem dX0_isBetter_29 : decode cX0_isBetter 29 = .ok (.iload_n 1, 1) := by decide +kernel
theorem dX0_isBetter_30 : decode cX0_isBetter 30 = .ok (.iload_n 2, 1) := by decide +kernel
theorem dX0_isBetter_31 : decode cX0_isBetter 31 = .ok (.if_icmp .eq 14, 3) := by decide +kernel
theorem dX0_isBetter_34 : decode cX0_isBetter 34 = .ok (.iload_n 1, 1) := by decide +kernel
theorem dX0_isBetter_35 : decode cX0_isBetter 35 = .ok (.iload_n 2, 1) := by decide +kernel
theorem dX0_isBetter_36 : decode cX0_isBetter 36 = .ok (.if_icmp .ge 7, 3) := by decide +kernel
theorem dX0_isBetter_39 : decode cX0_isBetter 39 = .ok (.iconst 1, 1) := by decide +kernel
theorem dX0_isBetter_40 : decode cX0_isBetter 40 = .ok (.goto 4, 3) := by decide +kernel
theorem dX0_isBetter_43 : decode cX0_isBetter 43 = .ok (.iconst 0, 1) := by decide +kernel
theorem dX0_isBetter_44 : decode cX0_isBetter 44 = .ok (.ireturn, 1) := by decide +kernel
theorem dX0_isBetter_45 : decode cX0_isBetter 45 = .ok (.iconst 0, 1) := by decide +kernel
theorem dX0_isBetter_46 : decode cX0_isBetter 46 = .ok (.istore_n 3, 1) := by decide +kernel
theorem dX0_isBetter_47 : decode cX0_isBetter 47 = .ok (.iload_n 3, 1) := by decide +kernel
theorem dX0_isBetter_48 : decode cX0_isBetter 48 = .ok (.bipush 6, 2) := by decide +kernel
theorem dX0_isBetter_50 : decode cX0_isBetter 50 = .ok (.if_icmp .ge 68, 3) := by decide +kernel
theorem dX0_isBetter_53 : decode cX0_isBetter 53 = .ok (.aload_n 0, 1) := by decide +kernel
theorem dX0_isBetter_54 : decode cX0_isBetter 54 = .ok (.getfield 24, 3) := by decide +kernel
theorem dX0_isBetter_57 : decode cX0_isBetter 57 = .ok (.iload_n 3, 1) := by decide +kernel
theorem dX0_isBetter_58 : decode cX0_isBetter 58 = .ok (.aload_n 0, 1) := by decide +kernel
theorem dX0_isBetter_59 : decode cX0_isBetter 59 = .ok (.getfield 33, 3) := by decide +kernel
theorem dX0_isBetter_62 : decode cX0_isBetter 62 = .ok (.getfield 64, 3) := by decide +kernel
theorem dX0_isBetter_65 : decode cX0_isBetter 65 = .ok (.iload_n 3, 1) := by decide +kernel
theorem dX0_isBetter_66 : decode cX0_isBetter 66 = .ok (.invokevirtual 91, 3) := by decide +kernel
theorem dX0_isBetter_69 : decode cX0_isBetter 69 = .ok (.invokevirtual 95, 3) := by decide +kernel
theorem dX0_isBetter_72 : decode cX0_isBetter 72 = .ok (.istore 4, 2) := by decide +kernel
theorem dX0_isBetter_74 : decode cX0_isBetter 74 = .ok (.aload_n 0, 1) := by decide +kernel
theorem dX0_isBetter_75 : decode cX0_isBetter 75 = .ok (.getfield 24, 3) := by decide +kernel
theorem dX0_isBetter_78 : decode cX0_isBetter 78 = .ok (.iload_n 3, 1) := by decide +kernel
theorem dX0_isBetter_79 : decode cX0_isBetter 79 = .ok (.aload_n 0, 1) := by decide +kernel
theorem dX0_isBetter_80 : decode cX0_isBetter 80 = .ok (.getfield 14, 3) := by decide +kernel
theorem dX0_isBetter_83 : decode cX0_isBetter 83 = .ok (.iload_n 3, 1) := by decide +kernel
theorem dX0_isBetter_84 : decode cX0_isBetter 84 = .ok (.invokevirtual 91, 3) := by decide +kernel
theorem dX0_isBetter_87 : decode cX0_isBetter 87 = .ok (.invokevirtual 95, 3) := by decide +kernel
theorem dX0_isBetter_90 : decode cX0_isBetter 90 = .ok (.istore 5, 2) := by decide +kernel
theorem dX0_isBetter_92 : decode cX0_isBetter 92 = .ok (.iload 4, 2) := by decide +kernel
theorem dX0_isBetter_94 : decode cX0_isBetter 94 = .ok (.iload 5, 2) := by decide +kernel
theorem dX0_isBetter_96 : decode cX0_isBetter 96 = .ok (.if_icmp .eq 16, 3) := by decide +kernel
theorem dX0_isBetter_99 : decode cX0_isBetter 99 = .ok (.iload 4, 2) := by decide +kernel
theorem dX0_isBetter_101 : decode cX0_isBetter 101 = .ok (.iload 5, 2) := by decide +kernel
theorem dX0_isBetter_103 : decode cX0_isBetter 103 = .ok (.if_icmp .le 7, 3) := by decide +kernel
theorem dX0_isBetter_106 : decode cX0_isBetter 106 = .ok (.iconst 1, 1) := by decide +kernel
theorem dX0_isBetter_107 : decode cX0_isBetter 107 = .ok (.goto 4, 3) := by decide +kernel
theorem dX0_isBetter_110 : decode cX0_isBetter 110 = .ok (.iconst 0, 1) := by decide +kernel
theorem dX0_isBetter_111 : decode cX0_isBetter 111 = .ok (.ireturn, 1) := by decide +kernel
theorem dX0_isBetter_112 : decode cX0_isBetter 112 = .ok (.iinc 3 1, 3) := by decide +kernel
theorem dX0_isBetter_115 : decode cX0_isBetter 115 = .ok (.goto (-68), 3) := by decide +kernel
theorem dX0_isBetter_118 : decode cX0_isBetter 118 = .ok (.iconst 0, 1) := by decide +kernel
theorem dX0_isBetter_119 : decode cX0_isBetter 119 = .ok (.ireturn, 1) := by decide +kernel
theorem dX1_init_0 : decode cX1_init 0 = .ok (.aload_n 0, 1) := by decide +kernel
theorem dX1_init_1 : decode cX1_init 1 = .ok (.invokespecial 3, 3) := by decide +kernel
theorem dX1_init_4 : decode cX1_init 4 = .ok (.aload_n 0, 1) := by decide +kernel
theorem dX1_init_5 : decode cX1_init 5 = .ok (.new 9, 3) := by decide +kernel
theorem dX1_init_8 : decode cX1_init 8 = .ok (.dup, 1) := by decide +kernel
theorem dX1_init_9 : decode cX1_init 9 = .ok (.bipush 6, 2) := by decide +kernel
theorem dX1_init_11 : decode cX1_init 11 = .ok (.iconst (-1), 1) := by decide +kernel
theorem dX1_init_12 : decode cX1_init 12 = .ok (.invokespecial 11, 3) := by decide +kernel
theorem dX1_init_15 : decode cX1_init 15 = .ok (.putfield 14, 3) := by decide +kernel
theorem dX1_init_18 : decode cX1_init 18 = .ok (.aload_n 0, 1) := by decide +kernel
theorem dX1_init_19 : decode cX1_init 19 = .ok (.new 9, 3) := by decide +kernel
theorem dX1_init_22 : decode cX1_init 22 = .ok (.dup, 1) := by decide +kernel
theorem dX1_init_23 : decode cX1_init 23 = .ok (.bipush 6, 2) := by decide +kernel
theorem dX1_init_25 : decode cX1_init 25 = .ok (.iconst 0, 1) := by decide +kernel
theorem dX1_init_26 : decode cX1_init 26 = .ok (.invokespecial 11, 3) := by decide +kernel
theorem dX1_init_29 : decode cX1_init 29 = .ok (.putfield 20, 3) := by decide +kernel
theorem dX1_init_32 : decode cX1_init 32 = .ok (.aload_n 0, 1) := by decide +kernel
theorem dX1_init_33 : decode cX1_init 33 = .ok (.aload_n 1, 1) := by decide +kernel
theorem dX1_init_34 : decode cX1_init 34 = .ok (.putfield 23, 3) := by decide +kernel
theorem dX1_init_37 : decode cX1_init 37 = .ok (.return_, 1) := by decide +kernel
theorem dX1_isSolution_0 : decode cX1_isSolution 0 = .ok (.aload_n 0, 1) := by decide +kernel
theorem dX1_isSolution_1 : decode cX1_isSolution 1 = .ok (.iload_n 1, 1) := by decide +kernel
theorem dX1_isSolution_2 : decode cX1_isSolution 2 = .ok (.invokevirtual 27, 3) := by decide +kernel
theorem dX1_isSolution_5 : decode cX1_isSolution 5 = .ok (.ifCond .ne 5, 3) := by decide +kernel
theorem dX1_isSolution_8 : decode cX1_isSolution 8 = .ok (.iconst 0, 1) := by decide +kernel
theorem dX1_isSolution_9 : decode cX1_isSolution 9 = .ok (.ireturn, 1) := by decide +kernel
theorem dX1_isSolution_10 : decode cX1_isSolution 10 = .ok (.aload_n 0, 1) := by decide +kernel
theorem dX1_isSolution_11 : decode cX1_isSolution 11 = .ok (.iload_n 1, 1) := by decide +kernel
theorem dX1_isSolution_12 : decode cX1_isSolution 12 = .ok (.invokevirtual 31, 3) := by decide +kernel
theorem dX1_isSolution_15 : decode cX1_isSolution 15 = .ok (.aload_n 0, 1) := by decide +kernel
theorem dX1_isSolution_16 : decode cX1_isSolution 16 = .ok (.iconst 5, 1) := by decide +kernel
theorem dX1_isSolution_17 : decode cX1_isSolution 17 = .ok (.invokevirtual 35, 3) := by decide +kernel
theorem dX1_isSolution_20 : decode cX1_isSolution 20 = .ok (.ifCond .eq 15, 3) := by decide +kernel
theorem dX1_isSolution_23 : decode cX1_isSolution 23 = .ok (.aload_n 0, 1) := by decide +kernel
theorem dX1_isSolution_24 : decode cX1_isSolution 24 = .ok (.iload_n 1, 1) := by decide +kernel
theorem dX1_isSolution_25 : decode cX1_isSolution 25 = .ok (.invokevirtual 38, 3) := by decide +kernel
theorem dX1_isSolution_28 : decode cX1_isSolution 28 = .ok (.ifCond .eq 7, 3) := by decide +kernel
theorem dX1_isSolution_31 : decode cX1_isSolution 31 = .ok (.iconst 1, 1) := by decide +kernel
theorem dX1_isSolution_32 : decode cX1_isSolution 32 = .ok (.goto 4, 3) := by decide +kernel
theorem dX1_isSolution_35 : decode cX1_isSolution 35 = .ok (.iconst 0, 1) := by decide +kernel
theorem dX1_isSolution_36 : decode cX1_isSolution 36 = .ok (.ireturn, 1) := by decide +kernel
theorem dX1_meets_0 : decode cX1_meets 0 = .ok (.iconst 0, 1) := by decide +kernel
theorem dX1_meets_1 : decode cX1_meets 1 = .ok (.istore_n 2, 1) := by decide +kernel
theorem dX1_meets_2 : decode cX1_meets 2 = .ok (.iload_n 2, 1) := by decide +kernel
theorem dX1_meets_3 : decode cX1_meets 3 = .ok (.aload_n 0, 1) := by decide +kernel
theorem dX1_meets_4 : decode cX1_meets 4 = .ok (.getfield 23, 3) := by decide +kernel
theorem dX1_meets_7 : decode cX1_meets 7 = .ok (.getfield 41, 3) := by decide +kernel
theorem dX1_meets_10 : decode cX1_meets 10 = .ok (.getfield 47, 3) := by decide +kernel
theorem dX1_meets_13 : decode cX1_meets 13 = .ok (.if_icmp .ge 63, 3) := by decide +kernel
theorem dX1_meets_16 : decode cX1_meets 16 = .ok (.aload_n 0, 1) := by decide +kernel
theorem dX1_meets_17 : decode cX1_meets 17 = .ok (.getfield 14, 3) := by decide +kernel
theorem dX1_meets_20 : decode cX1_meets 20 = .ok (.aload_n 0, 1) := by decide +kernel
theorem dX1_meets_21 : decode cX1_meets 21 = .ok (.getfield 23, 3) := by decide +kernel
theorem dX1_meets_24 : decode cX1_meets 24 = .ok (.iload_n 2, 1) := by decide +kernel
theorem dX1_meets_25 : decode cX1_meets 25 = .ok (.invokevirtual 53, 3) := by decide +kernel
theorem dX1_meets_28 : decode cX1_meets 28 = .ok (.invokevirtual 57, 3) := by decide +kernel
theorem dX1_meets_31 : decode cX1_meets 31 = .ok (.istore_n 3, 1) := by decide +kernel
theorem dX1_meets_32 : decode cX1_meets 32 = .ok (.iload_n 1, 1) := by decide +kernel
theorem dX1_meets_33 : decode cX1_meets 33 = .ok (.iload_n 2, 1) := by decide +kernel
theorem dX1_meets_34 : decode cX1_meets 34 = .ok (.invokestatic 60, 3) := by decide +kernel
theorem dX1_meets_37 : decode cX1_meets 37 = .ok (.ifCond .eq 33, 3) := by decide +kernel
theorem dX1_meets_40 : decode cX1_meets 40 = .ok (.aload_n 0, 1) := by decide +kernel
theorem dX1_meets_41 : decode cX1_meets 41 = .ok (.getfield 23, 3) := by decide +kernel
theorem dX1_meets_44 : decode cX1_meets 44 = .ok (.getfield 64, 3) := by decide +kernel
theorem dX1_meets_47 : decode cX1_meets 47 = .ok (.aload_n 0, 1) := by decide +kernel
theorem dX1_meets_48 : decode cX1_meets 48 = .ok (.getfield 23, 3) := by decide +kernel
theorem dX1_meets_51 : decode cX1_meets 51 = .ok (.getfield 41, 3) := by decide +kernel
theorem dX1_meets_54 : decode cX1_meets 54 = .ok (.getfield 68, 3) := by decide +kernel
theorem dX1_meets_57 : decode cX1_meets 57 = .ok (.iload_n 2, 1) := by decide +kernel
theorem dX1_meets_58 : decode cX1_meets 58 = .ok (.invokevirtual 57, 3) := by decide +kernel
theorem dX1_meets_61 : decode cX1_meets 61 = .ok (.iload_n 3, 1) := by decide +kernel
theorem dX1_meets_62 : decode cX1_meets 62 = .ok (.invokevirtual 70, 3) := by decide +kernel
theorem dX1_meets_65 : decode cX1_meets 65 = .ok (.ifCond .ne 5, 3) := by decide +kernel
theorem dX1_meets_68 : decode cX1_meets 68 = .ok (.iconst 0, 1) := by decide +kernel
theorem dX1_meets_69 : decode cX1_meets 69 = .ok (.ireturn, 1) := by decide +kernel
theorem dX1_meets_70 : decode cX1_meets 70 = .ok (.iinc 2 1, 3) := by decide +kernel
theorem dX1_meets_73 : decode cX1_meets 73 = .ok (.goto (-71), 3) := by decide +kernel
theorem dX1_meets_76 : decode cX1_meets 76 = .ok (.iconst 1, 1) := by decide +kernel
theorem dX1_meets_77 : decode cX1_meets 77 = .ok (.ireturn, 1) := by decide +kernel
theorem dX1_standsUpTo_0 : decode cX1_standsUpTo 0 = .ok (.iconst 0, 1) := by decide +kernel
theorem dX1_standsUpTo_1 : decode cX1_standsUpTo 1 = .ok (.istore_n 2, 1) := by decide +kernel
theorem dX1_standsUpTo_2 : decode cX1_standsUpTo 2 = .ok (.iload_n 2, 1) := by decide +kernel
theorem dX1_standsUpTo_3 : decode cX1_standsUpTo 3 = .ok (.iload_n 1, 1) := by decide +kernel
theorem dX1_standsUpTo_4 : decode cX1_standsUpTo 4 = .ok (.if_icmp .gt 20, 3) := by decide +kernel
theorem dX1_standsUpTo_7 : decode cX1_standsUpTo 7 = .ok (.aload_n 0, 1) := by decide +kernel
theorem dX1_standsUpTo_8 : decode cX1_standsUpTo 8 = .ok (.iload_n 2, 1) := by decide +kernel
theorem dX1_standsUpTo_9 : decode cX1_standsUpTo 9 = .ok (.iload_n 1, 1) := by decide +kernel
theorem dX1_standsUpTo_10 : decode cX1_standsUpTo 10 = .ok (.invokevirtual 75, 3) := by decide +kernel
theorem dX1_standsUpTo_13 : decode cX1_standsUpTo 13 = .ok (.ifCond .ne 5, 3) := by decide +kernel
theorem dX1_standsUpTo_16 : decode cX1_standsUpTo 16 = .ok (.iconst 0, 1) := by decide +kernel
theorem dX1_standsUpTo_17 : decode cX1_standsUpTo 17 = .ok (.ireturn, 1) := by decide +kernel
theorem dX1_standsUpTo_18 : decode cX1_standsUpTo 18 = .ok (.iinc 2 1, 3) := by decide +kernel
theorem dX1_standsUpTo_21 : decode cX1_standsUpTo 21 = .ok (.goto (-19), 3) := by decide +kernel
theorem dX1_standsUpTo_24 : decode cX1_standsUpTo 24 = .ok (.iconst 1, 1) := by decide +kernel
theorem dX1_standsUpTo_25 : decode cX1_standsUpTo 25 = .ok (.ireturn, 1) := by decide +kernel
theorem dX1_holdsNeeds_0 : decode cX1_holdsNeeds 0 = .ok (.aload_n 0, 1) := by decide +kernel
theorem dX1_holdsNeeds_1 : decode cX1_holdsNeeds 1 = .ok (.getfield 14, 3) := by decide +kernel
theorem dX1_holdsNeeds_4 : decode cX1_holdsNeeds 4 = .ok (.iload_n 1, 1) := by decide +kernel
theorem dX1_holdsNeeds_5 : decode cX1_holdsNeeds 5 = .ok (.invokevirtual 57, 3) := by decide +kernel
theorem dX1_holdsNeeds_8 : decode cX1_holdsNeeds 8 = .ok (.istore_n 3, 1) := by decide +kernel
theorem dX1_holdsNeeds_9 : decode cX1_holdsNeeds 9 = .ok (.aload_n 0, 1) := by decide +kernel
theorem dX1_holdsNeeds_10 : decode cX1_holdsNeeds 10 = .ok (.getfield 23, 3) := by decide +kernel
theorem dX1_holdsNeeds_13 : decode cX1_holdsNeeds 13 = .ok (.getfield 78, 3) := by decide +kernel
theorem dX1_holdsNeeds_16 : decode cX1_holdsNeeds 16 = .ok (.iload_n 3, 1) := by decide +kernel
theorem dX1_holdsNeeds_17 : decode cX1_holdsNeeds 17 = .ok (.invokevirtual 82, 3) := by decide +kernel
theorem dX1_holdsNeeds_20 : decode cX1_holdsNeeds 20 = .ok (.istore 4, 2) := by decide +kernel
theorem dX1_holdsNeeds_22 : decode cX1_holdsNeeds 22 = .ok (.aload_n 0, 1) := by decide +kernel
theorem dX1_holdsNeeds_23 : decode cX1_holdsNeeds 23 = .ok (.getfield 23, 3) := by decide +kernel
theorem dX1_holdsNeeds_26 : decode cX1_holdsNeeds 26 = .ok (.getfield 78, 3) := by decide +kernel
theorem dX1_holdsNeeds_29 : decode cX1_holdsNeeds 29 = .ok (.iload_n 3, 1) := by decide +kernel
theorem dX1_holdsNeeds_30 : decode cX1_holdsNeeds 30 = .ok (.invokevirtual 87, 3) := by decide +kernel
theorem dX1_holdsNeeds_33 : decode cX1_holdsNeeds 33 = .ok (.istore 5, 2) := by decide +kernel
theorem dX1_holdsNeeds_35 : decode cX1_holdsNeeds 35 = .ok (.iload 5, 2) := by decide +kernel
theorem dX1_holdsNeeds_37 : decode cX1_holdsNeeds 37 = .ok (.iload 4, 2) := by decide +kernel
theorem dX1_holdsNeeds_39 : decode cX1_holdsNeeds 39 = .ok (.if_icmp .ge 66, 3) := by decide +kernel
theorem dX1_holdsNeeds_42 : decode cX1_holdsNeeds 42 = .ok (.aload_n 0, 1) := by decide +kernel
theorem dX1_holdsNeeds_43 : decode cX1_holdsNeeds 43 = .ok (.getfield 23, 3) := by decide +kernel
theorem dX1_holdsNeeds_46 : decode cX1_holdsNeeds 46 = .ok (.iload 5, 2) := by decide +kernel
theorem dX1_holdsNeeds_48 : decode cX1_holdsNeeds 48 = .ok (.invokevirtual 90, 3) := by decide +kernel
theorem dX1_holdsNeeds_51 : decode cX1_holdsNeeds 51 = .ok (.istore 6, 2) := by decide +kernel
theorem dX1_holdsNeeds_53 : decode cX1_holdsNeeds 53 = .ok (.iload 6, 2) := by decide +kernel
theorem dX1_holdsNeeds_55 : decode cX1_holdsNeeds 55 = .ok (.iload_n 2, 1) := by decide +kernel
theorem dX1_holdsNeeds_56 : decode cX1_holdsNeeds 56 = .ok (.if_icmp .gt 43, 3) := by decide +kernel
theorem dX1_holdsNeeds_59 : decode cX1_holdsNeeds 59 = .ok (.aload_n 0, 1) := by decide +kernel
theorem dX1_holdsNeeds_60 : decode cX1_holdsNeeds 60 = .ok (.getfield 23, 3) := by decide +kernel
theorem dX1_holdsNeeds_63 : decode cX1_holdsNeeds 63 = .ok (.iload 5, 2) := by decide +kernel
theorem dX1_holdsNeeds_65 : decode cX1_holdsNeeds 65 = .ok (.aload_n 0, 1) := by decide +kernel
theorem dX1_holdsNeeds_66 : decode cX1_holdsNeeds 66 = .ok (.getfield 20, 3) := by decide +kernel
theorem dX1_holdsNeeds_69 : decode cX1_holdsNeeds 69 = .ok (.iload_n 1, 1) := by decide +kernel
theorem dX1_holdsNeeds_70 : decode cX1_holdsNeeds 70 = .ok (.invokevirtual 57, 3) := by decide +kernel
theorem dX1_holdsNeeds_73 : decode cX1_holdsNeeds 73 = .ok (.invokevirtual 93, 3) := by decide +kernel
theorem dX1_holdsNeeds_76 : decode cX1_holdsNeeds 76 = .ok (.ifCond .eq 23, 3) := by decide +kernel
theorem dX1_holdsNeeds_79 : decode cX1_holdsNeeds 79 = .ok (.aload_n 0, 1) := by decide +kernel
theorem dX1_holdsNeeds_80 : decode cX1_holdsNeeds 80 = .ok (.iload 5, 2) := by decide +kernel
theorem dX1_holdsNeeds_82 : decode cX1_holdsNeeds 82 = .ok (.aload_n 0, 1) := by decide +kernel
theorem dX1_holdsNeeds_83 : decode cX1_holdsNeeds 83 = .ok (.getfield 14, 3) := by decide +kernel
theorem dX1_holdsNeeds_86 : decode cX1_holdsNeeds 86 = .ok (.iload 6, 2) := by decide +kernel
theorem dX1_holdsNeeds_88 : decode cX1_holdsNeeds 88 = .ok (.invokevirtual 57, 3) := by decide +kernel
theorem dX1_holdsNeeds_91 : decode cX1_holdsNeeds 91 = .ok (.invokevirtual 96, 3) := by decide +kernel
theorem dX1_holdsNeeds_94 : decode cX1_holdsNeeds 94 = .ok (.ifCond .ne 5, 3) := by decide +kernel
theorem dX1_holdsNeeds_97 : decode cX1_holdsNeeds 97 = .ok (.iconst 0, 1) := by decide +kernel
theorem dX1_holdsNeeds_98 : decode cX1_holdsNeeds 98 = .ok (.ireturn, 1) := by decide +kernel
theorem dX1_holdsNeeds_99 : decode cX1_holdsNeeds 99 = .ok (.iinc 5 1, 3) := by decide +kernel
theorem dX1_holdsNeeds_102 : decode cX1_holdsNeeds 102 = .ok (.goto (-67), 3) := by decide +kernel
theorem dX1_holdsNeeds_105 : decode cX1_holdsNeeds 105 = .ok (.iconst 1, 1) := by decide +kernel
theorem dX1_holdsNeeds_106 : decode cX1_holdsNeeds 106 = .ok (.ireturn, 1) := by decide +kernel
theorem dX1_isServed_0 : decode cX1_isServed 0 = .ok (.iload_n 2, 1) := by decide +kernel
theorem dX1_isServed_1 : decode cX1_isServed 1 = .ok (.iconst (-1), 1) := by decide +kernel
theorem dX1_isServed_2 : decode cX1_isServed 2 = .ok (.if_icmp .ne 27, 3) := by decide +kernel
theorem dX1_isServed_5 : decode cX1_isServed 5 = .ok (.aload_n 0, 1) := by decide +kernel
theorem dX1_isServed_6 : decode cX1_isServed 6 = .ok (.getfield 23, 3) := by decide +kernel
theorem dX1_isServed_9 : decode cX1_isServed 9 = .ok (.getfield 78, 3) := by decide +kernel
theorem dX1_isServed_12 : decode cX1_isServed 12 = .ok (.getfield 99, 3) := by decide +kernel
theorem dX1_isServed_15 : decode cX1_isServed 15 = .ok (.iload_n 1, 1) := by decide +kernel
theorem dX1_isServed_16 : decode cX1_isServed 16 = .ok (.invokevirtual 57, 3) := by decide +kernel
theorem dX1_isServed_19 : decode cX1_isServed 19 = .ok (.iconst 1, 1) := by decide +kernel
theorem dX1_isServed_20 : decode cX1_isServed 20 = .ok (.if_icmp .ne 7, 3) := by decide +kernel
theorem dX1_isServed_23 : decode cX1_isServed 23 = .ok (.iconst 1, 1) := by decide +kernel
theorem dX1_isServed_24 : decode cX1_isServed 24 = .ok (.goto 4, 3) := by decide +kernel
theorem dX1_isServed_27 : decode cX1_isServed 27 = .ok (.iconst 0, 1) := by decide +kernel
theorem dX1_isServed_28 : decode cX1_isServed 28 = .ok (.ireturn, 1) := by decide +kernel
theorem dX1_isServed_29 : decode cX1_isServed 29 = .ok (.aload_n 0, 1) := by decide +kernel
theorem dX1_isServed_30 : decode cX1_isServed 30 = .ok (.getfield 23, 3) := by decide +kernel
theorem dX1_isServed_33 : decode cX1_isServed 33 = .ok (.getfield 64, 3) := by decide +kernel
theorem dX1_isServed_36 : decode cX1_isServed 36 = .ok (.getfield 102, 3) := by decide +kernel
theorem dX1_isServed_39 : decode cX1_isServed 39 = .ok (.aload_n 0, 1) := by decide +kernel
theorem dX1_isServed_40 : decode cX1_isServed 40 = .ok (.getfield 23, 3) := by decide +kernel
theorem dX1_isServed_43 : decode cX1_isServed 43 = .ok (.getfield 78, 3) := by decide +kernel
theorem dX1_isServed_46 : decode cX1_isServed 46 = .ok (.getfield 105, 3) := by decide +kernel
theorem dX1_isServed_49 : decode cX1_isServed 49 = .ok (.iload_n 1, 1) := by decide +kernel
theorem dX1_isServed_50 : decode cX1_isServed 50 = .ok (.invokevirtual 57, 3) := by decide +kernel
theorem dX1_isServed_53 : decode cX1_isServed 53 = .ok (.invokevirtual 57, 3) := by decide +kernel
theorem dX1_isServed_56 : decode cX1_isServed 56 = .ok (.iload_n 2, 1) := by decide +kernel
theorem dX1_isServed_57 : decode cX1_isServed 57 = .ok (.invokestatic 60, 3) := by decide +kernel
theorem dX1_isServed_60 : decode cX1_isServed 60 = .ok (.ireturn, 1) := by decide +kernel
theorem dX1_turnOn_0 : decode cX1_turnOn 0 = .ok (.aload_n 0, 1) := by decide +kernel
theorem dX1_turnOn_1 : decode cX1_turnOn 1 = .ok (.getfield 20, 3) := by decide +kernel
theorem dX1_turnOn_4 : decode cX1_turnOn 4 = .ok (.iconst 0, 1) := by decide +kernel
theorem dX1_turnOn_5 : decode cX1_turnOn 5 = .ok (.invokevirtual 106, 3) := by decide +kernel
theorem dX1_turnOn_8 : decode cX1_turnOn 8 = .ok (.iconst 0, 1) := by decide +kernel
theorem dX1_turnOn_9 : decode cX1_turnOn 9 = .ok (.istore_n 2, 1) := by decide +kernel
theorem dX1_turnOn_10 : decode cX1_turnOn 10 = .ok (.iload_n 2, 1) := by decide +kernel
theorem dX1_turnOn_11 : decode cX1_turnOn 11 = .ok (.aload_n 0, 1) := by decide +kernel
theorem dX1_turnOn_12 : decode cX1_turnOn 12 = .ok (.getfield 23, 3) := by decide +kernel
theorem dX1_turnOn_15 : decode cX1_turnOn 15 = .ok (.getfield 41, 3) := by decide +kernel
theorem dX1_turnOn_18 : decode cX1_turnOn 18 = .ok (.getfield 47, 3) := by decide +kernel
theorem dX1_turnOn_21 : decode cX1_turnOn 21 = .ok (.if_icmp .ge 47, 3) := by decide +kernel
theorem dX1_turnOn_24 : decode cX1_turnOn 24 = .ok (.iload_n 1, 1) := by decide +kernel
theorem dX1_turnOn_25 : decode cX1_turnOn 25 = .ok (.iload_n 2, 1) := by decide +kernel
theorem dX1_turnOn_26 : decode cX1_turnOn 26 = .ok (.invokestatic 60, 3) := by decide +kernel
theorem dX1_turnOn_29 : decode cX1_turnOn 29 = .ok (.ifCond .eq 33, 3) := by decide +kernel
theorem dX1_turnOn_32 : decode cX1_turnOn 32 = .ok (.aload_n 0, 1) := by decide +kernel
theorem dX1_turnOn_33 : decode cX1_turnOn 33 = .ok (.getfield 20, 3) := by decide +kernel
theorem dX1_turnOn_36 : decode cX1_turnOn 36 = .ok (.aload_n 0, 1) := by decide +kernel
theorem dX1_turnOn_37 : decode cX1_turnOn 37 = .ok (.getfield 23, 3) := by decide +kernel
theorem dX1_turnOn_40 : decode cX1_turnOn 40 = .ok (.iload_n 2, 1) := by decide +kernel
theorem dX1_turnOn_41 : decode cX1_turnOn 41 = .ok (.invokevirtual 53, 3) := by decide +kernel
theorem dX1_turnOn_44 : decode cX1_turnOn 44 = .ok (.aload_n 0, 1) := by decide +kernel
theorem dX1_turnOn_45 : decode cX1_turnOn 45 = .ok (.getfield 23, 3) := by decide +kernel
theorem dX1_turnOn_48 : decode cX1_turnOn 48 = .ok (.getfield 41, 3) := by decide +kernel
theorem dX1_turnOn_51 : decode cX1_turnOn 51 = .ok (.getfield 109, 3) := by decide +kernel
theorem dX1_turnOn_54 : decode cX1_turnOn 54 = .ok (.iload_n 2, 1) := by decide +kernel
theorem dX1_turnOn_55 : decode cX1_turnOn 55 = .ok (.invokevirtual 57, 3) := by decide +kernel
theorem dX1_turnOn_58 : decode cX1_turnOn 58 = .ok (.invokevirtual 112, 3) := by decide +kernel
theorem dX1_turnOn_61 : decode cX1_turnOn 61 = .ok (.pop, 1) := by decide +kernel
theorem dX1_turnOn_62 : decode cX1_turnOn 62 = .ok (.iinc 2 1, 3) := by decide +kernel
theorem dX1_turnOn_65 : decode cX1_turnOn 65 = .ok (.goto (-55), 3) := by decide +kernel
theorem dX1_turnOn_68 : decode cX1_turnOn 68 = .ok (.iconst 1, 1) := by decide +kernel
theorem dX1_turnOn_69 : decode cX1_turnOn 69 = .ok (.istore_n 2, 1) := by decide +kernel
theorem dX1_turnOn_70 : decode cX1_turnOn 70 = .ok (.iconst 0, 1) := by decide +kernel
theorem dX1_turnOn_71 : decode cX1_turnOn 71 = .ok (.istore_n 3, 1) := by decide +kernel
theorem dX1_turnOn_72 : decode cX1_turnOn 72 = .ok (.iload_n 2, 1) := by decide +kernel
theorem dX1_turnOn_73 : decode cX1_turnOn 73 = .ok (.ifCond .eq 44, 3) := by decide +kernel
theorem dX1_turnOn_76 : decode cX1_turnOn 76 = .ok (.iload_n 3, 1) := by decide +kernel
theorem dX1_turnOn_77 : decode cX1_turnOn 77 = .ok (.bipush 18, 2) := by decide +kernel
theorem dX1_turnOn_79 : decode cX1_turnOn 79 = .ok (.if_icmp .gt 38, 3) := by decide +kernel
theorem dX1_turnOn_82 : decode cX1_turnOn 82 = .ok (.iconst 0, 1) := by decide +kernel
theorem dX1_turnOn_83 : decode cX1_turnOn 83 = .ok (.istore_n 2, 1) := by decide +kernel
theorem dX1_turnOn_84 : decode cX1_turnOn 84 = .ok (.iconst 0, 1) := by decide +kernel
theorem dX1_turnOn_85 : decode cX1_turnOn 85 = .ok (.istore 4, 2) := by decide +kernel
theorem dX1_turnOn_87 : decode cX1_turnOn 87 = .ok (.iload 4, 2) := by decide +kernel
theorem dX1_turnOn_89 : decode cX1_turnOn 89 = .ok (.bipush 6, 2) := by decide +kernel
theorem dX1_turnOn_91 : decode cX1_turnOn 91 = .ok (.if_icmp .ge 20, 3) := by decide +kernel
theorem dX1_turnOn_94 : decode cX1_turnOn 94 = .ok (.aload_n 0, 1) := by decide +kernel
theorem dX1_turnOn_95 : decode cX1_turnOn 95 = .ok (.iload 4, 2) := by decide +kernel
theorem dX1_turnOn_97 : decode cX1_turnOn 97 = .ok (.invokevirtual 115, 3) := by decide +kernel
theorem dX1_turnOn_100 : decode cX1_turnOn 100 = .ok (.ifCond .eq 5, 3) := by decide +kernel
theorem dX1_turnOn_103 : decode cX1_turnOn 103 = .ok (.iconst 1, 1) := by decide +kernel
theorem dX1_turnOn_104 : decode cX1_turnOn 104 = .ok (.istore_n 2, 1) := by decide +kernel
theorem dX1_turnOn_105 : decode cX1_turnOn 105 = .ok (.iinc 4 1, 3) := by decide +kernel
theorem dX1_turnOn_108 : decode cX1_turnOn 108 = .ok (.goto (-21), 3) := by decide +kernel
theorem dX1_turnOn_111 : decode cX1_turnOn 111 = .ok (.iinc 3 1, 3) := by decide +kernel
theorem dX1_turnOn_114 : decode cX1_turnOn 114 = .ok (.goto (-42), 3) := by decide +kernel
theorem dX1_turnOn_117 : decode cX1_turnOn 117 = .ok (.return_, 1) := by decide +kernel
theorem dX1_turnOnBy_0 : decode cX1_turnOnBy 0 = .ok (.aload_n 0, 1) := by decide +kernel
theorem dX1_turnOnBy_1 : decode cX1_turnOnBy 1 = .ok (.getfield 14, 3) := by decide +kernel
theorem dX1_turnOnBy_4 : decode cX1_turnOnBy 4 = .ok (.iload_n 1, 1) := by decide +kernel
theorem dX1_turnOnBy_5 : decode cX1_turnOnBy 5 = .ok (.invokevirtual 57, 3) := by decide +kernel
theorem dX1_turnOnBy_8 : decode cX1_turnOnBy 8 = .ok (.istore_n 2, 1) := by decide +kernel
theorem dX1_turnOnBy_9 : decode cX1_turnOnBy 9 = .ok (.iload_n 2, 1) := by decide +kernel
theorem dX1_turnOnBy_10 : decode cX1_turnOnBy 10 = .ok (.iconst (-1), 1) := by decide +kernel
theorem dX1_turnOnBy_11 : decode cX1_turnOnBy 11 = .ok (.if_icmp .ne 5, 3) := by decide +kernel
theorem dX1_turnOnBy_14 : decode cX1_turnOnBy 14 = .ok (.iconst 0, 1) := by decide +kernel
theorem dX1_turnOnBy_15 : decode cX1_turnOnBy 15 = .ok (.ireturn, 1) := by decide +kernel
theorem dX1_turnOnBy_16 : decode cX1_turnOnBy 16 = .ok (.aload_n 0, 1) := by decide +kernel
theorem dX1_turnOnBy_17 : decode cX1_turnOnBy 17 = .ok (.getfield 20, 3) := by decide +kernel
theorem dX1_turnOnBy_20 : decode cX1_turnOnBy 20 = .ok (.iload_n 1, 1) := by decide +kernel
theorem dX1_turnOnBy_21 : decode cX1_turnOnBy 21 = .ok (.aload_n 0, 1) := by decide +kernel
theorem dX1_turnOnBy_22 : decode cX1_turnOnBy 22 = .ok (.getfield 23, 3) := by decide +kernel
theorem dX1_turnOnBy_25 : decode cX1_turnOnBy 25 = .ok (.getfield 118, 3) := by decide +kernel
theorem dX1_turnOnBy_28 : decode cX1_turnOnBy 28 = .ok (.iload_n 2, 1) := by decide +kernel
theorem dX1_turnOnBy_29 : decode cX1_turnOnBy 29 = .ok (.aload_n 0, 1) := by decide +kernel
theorem dX1_turnOnBy_30 : decode cX1_turnOnBy 30 = .ok (.getfield 20, 3) := by decide +kernel
theorem dX1_turnOnBy_33 : decode cX1_turnOnBy 33 = .ok (.iload_n 1, 1) := by decide +kernel
theorem dX1_turnOnBy_34 : decode cX1_turnOnBy 34 = .ok (.invokevirtual 57, 3) := by decide +kernel
theorem dX1_turnOnBy_37 : decode cX1_turnOnBy 37 = .ok (.invokevirtual 122, 3) := by decide +kernel
theorem dX1_turnOnBy_40 : decode cX1_turnOnBy 40 = .ok (.invokevirtual 112, 3) := by decide +kernel
theorem dX1_turnOnBy_43 : decode cX1_turnOnBy 43 = .ok (.istore_n 3, 1) := by decide +kernel
theorem dX1_turnOnBy_44 : decode cX1_turnOnBy 44 = .ok (.aload_n 0, 1) := by decide +kernel
theorem dX1_turnOnBy_45 : decode cX1_turnOnBy 45 = .ok (.getfield 23, 3) := by decide +kernel
theorem dX1_turnOnBy_48 : decode cX1_turnOnBy 48 = .ok (.getfield 78, 3) := by decide +kernel
theorem dX1_turnOnBy_51 : decode cX1_turnOnBy 51 = .ok (.iload_n 2, 1) := by decide +kernel
theorem dX1_turnOnBy_52 : decode cX1_turnOnBy 52 = .ok (.invokevirtual 82, 3) := by decide +kernel
theorem dX1_turnOnBy_55 : decode cX1_turnOnBy 55 = .ok (.istore 4, 2) := by decide +kernel
theorem dX1_turnOnBy_57 : decode cX1_turnOnBy 57 = .ok (.aload_n 0, 1) := by decide +kernel
theorem dX1_turnOnBy_58 : decode cX1_turnOnBy 58 = .ok (.getfield 23, 3) := by decide +kernel
theorem dX1_turnOnBy_61 : decode cX1_turnOnBy 61 = .ok (.getfield 78, 3) := by decide +kernel
theorem dX1_turnOnBy_64 : decode cX1_turnOnBy 64 = .ok (.iload_n 2, 1) := by decide +kernel
theorem dX1_turnOnBy_65 : decode cX1_turnOnBy 65 = .ok (.invokevirtual 87, 3) := by decide +kernel
theorem dX1_turnOnBy_68 : decode cX1_turnOnBy 68 = .ok (.istore 5, 2) := by decide +kernel
theorem dX1_turnOnBy_70 : decode cX1_turnOnBy 70 = .ok (.iload 5, 2) := by decide +kernel
theorem dX1_turnOnBy_72 : decode cX1_turnOnBy 72 = .ok (.iload 4, 2) := by decide +kernel
theorem dX1_turnOnBy_74 : decode cX1_turnOnBy 74 = .ok (.if_icmp .ge 74, 3) := by decide +kernel
theorem dX1_turnOnBy_77 : decode cX1_turnOnBy 77 = .ok (.aload_n 0, 1) := by decide +kernel
theorem dX1_turnOnBy_78 : decode cX1_turnOnBy 78 = .ok (.getfield 23, 3) := by decide +kernel
theorem dX1_turnOnBy_81 : decode cX1_turnOnBy 81 = .ok (.getfield 78, 3) := by decide +kernel
theorem dX1_turnOnBy_84 : decode cX1_turnOnBy 84 = .ok (.getfield 128, 3) := by decide +kernel
theorem dX1_turnOnBy_87 : decode cX1_turnOnBy 87 = .ok (.iload 5, 2) := by decide +kernel
theorem dX1_turnOnBy_89 : decode cX1_turnOnBy 89 = .ok (.invokevirtual 57, 3) := by decide +kernel
theorem dX1_turnOnBy_92 : decode cX1_turnOnBy 92 = .ok (.istore 6, 2) := by decide +kernel
theorem dX1_turnOnBy_94 : decode cX1_turnOnBy 94 = .ok (.iload 6, 2) := by decide +kernel
theorem dX1_turnOnBy_96 : decode cX1_turnOnBy 96 = .ok (.ifCond .eq 46, 3) := by decide +kernel
theorem dX1_turnOnBy_99 : decode cX1_turnOnBy 99 = .ok (.aload_n 0, 1) := by decide +kernel
theorem dX1_turnOnBy_100 : decode cX1_turnOnBy 100 = .ok (.getfield 23, 3) := by decide +kernel
theorem dX1_turnOnBy_103 : decode cX1_turnOnBy 103 = .ok (.iload 5, 2) := by decide +kernel
theorem dX1_turnOnBy_105 : decode cX1_turnOnBy 105 = .ok (.aload_n 0, 1) := by decide +kernel
theorem dX1_turnOnBy_106 : decode cX1_turnOnBy 106 = .ok (.getfield 20, 3) := by decide +kernel
theorem dX1_turnOnBy_109 : decode cX1_turnOnBy 109 = .ok (.iload_n 1, 1) := by decide +kernel
theorem dX1_turnOnBy_110 : decode cX1_turnOnBy 110 = .ok (.invokevirtual 57, 3) := by decide +kernel
theorem dX1_turnOnBy_113 : decode cX1_turnOnBy 113 = .ok (.invokevirtual 93, 3) := by decide +kernel
theorem dX1_turnOnBy_116 : decode cX1_turnOnBy 116 = .ok (.ifCond .eq 26, 3) := by decide +kernel
theorem dX1_turnOnBy_119 : decode cX1_turnOnBy 119 = .ok (.aload_n 0, 1) := by decide +kernel
theorem dX1_turnOnBy_120 : decode cX1_turnOnBy 120 = .ok (.getfield 20, 3) := by decide +kernel
theorem dX1_turnOnBy_123 : decode cX1_turnOnBy 123 = .ok (.aload_n 0, 1) := by decide +kernel
theorem dX1_turnOnBy_124 : decode cX1_turnOnBy 124 = .ok (.getfield 23, 3) := by decide +kernel
theorem dX1_turnOnBy_127 : decode cX1_turnOnBy 127 = .ok (.iload 5, 2) := by decide +kernel
theorem dX1_turnOnBy_129 : decode cX1_turnOnBy 129 = .ok (.invokevirtual 90, 3) := by decide +kernel
theorem dX1_turnOnBy_132 : decode cX1_turnOnBy 132 = .ok (.iload 6, 2) := by decide +kernel
theorem dX1_turnOnBy_134 : decode cX1_turnOnBy 134 = .ok (.invokevirtual 112, 3) := by decide +kernel
theorem dX1_turnOnBy_137 : decode cX1_turnOnBy 137 = .ok (.ifCond .eq 5, 3) := by decide +kernel
theorem dX1_turnOnBy_140 : decode cX1_turnOnBy 140 = .ok (.iconst 1, 1) := by decide +kernel
theorem dX1_turnOnBy_141 : decode cX1_turnOnBy 141 = .ok (.istore_n 3, 1) := by decide +kernel
theorem dX1_turnOnBy_142 : decode cX1_turnOnBy 142 = .ok (.iinc 5 1, 3) := by decide +kernel
theorem dX1_turnOnBy_145 : decode cX1_turnOnBy 145 = .ok (.goto (-75), 3) := by decide +kernel
theorem dX1_turnOnBy_148 : decode cX1_turnOnBy 148 = .ok (.iload_n 3, 1) := by decide +kernel
theorem dX1_turnOnBy_149 : decode cX1_turnOnBy 149 = .ok (.ireturn, 1) := by decide +kernel
theorem dX1_isPulled_0 : decode cX1_isPulled 0 = .ok (.aload_n 0, 1) := by decide +kernel
theorem dX1_isPulled_1 : decode cX1_isPulled 1 = .ok (.getfield 23, 3) := by decide +kernel
theorem dX1_isPulled_4 : decode cX1_isPulled 4 = .ok (.iload_n 1, 1) := by decide +kernel
theorem dX1_isPulled_5 : decode cX1_isPulled 5 = .ok (.invokevirtual 129, 3) := by decide +kernel
theorem dX1_isPulled_8 : decode cX1_isPulled 8 = .ok (.istore_n 2, 1) := by decide +kernel
theorem dX1_isPulled_9 : decode cX1_isPulled 9 = .ok (.iconst 0, 1) := by decide +kernel
theorem dX1_isPulled_10 : decode cX1_isPulled 10 = .ok (.istore_n 3, 1) := by decide +kernel
theorem dX1_isPulled_11 : decode cX1_isPulled 11 = .ok (.iload_n 3, 1) := by decide +kernel
theorem dX1_isPulled_12 : decode cX1_isPulled 12 = .ok (.bipush 6, 2) := by decide +kernel
theorem dX1_isPulled_14 : decode cX1_isPulled 14 = .ok (.if_icmp .ge 62, 3) := by decide +kernel
theorem dX1_isPulled_17 : decode cX1_isPulled 17 = .ok (.iconst 0, 1) := by decide +kernel
theorem dX1_isPulled_18 : decode cX1_isPulled 18 = .ok (.istore 4, 2) := by decide +kernel
theorem dX1_isPulled_20 : decode cX1_isPulled 20 = .ok (.iload 4, 2) := by decide +kernel
theorem dX1_isPulled_22 : decode cX1_isPulled 22 = .ok (.bipush 6, 2) := by decide +kernel
theorem dX1_isPulled_24 : decode cX1_isPulled 24 = .ok (.if_icmp .ge 46, 3) := by decide +kernel
theorem dX1_isPulled_27 : decode cX1_isPulled 27 = .ok (.iload_n 2, 1) := by decide +kernel
theorem dX1_isPulled_28 : decode cX1_isPulled 28 = .ok (.iload 4, 2) := by decide +kernel
theorem dX1_isPulled_30 : decode cX1_isPulled 30 = .ok (.invokestatic 60, 3) := by decide +kernel
theorem dX1_isPulled_33 : decode cX1_isPulled 33 = .ok (.ifCond .eq 31, 3) := by decide +kernel
theorem dX1_isPulled_36 : decode cX1_isPulled 36 = .ok (.iload_n 2, 1) := by decide +kernel
theorem dX1_isPulled_37 : decode cX1_isPulled 37 = .ok (.aload_n 0, 1) := by decide +kernel
theorem dX1_isPulled_38 : decode cX1_isPulled 38 = .ok (.getfield 23, 3) := by decide +kernel
theorem dX1_isPulled_41 : decode cX1_isPulled 41 = .ok (.aload_n 0, 1) := by decide +kernel
theorem dX1_isPulled_42 : decode cX1_isPulled 42 = .ok (.getfield 14, 3) := by decide +kernel
theorem dX1_isPulled_45 : decode cX1_isPulled 45 = .ok (.iload 4, 2) := by decide +kernel
theorem dX1_isPulled_47 : decode cX1_isPulled 47 = .ok (.invokevirtual 57, 3) := by decide +kernel
theorem dX1_isPulled_50 : decode cX1_isPulled 50 = .ok (.aload_n 0, 1) := by decide +kernel
theorem dX1_isPulled_51 : decode cX1_isPulled 51 = .ok (.getfield 20, 3) := by decide +kernel
theorem dX1_isPulled_54 : decode cX1_isPulled 54 = .ok (.iload 4, 2) := by decide +kernel
theorem dX1_isPulled_56 : decode cX1_isPulled 56 = .ok (.invokevirtual 57, 3) := by decide +kernel
theorem dX1_isPulled_59 : decode cX1_isPulled 59 = .ok (.invokevirtual 132, 3) := by decide +kernel
theorem dX1_isPulled_62 : decode cX1_isPulled 62 = .ok (.ior, 1) := by decide +kernel
theorem dX1_isPulled_63 : decode cX1_isPulled 63 = .ok (.istore_n 2, 1) := by decide +kernel
theorem dX1_isPulled_64 : decode cX1_isPulled 64 = .ok (.iinc 4 1, 3) := by decide +kernel
theorem dX1_isPulled_67 : decode cX1_isPulled 67 = .ok (.goto (-47), 3) := by decide +kernel
theorem dX1_isPulled_70 : decode cX1_isPulled 70 = .ok (.iinc 3 1, 3) := by decide +kernel
theorem dX1_isPulled_73 : decode cX1_isPulled 73 = .ok (.goto (-62), 3) := by decide +kernel
theorem dX1_isPulled_76 : decode cX1_isPulled 76 = .ok (.iconst 0, 1) := by decide +kernel
theorem dX1_isPulled_77 : decode cX1_isPulled 77 = .ok (.istore_n 3, 1) := by decide +kernel
theorem dX1_isPulled_78 : decode cX1_isPulled 78 = .ok (.iload_n 3, 1) := by decide +kernel
theorem dX1_isPulled_79 : decode cX1_isPulled 79 = .ok (.bipush 6, 2) := by decide +kernel
theorem dX1_isPulled_81 : decode cX1_isPulled 81 = .ok (.if_icmp .ge 31, 3) := by decide +kernel
theorem dX1_isPulled_84 : decode cX1_isPulled 84 = .ok (.aload_n 0, 1) := by decide +kernel
theorem dX1_isPulled_85 : decode cX1_isPulled 85 = .ok (.getfield 14, 3) := by decide +kernel
theorem dX1_isPulled_88 : decode cX1_isPulled 88 = .ok (.iload_n 3, 1) := by decide +kernel
theorem dX1_isPulled_89 : decode cX1_isPulled 89 = .ok (.invokevirtual 57, 3) := by decide +kernel
theorem dX1_isPulled_92 : decode cX1_isPulled 92 = .ok (.iconst (-1), 1) := by decide +kernel
theorem dX1_isPulled_93 : decode cX1_isPulled 93 = .ok (.if_icmp .eq 13, 3) := by decide +kernel
theorem dX1_isPulled_96 : decode cX1_isPulled 96 = .ok (.iload_n 2, 1) := by decide +kernel
theorem dX1_isPulled_97 : decode cX1_isPulled 97 = .ok (.iload_n 3, 1) := by decide +kernel
theorem dX1_isPulled_98 : decode cX1_isPulled 98 = .ok (.invokestatic 60, 3) := by decide +kernel
theorem dX1_isPulled_101 : decode cX1_isPulled 101 = .ok (.ifCond .ne 5, 3) := by decide +kernel
theorem dX1_isPulled_104 : decode cX1_isPulled 104 = .ok (.iconst 0, 1) := by decide +kernel
theorem dX1_isPulled_105 : decode cX1_isPulled 105 = .ok (.ireturn, 1) := by decide +kernel
theorem dX1_isPulled_106 : decode cX1_isPulled 106 = .ok (.iinc 3 1, 3) := by decide +kernel
theorem dX1_isPulled_109 : decode cX1_isPulled 109 = .ok (.goto (-31), 3) := by decide +kernel
theorem dX1_isPulled_112 : decode cX1_isPulled 112 = .ok (.iconst 1, 1) := by decide +kernel
theorem dX1_isPulled_113 : decode cX1_isPulled 113 = .ok (.ireturn, 1) := by decide +kernel
theorem dX2_init_0 : decode cX2_init 0 = .ok (.aload_n 0, 1) := by decide +kernel
theorem dX2_init_1 : decode cX2_init 1 = .ok (.invokespecial 3, 3) := by decide +kernel
theorem dX2_init_4 : decode cX2_init 4 = .ok (.aload_n 0, 1) := by decide +kernel
theorem dX2_init_5 : decode cX2_init 5 = .ok (.new 9, 3) := by decide +kernel
theorem dX2_init_8 : decode cX2_init 8 = .ok (.dup, 1) := by decide +kernel
theorem dX2_init_9 : decode cX2_init 9 = .ok (.bipush 6, 2) := by decide +kernel
theorem dX2_init_11 : decode cX2_init 11 = .ok (.iconst (-1), 1) := by decide +kernel
theorem dX2_init_12 : decode cX2_init 12 = .ok (.invokespecial 11, 3) := by decide +kernel
theorem dX2_init_15 : decode cX2_init 15 = .ok (.putfield 14, 3) := by decide +kernel
theorem dX2_init_18 : decode cX2_init 18 = .ok (.aload_n 0, 1) := by decide +kernel
theorem dX2_init_19 : decode cX2_init 19 = .ok (.new 9, 3) := by decide +kernel
theorem dX2_init_22 : decode cX2_init 22 = .ok (.dup, 1) := by decide +kernel
theorem dX2_init_23 : decode cX2_init 23 = .ok (.bipush 6, 2) := by decide +kernel
theorem dX2_init_25 : decode cX2_init 25 = .ok (.iconst (-1), 1) := by decide +kernel
theorem dX2_init_26 : decode cX2_init 26 = .ok (.invokespecial 11, 3) := by decide +kernel
theorem dX2_init_29 : decode cX2_init 29 = .ok (.putfield 20, 3) := by decide +kernel
theorem dX2_init_32 : decode cX2_init 32 = .ok (.aload_n 0, 1) := by decide +kernel
theorem dX2_init_33 : decode cX2_init 33 = .ok (.new 9, 3) := by decide +kernel
theorem dX2_init_36 : decode cX2_init 36 = .ok (.dup, 1) := by decide +kernel
theorem dX2_init_37 : decode cX2_init 37 = .ok (.bipush 6, 2) := by decide +kernel
theorem dX2_init_39 : decode cX2_init 39 = .ok (.iconst (-1), 1) := by decide +kernel
theorem dX2_init_40 : decode cX2_init 40 = .ok (.invokespecial 11, 3) := by decide +kernel
theorem dX2_init_43 : decode cX2_init 43 = .ok (.putfield 23, 3) := by decide +kernel
theorem dX2_init_46 : decode cX2_init 46 = .ok (.aload_n 0, 1) := by decide +kernel
theorem dX2_init_47 : decode cX2_init 47 = .ok (.new 9, 3) := by decide +kernel
theorem dX2_init_50 : decode cX2_init 50 = .ok (.dup, 1) := by decide +kernel
theorem dX2_init_51 : decode cX2_init 51 = .ok (.bipush 6, 2) := by decide +kernel
theorem dX2_init_53 : decode cX2_init 53 = .ok (.iconst 0, 1) := by decide +kernel
theorem dX2_init_54 : decode cX2_init 54 = .ok (.invokespecial 11, 3) := by decide +kernel
theorem dX2_init_57 : decode cX2_init 57 = .ok (.putfield 26, 3) := by decide +kernel
theorem dX2_init_60 : decode cX2_init 60 = .ok (.return_, 1) := by decide +kernel
theorem dX2_isFull_0 : decode cX2_isFull 0 = .ok (.aload_n 0, 1) := by decide +kernel
theorem dX2_isFull_1 : decode cX2_isFull 1 = .ok (.getfield 29, 3) := by decide +kernel
theorem dX2_isFull_4 : decode cX2_isFull 4 = .ok (.bipush 6, 2) := by decide +kernel
theorem dX2_isFull_6 : decode cX2_isFull 6 = .ok (.if_icmp .lt 7, 3) := by decide +kernel
theorem dX2_isFull_9 : decode cX2_isFull 9 = .ok (.iconst 1, 1) := by decide +kernel
theorem dX2_isFull_10 : decode cX2_isFull 10 = .ok (.goto 4, 3) := by decide +kernel
theorem dX2_isFull_13 : decode cX2_isFull 13 = .ok (.iconst 0, 1) := by decide +kernel
theorem dX2_isFull_14 : decode cX2_isFull 14 = .ok (.ireturn, 1) := by decide +kernel
theorem dX2_add_0 : decode cX2_add 0 = .ok (.aload_n 0, 1) := by decide +kernel
theorem dX2_add_1 : decode cX2_add 1 = .ok (.getfield 29, 3) := by decide +kernel
theorem dX2_add_4 : decode cX2_add 4 = .ok (.istore 5, 2) := by decide +kernel
theorem dX2_add_6 : decode cX2_add 6 = .ok (.aload_n 0, 1) := by decide +kernel
theorem dX2_add_7 : decode cX2_add 7 = .ok (.getfield 14, 3) := by decide +kernel
theorem dX2_add_10 : decode cX2_add 10 = .ok (.iload 5, 2) := by decide +kernel
theorem dX2_add_12 : decode cX2_add 12 = .ok (.iload_n 1, 1) := by decide +kernel
theorem dX2_add_13 : decode cX2_add 13 = .ok (.invokevirtual 33, 3) := by decide +kernel
theorem dX2_add_16 : decode cX2_add 16 = .ok (.aload_n 0, 1) := by decide +kernel
theorem dX2_add_17 : decode cX2_add 17 = .ok (.getfield 20, 3) := by decide +kernel
theorem dX2_add_20 : decode cX2_add 20 = .ok (.iload 5, 2) := by decide +kernel
theorem dX2_add_22 : decode cX2_add 22 = .ok (.iload_n 2, 1) := by decide +kernel
theorem dX2_add_23 : decode cX2_add 23 = .ok (.invokevirtual 33, 3) := by decide +kernel
theorem dX2_add_26 : decode cX2_add 26 = .ok (.aload_n 0, 1) := by decide +kernel
theorem dX2_add_27 : decode cX2_add 27 = .ok (.getfield 23, 3) := by decide +kernel
theorem dX2_add_30 : decode cX2_add 30 = .ok (.iload 5, 2) := by decide +kernel
theorem dX2_add_32 : decode cX2_add 32 = .ok (.iload_n 3, 1) := by decide +kernel
theorem dX2_add_33 : decode cX2_add 33 = .ok (.invokevirtual 33, 3) := by decide +kernel
theorem dX2_add_36 : decode cX2_add 36 = .ok (.aload_n 0, 1) := by decide +kernel
theorem dX2_add_37 : decode cX2_add 37 = .ok (.getfield 26, 3) := by decide +kernel
theorem dX2_add_40 : decode cX2_add 40 = .ok (.iload 5, 2) := by decide +kernel
theorem dX2_add_42 : decode cX2_add 42 = .ok (.iload 4, 2) := by decide +kernel
theorem dX2_add_44 : decode cX2_add 44 = .ok (.invokevirtual 33, 3) := by decide +kernel
theorem dX2_add_47 : decode cX2_add 47 = .ok (.aload_n 0, 1) := by decide +kernel
theorem dX2_add_48 : decode cX2_add 48 = .ok (.dup, 1) := by decide +kernel
theorem dX2_add_49 : decode cX2_add 49 = .ok (.getfield 29, 3) := by decide +kernel
theorem dX2_add_52 : decode cX2_add 52 = .ok (.iconst 1, 1) := by decide +kernel
theorem dX2_add_53 : decode cX2_add 53 = .ok (.iadd, 1) := by decide +kernel
theorem dX2_add_54 : decode cX2_add 54 = .ok (.putfield 29, 3) := by decide +kernel
theorem dX2_add_57 : decode cX2_add 57 = .ok (.iload 5, 2) := by decide +kernel
theorem dX2_add_59 : decode cX2_add 59 = .ok (.ireturn, 1) := by decide +kernel
theorem dX2_ofWorkspaces_0 : decode cX2_ofWorkspaces 0 = .ok (.iconst 0, 1) := by decide +kernel
theorem dX2_ofWorkspaces_1 : decode cX2_ofWorkspaces 1 = .ok (.istore_n 2, 1) := by decide +kernel
theorem dX2_ofWorkspaces_2 : decode cX2_ofWorkspaces 2 = .ok (.iconst 0, 1) := by decide +kernel
theorem dX2_ofWorkspaces_3 : decode cX2_ofWorkspaces 3 = .ok (.istore_n 3, 1) := by decide +kernel
theorem dX2_ofWorkspaces_4 : decode cX2_ofWorkspaces 4 = .ok (.iload_n 3, 1) := by decide +kernel
theorem dX2_ofWorkspaces_5 : decode cX2_ofWorkspaces 5 = .ok (.aload_n 0, 1) := by decide +kernel
theorem dX2_ofWorkspaces_6 : decode cX2_ofWorkspaces 6 = .ok (.getfield 29, 3) := by decide +kernel
theorem dX2_ofWorkspaces_9 : decode cX2_ofWorkspaces 9 = .ok (.if_icmp .ge 30, 3) := by decide +kernel
theorem dX2_ofWorkspaces_12 : decode cX2_ofWorkspaces 12 = .ok (.iload_n 1, 1) := by decide +kernel
theorem dX2_ofWorkspaces_13 : decode cX2_ofWorkspaces 13 = .ok (.aload_n 0, 1) := by decide +kernel
theorem dX2_ofWorkspaces_14 : decode cX2_ofWorkspaces 14 = .ok (.getfield 14, 3) := by decide +kernel
theorem dX2_ofWorkspaces_17 : decode cX2_ofWorkspaces 17 = .ok (.iload_n 3, 1) := by decide +kernel
theorem dX2_ofWorkspaces_18 : decode cX2_ofWorkspaces 18 = .ok (.invokevirtual 36, 3) := by decide +kernel
theorem dX2_ofWorkspaces_21 : decode cX2_ofWorkspaces 21 = .ok (.invokestatic 40, 3) := by decide +kernel
theorem dX2_ofWorkspaces_24 : decode cX2_ofWorkspaces 24 = .ok (.ifCond .eq 9, 3) := by decide +kernel
theorem dX2_ofWorkspaces_27 : decode cX2_ofWorkspaces 27 = .ok (.iload_n 2, 1) := by decide +kernel
theorem dX2_ofWorkspaces_28 : decode cX2_ofWorkspaces 28 = .ok (.iconst 1, 1) := by decide +kernel
theorem dX2_ofWorkspaces_29 : decode cX2_ofWorkspaces 29 = .ok (.iload_n 3, 1) := by decide +kernel
theorem dX2_ofWorkspaces_30 : decode cX2_ofWorkspaces 30 = .ok (.ishl, 1) := by decide +kernel
theorem dX2_ofWorkspaces_31 : decode cX2_ofWorkspaces 31 = .ok (.ior, 1) := by decide +kernel
theorem dX2_ofWorkspaces_32 : decode cX2_ofWorkspaces 32 = .ok (.istore_n 2, 1) := by decide +kernel
theorem dX2_ofWorkspaces_33 : decode cX2_ofWorkspaces 33 = .ok (.iinc 3 1, 3) := by decide +kernel
theorem dX2_ofWorkspaces_36 : decode cX2_ofWorkspaces 36 = .ok (.goto (-32), 3) := by decide +kernel
theorem dX2_ofWorkspaces_39 : decode cX2_ofWorkspaces 39 = .ok (.iload_n 2, 1) := by decide +kernel
theorem dX2_ofWorkspaces_40 : decode cX2_ofWorkspaces 40 = .ok (.ireturn, 1) := by decide +kernel
theorem dX3_init_0 : decode cX3_init 0 = .ok (.aload_n 0, 1) := by decide +kernel
theorem dX3_init_1 : decode cX3_init 1 = .ok (.invokespecial 3, 3) := by decide +kernel
theorem dX3_init_4 : decode cX3_init 4 = .ok (.aload_n 0, 1) := by decide +kernel
theorem dX3_init_5 : decode cX3_init 5 = .ok (.new 9, 3) := by decide +kernel
theorem dX3_init_8 : decode cX3_init 8 = .ok (.dup, 1) := by decide +kernel
theorem dX3_init_9 : decode cX3_init 9 = .ok (.bipush 6, 2) := by decide +kernel
theorem dX3_init_11 : decode cX3_init 11 = .ok (.iconst (-1), 1) := by decide +kernel
theorem dX3_init_12 : decode cX3_init 12 = .ok (.invokespecial 11, 3) := by decide +kernel
theorem dX3_init_15 : decode cX3_init 15 = .ok (.putfield 14, 3) := by decide +kernel
theorem dX3_init_18 : decode cX3_init 18 = .ok (.aload_n 0, 1) := by decide +kernel
theorem dX3_init_19 : decode cX3_init 19 = .ok (.new 9, 3) := by decide +kernel
theorem dX3_init_22 : decode cX3_init 22 = .ok (.dup, 1) := by decide +kernel
theorem dX3_init_23 : decode cX3_init 23 = .ok (.bipush 6, 2) := by decide +kernel
theorem dX3_init_25 : decode cX3_init 25 = .ok (.iconst (-1), 1) := by decide +kernel
theorem dX3_init_26 : decode cX3_init 26 = .ok (.invokespecial 11, 3) := by decide +kernel
theorem dX3_init_29 : decode cX3_init 29 = .ok (.putfield 20, 3) := by decide +kernel
theorem dX3_init_32 : decode cX3_init 32 = .ok (.return_, 1) := by decide +kernel
theorem dX3_differs_0 : decode cX3_differs 0 = .ok (.aload_n 0, 1) := by decide +kernel
theorem dX3_differs_1 : decode cX3_differs 1 = .ok (.getfield 14, 3) := by decide +kernel
theorem dX3_differs_4 : decode cX3_differs 4 = .ok (.iload_n 1, 1) := by decide +kernel
theorem dX3_differs_5 : decode cX3_differs 5 = .ok (.invokevirtual 23, 3) := by decide +kernel
theorem dX3_differs_8 : decode cX3_differs 8 = .ok (.iload_n 2, 1) := by decide +kernel
theorem dX3_differs_9 : decode cX3_differs 9 = .ok (.if_icmp .ne 20, 3) := by decide +kernel
theorem dX3_differs_12 : decode cX3_differs 12 = .ok (.iload_n 2, 1) := by decide +kernel
theorem dX3_differs_13 : decode cX3_differs 13 = .ok (.iconst (-1), 1) := by decide +kernel
theorem dX3_differs_14 : decode cX3_differs 14 = .ok (.if_icmp .eq 19, 3) := by decide +kernel
theorem dX3_differs_17 : decode cX3_differs 17 = .ok (.aload_n 0, 1) := by decide +kernel
theorem dX3_differs_18 : decode cX3_differs 18 = .ok (.getfield 20, 3) := by decide +kernel
theorem dX3_differs_21 : decode cX3_differs 21 = .ok (.iload_n 1, 1) := by decide +kernel
theorem dX3_differs_22 : decode cX3_differs 22 = .ok (.invokevirtual 23, 3) := by decide +kernel
theorem dX3_differs_25 : decode cX3_differs 25 = .ok (.iload_n 3, 1) := by decide +kernel
theorem dX3_differs_26 : decode cX3_differs 26 = .ok (.if_icmp .eq 7, 3) := by decide +kernel
theorem dX3_differs_29 : decode cX3_differs 29 = .ok (.iconst 1, 1) := by decide +kernel
theorem dX3_differs_30 : decode cX3_differs 30 = .ok (.goto 4, 3) := by decide +kernel
theorem dX3_differs_33 : decode cX3_differs 33 = .ok (.iconst 0, 1) := by decide +kernel
theorem dX3_differs_34 : decode cX3_differs 34 = .ok (.ireturn, 1) := by decide +kernel
theorem dX3_put_0 : decode cX3_put 0 = .ok (.aload_n 0, 1) := by decide +kernel
theorem dX3_put_1 : decode cX3_put 1 = .ok (.getfield 14, 3) := by decide +kernel
theorem dX3_put_4 : decode cX3_put 4 = .ok (.iload_n 1, 1) := by decide +kernel
theorem dX3_put_5 : decode cX3_put 5 = .ok (.iload_n 2, 1) := by decide +kernel
theorem dX3_put_6 : decode cX3_put 6 = .ok (.invokevirtual 27, 3) := by decide +kernel
theorem dX3_put_9 : decode cX3_put 9 = .ok (.aload_n 0, 1) := by decide +kernel
theorem dX3_put_10 : decode cX3_put 10 = .ok (.getfield 20, 3) := by decide +kernel
theorem dX3_put_13 : decode cX3_put 13 = .ok (.iload_n 1, 1) := by decide +kernel
theorem dX3_put_14 : decode cX3_put 14 = .ok (.iload_n 3, 1) := by decide +kernel
theorem dX3_put_15 : decode cX3_put 15 = .ok (.invokevirtual 27, 3) := by decide +kernel
theorem dX3_put_18 : decode cX3_put 18 = .ok (.return_, 1) := by decide +kernel
theorem dX4_init_0 : decode cX4_init 0 = .ok (.aload_n 0, 1) := by decide +kernel
theorem dX4_init_1 : decode cX4_init 1 = .ok (.invokespecial 3, 3) := by decide +kernel
theorem dX4_init_4 : decode cX4_init 4 = .ok (.aload_n 0, 1) := by decide +kernel
theorem dX4_init_5 : decode cX4_init 5 = .ok (.new 9, 3) := by decide +kernel
theorem dX4_init_8 : decode cX4_init 8 = .ok (.dup, 1) := by decide +kernel
theorem dX4_init_9 : decode cX4_init 9 = .ok (.bipush 120, 2) := by decide +kernel
theorem dX4_init_11 : decode cX4_init 11 = .ok (.iconst (-1), 1) := by decide +kernel
theorem dX4_init_12 : decode cX4_init 12 = .ok (.invokespecial 11, 3) := by decide +kernel
theorem dX4_init_15 : decode cX4_init 15 = .ok (.putfield 14, 3) := by decide +kernel
theorem dX4_init_18 : decode cX4_init 18 = .ok (.aload_n 0, 1) := by decide +kernel
theorem dX4_init_19 : decode cX4_init 19 = .ok (.new 9, 3) := by decide +kernel
theorem dX4_init_22 : decode cX4_init 22 = .ok (.dup, 1) := by decide +kernel
theorem dX4_init_23 : decode cX4_init 23 = .ok (.bipush 120, 2) := by decide +kernel
theorem dX4_init_25 : decode cX4_init 25 = .ok (.iconst (-1), 1) := by decide +kernel
theorem dX4_init_26 : decode cX4_init 26 = .ok (.invokespecial 11, 3) := by decide +kernel
theorem dX4_init_29 : decode cX4_init 29 = .ok (.putfield 20, 3) := by decide +kernel
theorem dX4_init_32 : decode cX4_init 32 = .ok (.aload_n 0, 1) := by decide +kernel
theorem dX4_init_33 : decode cX4_init 33 = .ok (.new 9, 3) := by decide +kernel
theorem dX4_init_36 : decode cX4_init 36 = .ok (.dup, 1) := by decide +kernel
theorem dX4_init_37 : decode cX4_init 37 = .ok (.bipush 120, 2) := by decide +kernel
theorem dX4_init_39 : decode cX4_init 39 = .ok (.iconst 0, 1) := by decide +kernel
theorem dX4_init_40 : decode cX4_init 40 = .ok (.invokespecial 11, 3) := by decide +kernel
theorem dX4_init_43 : decode cX4_init 43 = .ok (.putfield 23, 3) := by decide +kernel
theorem dX4_init_46 : decode cX4_init 46 = .ok (.aload_n 0, 1) := by decide +kernel
theorem dX4_init_47 : decode cX4_init 47 = .ok (.new 9, 3) := by decide +kernel
theorem dX4_init_50 : decode cX4_init 50 = .ok (.dup, 1) := by decide +kernel
theorem dX4_init_51 : decode cX4_init 51 = .ok (.bipush 120, 2) := by decide +kernel
theorem dX4_init_53 : decode cX4_init 53 = .ok (.iconst (-1), 1) := by decide +kernel
theorem dX4_init_54 : decode cX4_init 54 = .ok (.invokespecial 11, 3) := by decide +kernel
theorem dX4_init_57 : decode cX4_init 57 = .ok (.putfield 26, 3) := by decide +kernel
theorem dX4_init_60 : decode cX4_init 60 = .ok (.aload_n 0, 1) := by decide +kernel
theorem dX4_init_61 : decode cX4_init 61 = .ok (.new 9, 3) := by decide +kernel
theorem dX4_init_64 : decode cX4_init 64 = .ok (.dup, 1) := by decide +kernel
theorem dX4_init_65 : decode cX4_init 65 = .ok (.bipush 120, 2) := by decide +kernel
theorem dX4_init_67 : decode cX4_init 67 = .ok (.iconst 0, 1) := by decide +kernel
theorem dX4_init_68 : decode cX4_init 68 = .ok (.invokespecial 11, 3) := by decide +kernel
theorem dX4_init_71 : decode cX4_init 71 = .ok (.putfield 29, 3) := by decide +kernel
theorem dX4_init_74 : decode cX4_init 74 = .ok (.aload_n 0, 1) := by decide +kernel
theorem dX4_init_75 : decode cX4_init 75 = .ok (.new 9, 3) := by decide +kernel
theorem dX4_init_78 : decode cX4_init 78 = .ok (.dup, 1) := by decide +kernel
theorem dX4_init_79 : decode cX4_init 79 = .ok (.bipush 120, 2) := by decide +kernel
theorem dX4_init_81 : decode cX4_init 81 = .ok (.iconst 0, 1) := by decide +kernel
theorem dX4_init_82 : decode cX4_init 82 = .ok (.invokespecial 11, 3) := by decide +kernel
theorem dX4_init_85 : decode cX4_init 85 = .ok (.putfield 32, 3) := by decide +kernel
theorem dX4_init_88 : decode cX4_init 88 = .ok (.aload_n 0, 1) := by decide +kernel
theorem dX4_init_89 : decode cX4_init 89 = .ok (.new 9, 3) := by decide +kernel
theorem dX4_init_92 : decode cX4_init 92 = .ok (.dup, 1) := by decide +kernel
theorem dX4_init_93 : decode cX4_init 93 = .ok (.bipush 24, 2) := by decide +kernel
theorem dX4_init_95 : decode cX4_init 95 = .ok (.iconst 0, 1) := by decide +kernel
theorem dX4_init_96 : decode cX4_init 96 = .ok (.invokespecial 11, 3) := by decide +kernel
theorem dX4_init_99 : decode cX4_init 99 = .ok (.putfield 35, 3) := by decide +kernel
theorem dX4_init_102 : decode cX4_init 102 = .ok (.return_, 1) := by decide +kernel
theorem dX4_isFull_0 : decode cX4_isFull 0 = .ok (.aload_n 0, 1) := by decide +kernel
theorem dX4_isFull_1 : decode cX4_isFull 1 = .ok (.getfield 35, 3) := by decide +kernel
theorem dX4_isFull_4 : decode cX4_isFull 4 = .ok (.iload_n 1, 1) := by decide +kernel
theorem dX4_isFull_5 : decode cX4_isFull 5 = .ok (.invokevirtual 38, 3) := by decide +kernel
theorem dX4_isFull_8 : decode cX4_isFull 8 = .ok (.iconst 5, 1) := by decide +kernel
theorem dX4_isFull_9 : decode cX4_isFull 9 = .ok (.if_icmp .lt 7, 3) := by decide +kernel
theorem dX4_isFull_12 : decode cX4_isFull 12 = .ok (.iconst 1, 1) := by decide +kernel
theorem dX4_isFull_13 : decode cX4_isFull 13 = .ok (.goto 4, 3) := by decide +kernel
theorem dX4_isFull_16 : decode cX4_isFull 16 = .ok (.iconst 0, 1) := by decide +kernel
theorem dX4_isFull_17 : decode cX4_isFull 17 = .ok (.ireturn, 1) := by decide +kernel
theorem dX4_add_0 : decode cX4_add 0 = .ok (.aload_n 0, 1) := by decide +kernel
theorem dX4_add_1 : decode cX4_add 1 = .ok (.iload_n 1, 1) := by decide +kernel
theorem dX4_add_2 : decode cX4_add 2 = .ok (.invokevirtual 42, 3) := by decide +kernel
theorem dX4_add_5 : decode cX4_add 5 = .ok (.istore 8, 2) := by decide +kernel
theorem dX4_add_7 : decode cX4_add 7 = .ok (.aload_n 0, 1) := by decide +kernel
theorem dX4_add_8 : decode cX4_add 8 = .ok (.getfield 14, 3) := by decide +kernel
theorem dX4_add_11 : decode cX4_add 11 = .ok (.iload 8, 2) := by decide +kernel
theorem dX4_add_13 : decode cX4_add 13 = .ok (.iload_n 2, 1) := by decide +kernel
theorem dX4_add_14 : decode cX4_add 14 = .ok (.invokevirtual 45, 3) := by decide +kernel
theorem dX4_add_17 : decode cX4_add 17 = .ok (.aload_n 0, 1) := by decide +kernel
theorem dX4_add_18 : decode cX4_add 18 = .ok (.getfield 20, 3) := by decide +kernel
theorem dX4_add_21 : decode cX4_add 21 = .ok (.iload 8, 2) := by decide +kernel
theorem dX4_add_23 : decode cX4_add 23 = .ok (.iload_n 3, 1) := by decide +kernel
theorem dX4_add_24 : decode cX4_add 24 = .ok (.invokevirtual 45, 3) := by decide +kernel
theorem dX4_add_27 : decode cX4_add 27 = .ok (.aload_n 0, 1) := by decide +kernel
theorem dX4_add_28 : decode cX4_add 28 = .ok (.getfield 23, 3) := by decide +kernel
theorem dX4_add_31 : decode cX4_add 31 = .ok (.iload 8, 2) := by decide +kernel
theorem dX4_add_33 : decode cX4_add 33 = .ok (.iload 4, 2) := by decide +kernel
theorem dX4_add_35 : decode cX4_add 35 = .ok (.invokevirtual 45, 3) := by decide +kernel
theorem dX4_add_38 : decode cX4_add 38 = .ok (.aload_n 0, 1) := by decide +kernel
theorem dX4_add_39 : decode cX4_add 39 = .ok (.getfield 26, 3) := by decide +kernel
theorem dX4_add_42 : decode cX4_add 42 = .ok (.iload 8, 2) := by decide +kernel
theorem dX4_add_44 : decode cX4_add 44 = .ok (.iload 5, 2) := by decide +kernel
theorem dX4_add_46 : decode cX4_add 46 = .ok (.invokevirtual 45, 3) := by decide +kernel
theorem dX4_add_49 : decode cX4_add 49 = .ok (.aload_n 0, 1) := by decide +kernel
theorem dX4_add_50 : decode cX4_add 50 = .ok (.getfield 29, 3) := by decide +kernel
theorem dX4_add_53 : decode cX4_add 53 = .ok (.iload 8, 2) := by decide +kernel
theorem dX4_add_55 : decode cX4_add 55 = .ok (.iload 6, 2) := by decide +kernel
theorem dX4_add_57 : decode cX4_add 57 = .ok (.invokevirtual 45, 3) := by decide +kernel
theorem dX4_add_60 : decode cX4_add 60 = .ok (.aload_n 0, 1) := by decide +kernel
theorem dX4_add_61 : decode cX4_add 61 = .ok (.getfield 32, 3) := by decide +kernel
theorem dX4_add_64 : decode cX4_add 64 = .ok (.iload 8, 2) := by decide +kernel
theorem dX4_add_66 : decode cX4_add 66 = .ok (.iload 7, 2) := by decide +kernel
theorem dX4_add_68 : decode cX4_add 68 = .ok (.invokevirtual 45, 3) := by decide +kernel
theorem dX4_add_71 : decode cX4_add 71 = .ok (.aload_n 0, 1) := by decide +kernel
theorem dX4_add_72 : decode cX4_add 72 = .ok (.getfield 35, 3) := by decide +kernel
theorem dX4_add_75 : decode cX4_add 75 = .ok (.iload_n 1, 1) := by decide +kernel
theorem dX4_add_76 : decode cX4_add 76 = .ok (.aload_n 0, 1) := by decide +kernel
theorem dX4_add_77 : decode cX4_add 77 = .ok (.getfield 35, 3) := by decide +kernel
theorem dX4_add_80 : decode cX4_add 80 = .ok (.iload_n 1, 1) := by decide +kernel
theorem dX4_add_81 : decode cX4_add 81 = .ok (.invokevirtual 38, 3) := by decide +kernel
theorem dX4_add_84 : decode cX4_add 84 = .ok (.iconst 1, 1) := by decide +kernel
theorem dX4_add_85 : decode cX4_add 85 = .ok (.iadd, 1) := by decide +kernel
theorem dX4_add_86 : decode cX4_add 86 = .ok (.invokevirtual 45, 3) := by decide +kernel
theorem dX4_add_89 : decode cX4_add 89 = .ok (.aload_n 0, 1) := by decide +kernel
theorem dX4_add_90 : decode cX4_add 90 = .ok (.getfield 35, 3) := by decide +kernel
theorem dX4_add_93 : decode cX4_add 93 = .ok (.iload_n 1, 1) := by decide +kernel
theorem dX4_add_94 : decode cX4_add 94 = .ok (.invokevirtual 38, 3) := by decide +kernel
theorem dX4_add_97 : decode cX4_add 97 = .ok (.ireturn, 1) := by decide +kernel
theorem dX4_first_0 : decode cX4_first 0 = .ok (.iload_n 1, 1) := by decide +kernel
theorem dX4_first_1 : decode cX4_first 1 = .ok (.iconst 5, 1) := by decide +kernel
theorem dX4_first_2 : decode cX4_first 2 = .ok (.imul, 1) := by decide +kernel
theorem dX4_first_3 : decode cX4_first 3 = .ok (.ireturn, 1) := by decide +kernel
theorem dX4_end_0 : decode cX4_end 0 = .ok (.iload_n 1, 1) := by decide +kernel
theorem dX4_end_1 : decode cX4_end 1 = .ok (.iconst 5, 1) := by decide +kernel
theorem dX4_end_2 : decode cX4_end 2 = .ok (.imul, 1) := by decide +kernel
theorem dX4_end_3 : decode cX4_end 3 = .ok (.aload_n 0, 1) := by decide +kernel
theorem dX4_end_4 : decode cX4_end 4 = .ok (.getfield 35, 3) := by decide +kernel
theorem dX4_end_7 : decode cX4_end 7 = .ok (.iload_n 1, 1) := by decide +kernel
theorem dX4_end_8 : decode cX4_end 8 = .ok (.invokevirtual 38, 3) := by decide +kernel
theorem dX4_end_11 : decode cX4_end 11 = .ok (.iadd, 1) := by decide +kernel
theorem dX4_end_12 : decode cX4_end 12 = .ok (.ireturn, 1) := by decide +kernel
theorem dX5_init_0 : decode cX5_init 0 = .ok (.aload_n 0, 1) := by decide +kernel
theorem dX5_init_1 : decode cX5_init 1 = .ok (.invokespecial 3, 3) := by decide +kernel
theorem dX5_init_4 : decode cX5_init 4 = .ok (.aload_n 0, 1) := by decide +kernel
theorem dX5_init_5 : decode cX5_init 5 = .ok (.aload_n 1, 1) := by decide +kernel
theorem dX5_init_6 : decode cX5_init 6 = .ok (.putfield 9, 3) := by decide +kernel
theorem dX5_init_9 : decode cX5_init 9 = .ok (.return_, 1) := by decide +kernel
theorem dX5_demands_0 : decode cX5_demands 0 = .ok (.aload_n 0, 1) := by decide +kernel
theorem dX5_demands_1 : decode cX5_demands 1 = .ok (.getfield 9, 3) := by decide +kernel
theorem dX5_demands_4 : decode cX5_demands 4 = .ok (.getfield 15, 3) := by decide +kernel
theorem dX5_demands_7 : decode cX5_demands 7 = .ok (.aload_n 0, 1) := by decide +kernel
theorem dX5_demands_8 : decode cX5_demands 8 = .ok (.getfield 21, 3) := by decide +kernel
theorem dX5_demands_11 : decode cX5_demands 11 = .ok (.invokevirtual 25, 3) := by decide +kernel
theorem dX5_demands_14 : decode cX5_demands 14 = .ok (.ireturn, 1) := by decide +kernel
theorem dX5_changes_0 : decode cX5_changes 0 = .ok (.iconst 0, 1) := by decide +kernel
theorem dX5_changes_1 : decode cX5_changes 1 = .ok (.istore_n 3, 1) := by decide +kernel
theorem dX5_changes_2 : decode cX5_changes 2 = .ok (.iconst 0, 1) := by decide +kernel
theorem dX5_changes_3 : decode cX5_changes 3 = .ok (.istore 4, 2) := by decide +kernel
theorem dX5_changes_5 : decode cX5_changes 5 = .ok (.iload 4, 2) := by decide +kernel
theorem dX5_changes_7 : decode cX5_changes 7 = .ok (.iload_n 2, 1) := by decide +kernel
theorem dX5_changes_8 : decode cX5_changes 8 = .ok (.if_icmp .gt 55, 3) := by decide +kernel
theorem dX5_changes_11 : decode cX5_changes 11 = .ok (.aload_n 0, 1) := by decide +kernel
theorem dX5_changes_12 : decode cX5_changes 12 = .ok (.getfield 9, 3) := by decide +kernel
theorem dX5_changes_15 : decode cX5_changes 15 = .ok (.getfield 31, 3) := by decide +kernel
theorem dX5_changes_18 : decode cX5_changes 18 = .ok (.iload 4, 2) := by decide +kernel
theorem dX5_changes_20 : decode cX5_changes 20 = .ok (.invokevirtual 35, 3) := by decide +kernel
theorem dX5_changes_23 : decode cX5_changes 23 = .ok (.istore 5, 2) := by decide +kernel
theorem dX5_changes_25 : decode cX5_changes 25 = .ok (.iload 5, 2) := by decide +kernel
theorem dX5_changes_27 : decode cX5_changes 27 = .ok (.iconst (-1), 1) := by decide +kernel
theorem dX5_changes_28 : decode cX5_changes 28 = .ok (.if_icmp .eq 29, 3) := by decide +kernel
theorem dX5_changes_31 : decode cX5_changes 31 = .ok (.aload_n 0, 1) := by decide +kernel
theorem dX5_changes_32 : decode cX5_changes 32 = .ok (.getfield 40, 3) := by decide +kernel
theorem dX5_changes_35 : decode cX5_changes 35 = .ok (.iload 4, 2) := by decide +kernel
theorem dX5_changes_37 : decode cX5_changes 37 = .ok (.invokestatic 43, 3) := by decide +kernel
theorem dX5_changes_40 : decode cX5_changes 40 = .ok (.ifCond .ne 17, 3) := by decide +kernel
theorem dX5_changes_43 : decode cX5_changes 43 = .ok (.aload_n 1, 1) := by decide +kernel
theorem dX5_changes_44 : decode cX5_changes 44 = .ok (.iload 4, 2) := by decide +kernel
theorem dX5_changes_46 : decode cX5_changes 46 = .ok (.invokevirtual 35, 3) := by decide +kernel
theorem dX5_changes_49 : decode cX5_changes 49 = .ok (.iload 5, 2) := by decide +kernel
theorem dX5_changes_51 : decode cX5_changes 51 = .ok (.if_icmp .eq 6, 3) := by decide +kernel
theorem dX5_changes_54 : decode cX5_changes 54 = .ok (.iinc 3 1, 3) := by decide +kernel
theorem dX5_changes_57 : decode cX5_changes 57 = .ok (.iinc 4 1, 3) := by decide +kernel
theorem dX5_changes_60 : decode cX5_changes 60 = .ok (.goto (-55), 3) := by decide +kernel
theorem dX5_changes_63 : decode cX5_changes 63 = .ok (.iload_n 3, 1) := by decide +kernel
theorem dX5_changes_64 : decode cX5_changes 64 = .ok (.ireturn, 1) := by decide +kernel
theorem dX5_worth_0 : decode cX5_worth 0 = .ok (.iload_n 2, 1) := by decide +kernel
theorem dX5_worth_1 : decode cX5_worth 1 = .ok (.iconst (-1), 1) := by decide +kernel
theorem dX5_worth_2 : decode cX5_worth 2 = .ok (.if_icmp .eq 22, 3) := by decide +kernel
theorem dX5_worth_5 : decode cX5_worth 5 = .ok (.aload_n 0, 1) := by decide +kernel
theorem dX5_worth_6 : decode cX5_worth 6 = .ok (.getfield 9, 3) := by decide +kernel
theorem dX5_worth_9 : decode cX5_worth 9 = .ok (.getfield 31, 3) := by decide +kernel
theorem dX5_worth_12 : decode cX5_worth 12 = .ok (.iload_n 1, 1) := by decide +kernel
theorem dX5_worth_13 : decode cX5_worth 13 = .ok (.invokevirtual 35, 3) := by decide +kernel
theorem dX5_worth_16 : decode cX5_worth 16 = .ok (.iload_n 2, 1) := by decide +kernel
theorem dX5_worth_17 : decode cX5_worth 17 = .ok (.if_icmp .ne 7, 3) := by decide +kernel
theorem dX5_worth_20 : decode cX5_worth 20 = .ok (.iconst 1, 1) := by decide +kernel
theorem dX5_worth_21 : decode cX5_worth 21 = .ok (.goto 4, 3) := by decide +kernel
theorem dX5_worth_24 : decode cX5_worth 24 = .ok (.iconst 0, 1) := by decide +kernel
theorem dX5_worth_25 : decode cX5_worth 25 = .ok (.istore_n 3, 1) := by decide +kernel
theorem dX5_worth_26 : decode cX5_worth 26 = .ok (.iload_n 3, 1) := by decide +kernel
theorem dX5_worth_27 : decode cX5_worth 27 = .ok (.ifCond .eq 17, 3) := by decide +kernel
theorem dX5_worth_30 : decode cX5_worth 30 = .ok (.aload_n 0, 1) := by decide +kernel
theorem dX5_worth_31 : decode cX5_worth 31 = .ok (.getfield 40, 3) := by decide +kernel
theorem dX5_worth_34 : decode cX5_worth 34 = .ok (.iload_n 1, 1) := by decide +kernel
theorem dX5_worth_35 : decode cX5_worth 35 = .ok (.invokestatic 43, 3) := by decide +kernel
theorem dX5_worth_38 : decode cX5_worth 38 = .ok (.ifCond .ne 6, 3) := by decide +kernel
theorem dX5_worth_41 : decode cX5_worth 41 = .ok (.ldc 47, 2) := by decide +kernel
theorem dX5_worth_43 : decode cX5_worth 43 = .ok (.ireturn, 1) := by decide +kernel
theorem dX5_worth_44 : decode cX5_worth 44 = .ok (.aload_n 0, 1) := by decide +kernel
theorem dX5_worth_45 : decode cX5_worth 45 = .ok (.getfield 9, 3) := by decide +kernel
theorem dX5_worth_48 : decode cX5_worth 48 = .ok (.getfield 48, 3) := by decide +kernel
theorem dX5_worth_51 : decode cX5_worth 51 = .ok (.getfield 52, 3) := by decide +kernel
theorem dX5_worth_54 : decode cX5_worth 54 = .ok (.iload_n 2, 1) := by decide +kernel
theorem dX5_worth_55 : decode cX5_worth 55 = .ok (.invokevirtual 35, 3) := by decide +kernel
theorem dX5_worth_58 : decode cX5_worth 58 = .ok (.ireturn, 1) := by decide +kernel
theorem dX6_init_0 : decode cX6_init 0 = .ok (.aload_n 0, 1) := by decide +kernel
theorem dX6_init_1 : decode cX6_init 1 = .ok (.invokespecial 3, 3) := by decide +kernel
theorem dX6_init_4 : decode cX6_init 4 = .ok (.aload_n 0, 1) := by decide +kernel
theorem dX6_init_5 : decode cX6_init 5 = .ok (.new 9, 3) := by decide +kernel
theorem dX6_init_8 : decode cX6_init 8 = .ok (.dup, 1) := by decide +kernel
theorem dX6_init_9 : decode cX6_init 9 = .ok (.bipush 30, 2) := by decide +kernel
theorem dX6_init_11 : decode cX6_init 11 = .ok (.iconst 3, 1) := by decide +kernel
theorem dX6_init_12 : decode cX6_init 12 = .ok (.invokespecial 11, 3) := by decide +kernel
theorem dX6_init_15 : decode cX6_init 15 = .ok (.putfield 14, 3) := by decide +kernel
theorem dX6_init_18 : decode cX6_init 18 = .ok (.aload_n 0, 1) := by decide +kernel
theorem dX6_init_19 : decode cX6_init 19 = .ok (.new 9, 3) := by decide +kernel
theorem dX6_init_22 : decode cX6_init 22 = .ok (.dup, 1) := by decide +kernel
theorem dX6_init_23 : decode cX6_init 23 = .ok (.bipush 30, 2) := by decide +kernel
theorem dX6_init_25 : decode cX6_init 25 = .ok (.iconst 0, 1) := by decide +kernel
theorem dX6_init_26 : decode cX6_init 26 = .ok (.invokespecial 11, 3) := by decide +kernel
theorem dX6_init_29 : decode cX6_init 29 = .ok (.putfield 20, 3) := by decide +kernel
theorem dX6_init_32 : decode cX6_init 32 = .ok (.aload_n 0, 1) := by decide +kernel
theorem dX6_init_33 : decode cX6_init 33 = .ok (.new 9, 3) := by decide +kernel
theorem dX6_init_36 : decode cX6_init 36 = .ok (.dup, 1) := by decide +kernel
theorem dX6_init_37 : decode cX6_init 37 = .ok (.bipush 30, 2) := by decide +kernel
theorem dX6_init_39 : decode cX6_init 39 = .ok (.iconst 0, 1) := by decide +kernel
theorem dX6_init_40 : decode cX6_init 40 = .ok (.invokespecial 11, 3) := by decide +kernel
theorem dX6_init_43 : decode cX6_init 43 = .ok (.putfield 23, 3) := by decide +kernel
theorem dX6_init_46 : decode cX6_init 46 = .ok (.aload_n 0, 1) := by decide +kernel
theorem dX6_init_47 : decode cX6_init 47 = .ok (.new 9, 3) := by decide +kernel
theorem dX6_init_50 : decode cX6_init 50 = .ok (.dup, 1) := by decide +kernel
theorem dX6_init_51 : decode cX6_init 51 = .ok (.bipush 30, 2) := by decide +kernel
theorem dX6_init_53 : decode cX6_init 53 = .ok (.iconst (-1), 1) := by decide +kernel
theorem dX6_init_54 : decode cX6_init 54 = .ok (.invokespecial 11, 3) := by decide +kernel
theorem dX6_init_57 : decode cX6_init 57 = .ok (.putfield 26, 3) := by decide +kernel
theorem dX6_init_60 : decode cX6_init 60 = .ok (.aload_n 0, 1) := by decide +kernel
theorem dX6_init_61 : decode cX6_init 61 = .ok (.new 9, 3) := by decide +kernel
theorem dX6_init_64 : decode cX6_init 64 = .ok (.dup, 1) := by decide +kernel
theorem dX6_init_65 : decode cX6_init 65 = .ok (.bipush 30, 2) := by decide +kernel
theorem dX6_init_67 : decode cX6_init 67 = .ok (.iconst (-1), 1) := by decide +kernel
theorem dX6_init_68 : decode cX6_init 68 = .ok (.invokespecial 11, 3) := by decide +kernel
theorem dX6_init_71 : decode cX6_init 71 = .ok (.putfield 29, 3) := by decide +kernel
theorem dX6_init_74 : decode cX6_init 74 = .ok (.aload_n 0, 1) := by decide +kernel
theorem dX6_init_75 : decode cX6_init 75 = .ok (.new 9, 3) := by decide +kernel
theorem dX6_init_78 : decode cX6_init 78 = .ok (.dup, 1) := by decide +kernel
theorem dX6_init_79 : decode cX6_init 79 = .ok (.bipush 30, 2) := by decide +kernel
theorem dX6_init_81 : decode cX6_init 81 = .ok (.iconst (-1), 1) := by decide +kernel
theorem dX6_init_82 : decode cX6_init 82 = .ok (.invokespecial 11, 3) := by decide +kernel
theorem dX6_init_85 : decode cX6_init 85 = .ok (.putfield 32, 3) := by decide +kernel
theorem dX6_init_88 : decode cX6_init 88 = .ok (.aload_n 0, 1) := by decide +kernel
theorem dX6_init_89 : decode cX6_init 89 = .ok (.new 9, 3) := by decide +kernel
theorem dX6_init_92 : decode cX6_init 92 = .ok (.dup, 1) := by decide +kernel
theorem dX6_init_93 : decode cX6_init 93 = .ok (.bipush 30, 2) := by decide +kernel
theorem dX6_init_95 : decode cX6_init 95 = .ok (.iconst 0, 1) := by decide +kernel
theorem dX6_init_96 : decode cX6_init 96 = .ok (.invokespecial 11, 3) := by decide +kernel
theorem dX6_init_99 : decode cX6_init 99 = .ok (.putfield 35, 3) := by decide +kernel
theorem dX6_init_102 : decode cX6_init 102 = .ok (.return_, 1) := by decide +kernel
theorem dX6_isFull_0 : decode cX6_isFull 0 = .ok (.aload_n 0, 1) := by decide +kernel
theorem dX6_isFull_1 : decode cX6_isFull 1 = .ok (.getfield 38, 3) := by decide +kernel
theorem dX6_isFull_4 : decode cX6_isFull 4 = .ok (.bipush 30, 2) := by decide +kernel
theorem dX6_isFull_6 : decode cX6_isFull 6 = .ok (.if_icmp .lt 7, 3) := by decide +kernel
theorem dX6_isFull_9 : decode cX6_isFull 9 = .ok (.iconst 1, 1) := by decide +kernel
theorem dX6_isFull_10 : decode cX6_isFull 10 = .ok (.goto 4, 3) := by decide +kernel
theorem dX6_isFull_13 : decode cX6_isFull 13 = .ok (.iconst 0, 1) := by decide +kernel
theorem dX6_isFull_14 : decode cX6_isFull 14 = .ok (.ireturn, 1) := by decide +kernel
theorem dX6_add_0 : decode cX6_add 0 = .ok (.aload_n 0, 1) := by decide +kernel
theorem dX6_add_1 : decode cX6_add 1 = .ok (.getfield 38, 3) := by decide +kernel
theorem dX6_add_4 : decode cX6_add 4 = .ok (.istore 5, 2) := by decide +kernel
theorem dX6_add_6 : decode cX6_add 6 = .ok (.aload_n 0, 1) := by decide +kernel
theorem dX6_add_7 : decode cX6_add 7 = .ok (.getfield 20, 3) := by decide +kernel
theorem dX6_add_10 : decode cX6_add 10 = .ok (.iload 5, 2) := by decide +kernel
theorem dX6_add_12 : decode cX6_add 12 = .ok (.iload_n 1, 1) := by decide +kernel
theorem dX6_add_13 : decode cX6_add 13 = .ok (.invokevirtual 42, 3) := by decide +kernel
theorem dX6_add_16 : decode cX6_add 16 = .ok (.aload_n 0, 1) := by decide +kernel
theorem dX6_add_17 : decode cX6_add 17 = .ok (.getfield 23, 3) := by decide +kernel
theorem dX6_add_20 : decode cX6_add 20 = .ok (.iload 5, 2) := by decide +kernel
theorem dX6_add_22 : decode cX6_add 22 = .ok (.iload_n 2, 1) := by decide +kernel
theorem dX6_add_23 : decode cX6_add 23 = .ok (.invokevirtual 42, 3) := by decide +kernel
theorem dX6_add_26 : decode cX6_add 26 = .ok (.aload_n 0, 1) := by decide +kernel
theorem dX6_add_27 : decode cX6_add 27 = .ok (.getfield 26, 3) := by decide +kernel
theorem dX6_add_30 : decode cX6_add 30 = .ok (.iload 5, 2) := by decide +kernel
theorem dX6_add_32 : decode cX6_add 32 = .ok (.iload_n 3, 1) := by decide +kernel
theorem dX6_add_33 : decode cX6_add 33 = .ok (.invokevirtual 42, 3) := by decide +kernel
theorem dX6_add_36 : decode cX6_add 36 = .ok (.iconst 0, 1) := by decide +kernel
theorem dX6_add_37 : decode cX6_add 37 = .ok (.istore 6, 2) := by decide +kernel
theorem dX6_add_39 : decode cX6_add 39 = .ok (.iload 6, 2) := by decide +kernel
theorem dX6_add_41 : decode cX6_add 41 = .ok (.aload 4, 2) := by decide +kernel
theorem dX6_add_43 : decode cX6_add 43 = .ok (.getfield 45, 3) := by decide +kernel
theorem dX6_add_46 : decode cX6_add 46 = .ok (.if_icmp .ge 42, 3) := by decide +kernel
theorem dX6_add_49 : decode cX6_add 49 = .ok (.aload_n 0, 1) := by decide +kernel
theorem dX6_add_50 : decode cX6_add 50 = .ok (.iload 5, 2) := by decide +kernel
theorem dX6_add_52 : decode cX6_add 52 = .ok (.aload 4, 2) := by decide +kernel
theorem dX6_add_54 : decode cX6_add 54 = .ok (.getfield 48, 3) := by decide +kernel
theorem dX6_add_57 : decode cX6_add 57 = .ok (.iload 6, 2) := by decide +kernel
theorem dX6_add_59 : decode cX6_add 59 = .ok (.invokevirtual 51, 3) := by decide +kernel
theorem dX6_add_62 : decode cX6_add 62 = .ok (.invokevirtual 55, 3) := by decide +kernel
theorem dX6_add_65 : decode cX6_add 65 = .ok (.ifCond .eq 17, 3) := by decide +kernel
theorem dX6_add_68 : decode cX6_add 68 = .ok (.aload_n 0, 1) := by decide +kernel
theorem dX6_add_69 : decode cX6_add 69 = .ok (.getfield 35, 3) := by decide +kernel
theorem dX6_add_72 : decode cX6_add 72 = .ok (.iload 5, 2) := by decide +kernel
theorem dX6_add_74 : decode cX6_add 74 = .ok (.iconst 1, 1) := by decide +kernel
theorem dX6_add_75 : decode cX6_add 75 = .ok (.iload 6, 2) := by decide +kernel
theorem dX6_add_77 : decode cX6_add 77 = .ok (.ishl, 1) := by decide +kernel
theorem dX6_add_78 : decode cX6_add 78 = .ok (.invokevirtual 59, 3) := by decide +kernel
theorem dX6_add_81 : decode cX6_add 81 = .ok (.pop, 1) := by decide +kernel
theorem dX6_add_82 : decode cX6_add 82 = .ok (.iinc 6 1, 3) := by decide +kernel
theorem dX6_add_85 : decode cX6_add 85 = .ok (.goto (-46), 3) := by decide +kernel
theorem dX6_add_88 : decode cX6_add 88 = .ok (.aload_n 0, 1) := by decide +kernel
theorem dX6_add_89 : decode cX6_add 89 = .ok (.dup, 1) := by decide +kernel
theorem dX6_add_90 : decode cX6_add 90 = .ok (.getfield 38, 3) := by decide +kernel
theorem dX6_add_93 : decode cX6_add 93 = .ok (.iconst 1, 1) := by decide +kernel
theorem dX6_add_94 : decode cX6_add 94 = .ok (.iadd, 1) := by decide +kernel
theorem dX6_add_95 : decode cX6_add 95 = .ok (.putfield 38, 3) := by decide +kernel
theorem dX6_add_98 : decode cX6_add 98 = .ok (.iload 5, 2) := by decide +kernel
theorem dX6_add_100 : decode cX6_add 100 = .ok (.ireturn, 1) := by decide +kernel
theorem dX6_addJoined_0 : decode cX6_addJoined 0 = .ok (.aload_n 0, 1) := by decide +kernel
theorem dX6_addJoined_1 : decode cX6_addJoined 1 = .ok (.getfield 38, 3) := by decide +kernel
theorem dX6_addJoined_4 : decode cX6_addJoined 4 = .ok (.istore 4, 2) := by decide +kernel
theorem dX6_addJoined_6 : decode cX6_addJoined 6 = .ok (.aload_n 0, 1) := by decide +kernel
theorem dX6_addJoined_7 : decode cX6_addJoined 7 = .ok (.getfield 14, 3) := by decide +kernel
theorem dX6_addJoined_10 : decode cX6_addJoined 10 = .ok (.iload 4, 2) := by decide +kernel
theorem dX6_addJoined_12 : decode cX6_addJoined 12 = .ok (.iload_n 1, 1) := by decide +kernel
theorem dX6_addJoined_13 : decode cX6_addJoined 13 = .ok (.invokevirtual 42, 3) := by decide +kernel
theorem dX6_addJoined_16 : decode cX6_addJoined 16 = .ok (.aload_n 0, 1) := by decide +kernel
theorem dX6_addJoined_17 : decode cX6_addJoined 17 = .ok (.getfield 29, 3) := by decide +kernel
theorem dX6_addJoined_20 : decode cX6_addJoined 20 = .ok (.iload 4, 2) := by decide +kernel
theorem dX6_addJoined_22 : decode cX6_addJoined 22 = .ok (.iload_n 2, 1) := by decide +kernel
theorem dX6_addJoined_23 : decode cX6_addJoined 23 = .ok (.invokevirtual 42, 3) := by decide +kernel
theorem dX6_addJoined_26 : decode cX6_addJoined 26 = .ok (.aload_n 0, 1) := by decide +kernel
theorem dX6_addJoined_27 : decode cX6_addJoined 27 = .ok (.getfield 32, 3) := by decide +kernel
theorem dX6_addJoined_30 : decode cX6_addJoined 30 = .ok (.iload 4, 2) := by decide +kernel
theorem dX6_addJoined_32 : decode cX6_addJoined 32 = .ok (.iload_n 3, 1) := by decide +kernel
theorem dX6_addJoined_33 : decode cX6_addJoined 33 = .ok (.invokevirtual 42, 3) := by decide +kernel
theorem dX6_addJoined_36 : decode cX6_addJoined 36 = .ok (.aload_n 0, 1) := by decide +kernel
theorem dX6_addJoined_37 : decode cX6_addJoined 37 = .ok (.getfield 35, 3) := by decide +kernel
theorem dX6_addJoined_40 : decode cX6_addJoined 40 = .ok (.iload_n 2, 1) := by decide +kernel
theorem dX6_addJoined_41 : decode cX6_addJoined 41 = .ok (.invokevirtual 51, 3) := by decide +kernel
theorem dX6_addJoined_44 : decode cX6_addJoined 44 = .ok (.istore 5, 2) := by decide +kernel
theorem dX6_addJoined_46 : decode cX6_addJoined 46 = .ok (.aload_n 0, 1) := by decide +kernel
theorem dX6_addJoined_47 : decode cX6_addJoined 47 = .ok (.getfield 35, 3) := by decide +kernel
theorem dX6_addJoined_50 : decode cX6_addJoined 50 = .ok (.iload_n 3, 1) := by decide +kernel
theorem dX6_addJoined_51 : decode cX6_addJoined 51 = .ok (.invokevirtual 51, 3) := by decide +kernel
theorem dX6_addJoined_54 : decode cX6_addJoined 54 = .ok (.istore 6, 2) := by decide +kernel
theorem dX6_addJoined_56 : decode cX6_addJoined 56 = .ok (.aload_n 0, 1) := by decide +kernel
theorem dX6_addJoined_57 : decode cX6_addJoined 57 = .ok (.getfield 35, 3) := by decide +kernel
theorem dX6_addJoined_60 : decode cX6_addJoined 60 = .ok (.iload 4, 2) := by decide +kernel
theorem dX6_addJoined_62 : decode cX6_addJoined 62 = .ok (.iload_n 1, 1) := by decide +kernel
theorem dX6_addJoined_63 : decode cX6_addJoined 63 = .ok (.bipush 8, 2) := by decide +kernel
theorem dX6_addJoined_65 : decode cX6_addJoined 65 = .ok (.if_icmp .ne 11, 3) := by decide +kernel
theorem dX6_addJoined_68 : decode cX6_addJoined 68 = .ok (.iload 5, 2) := by decide +kernel
theorem dX6_addJoined_70 : decode cX6_addJoined 70 = .ok (.iload 6, 2) := by decide +kernel
theorem dX6_addJoined_72 : decode cX6_addJoined 72 = .ok (.iand, 1) := by decide +kernel
theorem dX6_addJoined_73 : decode cX6_addJoined 73 = .ok (.goto 8, 3) := by decide +kernel
theorem dX6_addJoined_76 : decode cX6_addJoined 76 = .ok (.iload 5, 2) := by decide +kernel
theorem dX6_addJoined_78 : decode cX6_addJoined 78 = .ok (.iload 6, 2) := by decide +kernel
theorem dX6_addJoined_80 : decode cX6_addJoined 80 = .ok (.ior, 1) := by decide +kernel
theorem dX6_addJoined_81 : decode cX6_addJoined 81 = .ok (.invokevirtual 42, 3) := by decide +kernel
theorem dX6_addJoined_84 : decode cX6_addJoined 84 = .ok (.aload_n 0, 1) := by decide +kernel
theorem dX6_addJoined_85 : decode cX6_addJoined 85 = .ok (.dup, 1) := by decide +kernel
theorem dX6_addJoined_86 : decode cX6_addJoined 86 = .ok (.getfield 38, 3) := by decide +kernel
theorem dX6_addJoined_89 : decode cX6_addJoined 89 = .ok (.iconst 1, 1) := by decide +kernel
theorem dX6_addJoined_90 : decode cX6_addJoined 90 = .ok (.iadd, 1) := by decide +kernel
theorem dX6_addJoined_91 : decode cX6_addJoined 91 = .ok (.putfield 38, 3) := by decide +kernel
theorem dX6_addJoined_94 : decode cX6_addJoined 94 = .ok (.iload 4, 2) := by decide +kernel
theorem dX6_addJoined_96 : decode cX6_addJoined 96 = .ok (.ireturn, 1) := by decide +kernel
theorem dX6_take_0 : decode cX6_take 0 = .ok (.iconst 0, 1) := by decide +kernel
theorem dX6_take_1 : decode cX6_take 1 = .ok (.istore_n 3, 1) := by decide +kernel
theorem dX6_take_2 : decode cX6_take 2 = .ok (.iload_n 3, 1) := by decide +kernel
theorem dX6_take_3 : decode cX6_take 3 = .ok (.aload_n 0, 1) := by decide +kernel
theorem dX6_take_4 : decode cX6_take 4 = .ok (.getfield 38, 3) := by decide +kernel
theorem dX6_take_7 : decode cX6_take 7 = .ok (.if_icmp .ge 124, 3) := by decide +kernel
theorem dX6_take_10 : decode cX6_take 10 = .ok (.aload_n 0, 1) := by decide +kernel
theorem dX6_take_11 : decode cX6_take 11 = .ok (.getfield 14, 3) := by decide +kernel
theorem dX6_take_14 : decode cX6_take 14 = .ok (.iload_n 3, 1) := by decide +kernel
theorem dX6_take_15 : decode cX6_take 15 = .ok (.invokevirtual 51, 3) := by decide +kernel
theorem dX6_take_18 : decode cX6_take 18 = .ok (.istore 4, 2) := by decide +kernel
theorem dX6_take_20 : decode cX6_take 20 = .ok (.aload_n 0, 1) := by decide +kernel
theorem dX6_take_21 : decode cX6_take 21 = .ok (.aload_n 0, 1) := by decide +kernel
theorem dX6_take_22 : decode cX6_take 22 = .ok (.getfield 29, 3) := by decide +kernel
theorem dX6_take_25 : decode cX6_take 25 = .ok (.iload_n 3, 1) := by decide +kernel
theorem dX6_take_26 : decode cX6_take 26 = .ok (.invokevirtual 51, 3) := by decide +kernel
theorem dX6_take_29 : decode cX6_take 29 = .ok (.iload_n 1, 1) := by decide +kernel
theorem dX6_take_30 : decode cX6_take 30 = .ok (.invokevirtual 62, 3) := by decide +kernel
theorem dX6_take_33 : decode cX6_take 33 = .ok (.istore 5, 2) := by decide +kernel
theorem dX6_take_35 : decode cX6_take 35 = .ok (.aload_n 0, 1) := by decide +kernel
theorem dX6_take_36 : decode cX6_take 36 = .ok (.aload_n 0, 1) := by decide +kernel
theorem dX6_take_37 : decode cX6_take 37 = .ok (.getfield 32, 3) := by decide +kernel
theorem dX6_take_40 : decode cX6_take 40 = .ok (.iload_n 3, 1) := by decide +kernel
theorem dX6_take_41 : decode cX6_take 41 = .ok (.invokevirtual 51, 3) := by decide +kernel
theorem dX6_take_44 : decode cX6_take 44 = .ok (.iload_n 1, 1) := by decide +kernel
theorem dX6_take_45 : decode cX6_take 45 = .ok (.invokevirtual 62, 3) := by decide +kernel
theorem dX6_take_48 : decode cX6_take 48 = .ok (.istore 6, 2) := by decide +kernel
theorem dX6_take_50 : decode cX6_take 50 = .ok (.iload 4, 2) := by decide +kernel
theorem dX6_take_52 : decode cX6_take 52 = .ok (.bipush 8, 2) := by decide +kernel
theorem dX6_take_54 : decode cX6_take 54 = .ok (.if_icmp .ne 21, 3) := by decide +kernel
theorem dX6_take_57 : decode cX6_take 57 = .ok (.iload 5, 2) := by decide +kernel
theorem dX6_take_59 : decode cX6_take 59 = .ok (.ifCond .eq 12, 3) := by decide +kernel
theorem dX6_take_62 : decode cX6_take 62 = .ok (.iload 6, 2) := by decide +kernel
theorem dX6_take_64 : decode cX6_take 64 = .ok (.ifCond .eq 7, 3) := by decide +kernel
theorem dX6_take_67 : decode cX6_take 67 = .ok (.iconst 1, 1) := by decide +kernel
theorem dX6_take_68 : decode cX6_take 68 = .ok (.goto 38, 3) := by decide +kernel
theorem dX6_take_71 : decode cX6_take 71 = .ok (.iconst 0, 1) := by decide +kernel
theorem dX6_take_72 : decode cX6_take 72 = .ok (.goto 34, 3) := by decide +kernel
theorem dX6_take_75 : decode cX6_take 75 = .ok (.iload 4, 2) := by decide +kernel
theorem dX6_take_77 : decode cX6_take 77 = .ok (.bipush 9, 2) := by decide +kernel
theorem dX6_take_79 : decode cX6_take 79 = .ok (.if_icmp .ne 21, 3) := by decide +kernel
theorem dX6_take_82 : decode cX6_take 82 = .ok (.iload 5, 2) := by decide +kernel
theorem dX6_take_84 : decode cX6_take 84 = .ok (.ifCond .ne 8, 3) := by decide +kernel
theorem dX6_take_87 : decode cX6_take 87 = .ok (.iload 6, 2) := by decide +kernel
theorem dX6_take_89 : decode cX6_take 89 = .ok (.ifCond .eq 7, 3) := by decide +kernel
theorem dX6_take_92 : decode cX6_take 92 = .ok (.iconst 1, 1) := by decide +kernel
theorem dX6_take_93 : decode cX6_take 93 = .ok (.goto 13, 3) := by decide +kernel
theorem dX6_take_96 : decode cX6_take 96 = .ok (.iconst 0, 1) := by decide +kernel
theorem dX6_take_97 : decode cX6_take 97 = .ok (.goto 9, 3) := by decide +kernel
theorem dX6_take_100 : decode cX6_take 100 = .ok (.aload_n 0, 1) := by decide +kernel
theorem dX6_take_101 : decode cX6_take 101 = .ok (.iload_n 3, 1) := by decide +kernel
theorem dX6_take_102 : decode cX6_take 102 = .ok (.iload_n 2, 1) := by decide +kernel
theorem dX6_take_103 : decode cX6_take 103 = .ok (.invokevirtual 55, 3) := by decide +kernel
theorem dX6_take_106 : decode cX6_take 106 = .ok (.istore 7, 2) := by decide +kernel
theorem dX6_take_108 : decode cX6_take 108 = .ok (.iload 7, 2) := by decide +kernel
theorem dX6_take_110 : decode cX6_take 110 = .ok (.ifCond .eq 15, 3) := by decide +kernel
theorem dX6_take_113 : decode cX6_take 113 = .ok (.aload_n 0, 1) := by decide +kernel
theorem dX6_take_114 : decode cX6_take 114 = .ok (.getfield 35, 3) := by decide +kernel
theorem dX6_take_117 : decode cX6_take 117 = .ok (.iload_n 3, 1) := by decide +kernel
theorem dX6_take_118 : decode cX6_take 118 = .ok (.iconst 1, 1) := by decide +kernel
theorem dX6_take_119 : decode cX6_take 119 = .ok (.iload_n 1, 1) := by decide +kernel
theorem dX6_take_120 : decode cX6_take 120 = .ok (.ishl, 1) := by decide +kernel
theorem dX6_take_121 : decode cX6_take 121 = .ok (.invokevirtual 59, 3) := by decide +kernel
theorem dX6_take_124 : decode cX6_take 124 = .ok (.pop, 1) := by decide +kernel
theorem dX6_take_125 : decode cX6_take 125 = .ok (.iinc 3 1, 3) := by decide +kernel
theorem dX6_take_128 : decode cX6_take 128 = .ok (.goto (-126), 3) := by decide +kernel
theorem dX6_take_131 : decode cX6_take 131 = .ok (.return_, 1) := by decide +kernel
theorem dX6_holds_0 : decode cX6_holds 0 = .ok (.aload_n 0, 1) := by decide +kernel
theorem dX6_holds_1 : decode cX6_holds 1 = .ok (.getfield 38, 3) := by decide +kernel
theorem dX6_holds_4 : decode cX6_holds 4 = .ok (.iconst 1, 1) := by decide +kernel
theorem dX6_holds_5 : decode cX6_holds 5 = .ok (.isub, 1) := by decide +kernel
theorem dX6_holds_6 : decode cX6_holds 6 = .ok (.iload_n 1, 1) := by decide +kernel
theorem dX6_holds_7 : decode cX6_holds 7 = .ok (.invokestatic 65, 3) := by decide +kernel
theorem dX6_holds_10 : decode cX6_holds 10 = .ok (.ifCond .eq 22, 3) := by decide +kernel
theorem dX6_holds_13 : decode cX6_holds 13 = .ok (.aload_n 0, 1) := by decide +kernel
theorem dX6_holds_14 : decode cX6_holds 14 = .ok (.getfield 35, 3) := by decide +kernel
theorem dX6_holds_17 : decode cX6_holds 17 = .ok (.iload_n 1, 1) := by decide +kernel
theorem dX6_holds_18 : decode cX6_holds 18 = .ok (.invokevirtual 51, 3) := by decide +kernel
theorem dX6_holds_21 : decode cX6_holds 21 = .ok (.iload_n 2, 1) := by decide +kernel
theorem dX6_holds_22 : decode cX6_holds 22 = .ok (.invokestatic 68, 3) := by decide +kernel
theorem dX6_holds_25 : decode cX6_holds 25 = .ok (.ifCond .eq 7, 3) := by decide +kernel
theorem dX6_holds_28 : decode cX6_holds 28 = .ok (.iconst 1, 1) := by decide +kernel
theorem dX6_holds_29 : decode cX6_holds 29 = .ok (.goto 4, 3) := by decide +kernel
theorem dX6_holds_32 : decode cX6_holds 32 = .ok (.iconst 0, 1) := by decide +kernel
theorem dX6_holds_33 : decode cX6_holds 33 = .ok (.ireturn, 1) := by decide +kernel
theorem dX6_reaches_0 : decode cX6_reaches 0 = .ok (.iload_n 2, 1) := by decide +kernel
theorem dX6_reaches_1 : decode cX6_reaches 1 = .ok (.aload_n 0, 1) := by decide +kernel
theorem dX6_reaches_2 : decode cX6_reaches 2 = .ok (.getfield 20, 3) := by decide +kernel
theorem dX6_reaches_5 : decode cX6_reaches 5 = .ok (.iload_n 1, 1) := by decide +kernel
theorem dX6_reaches_6 : decode cX6_reaches 6 = .ok (.invokevirtual 51, 3) := by decide +kernel
theorem dX6_reaches_9 : decode cX6_reaches 9 = .ok (.if_icmp .lt 41, 3) := by decide +kernel
theorem dX6_reaches_12 : decode cX6_reaches 12 = .ok (.iload_n 2, 1) := by decide +kernel
theorem dX6_reaches_13 : decode cX6_reaches 13 = .ok (.aload_n 0, 1) := by decide +kernel
theorem dX6_reaches_14 : decode cX6_reaches 14 = .ok (.getfield 23, 3) := by decide +kernel
theorem dX6_reaches_17 : decode cX6_reaches 17 = .ok (.iload_n 1, 1) := by decide +kernel
theorem dX6_reaches_18 : decode cX6_reaches 18 = .ok (.invokevirtual 51, 3) := by decide +kernel
theorem dX6_reaches_21 : decode cX6_reaches 21 = .ok (.if_icmp .ge 29, 3) := by decide +kernel
theorem dX6_reaches_24 : decode cX6_reaches 24 = .ok (.iload_n 2, 1) := by decide +kernel
theorem dX6_reaches_25 : decode cX6_reaches 25 = .ok (.invokestatic 71, 3) := by decide +kernel
theorem dX6_reaches_28 : decode cX6_reaches 28 = .ok (.ifCond .eq 18, 3) := by decide +kernel
theorem dX6_reaches_31 : decode cX6_reaches 31 = .ok (.aload_n 0, 1) := by decide +kernel
theorem dX6_reaches_32 : decode cX6_reaches 32 = .ok (.getfield 26, 3) := by decide +kernel
theorem dX6_reaches_35 : decode cX6_reaches 35 = .ok (.iload_n 1, 1) := by decide +kernel
theorem dX6_reaches_36 : decode cX6_reaches 36 = .ok (.invokevirtual 51, 3) := by decide +kernel
theorem dX6_reaches_39 : decode cX6_reaches 39 = .ok (.iload_n 2, 1) := by decide +kernel
theorem dX6_reaches_40 : decode cX6_reaches 40 = .ok (.invokestatic 75, 3) := by decide +kernel
theorem dX6_reaches_43 : decode cX6_reaches 43 = .ok (.if_icmp .ne 7, 3) := by decide +kernel
theorem dX6_reaches_46 : decode cX6_reaches 46 = .ok (.iconst 1, 1) := by decide +kernel
theorem dX6_reaches_47 : decode cX6_reaches 47 = .ok (.goto 4, 3) := by decide +kernel
theorem dX6_reaches_50 : decode cX6_reaches 50 = .ok (.iconst 0, 1) := by decide +kernel
theorem dX6_reaches_51 : decode cX6_reaches 51 = .ok (.ireturn, 1) := by decide +kernel
theorem dX7_init_0 : decode cX7_init 0 = .ok (.aload_n 0, 1) := by decide +kernel
theorem dX7_init_1 : decode cX7_init 1 = .ok (.invokespecial 3, 3) := by decide +kernel
theorem dX7_init_4 : decode cX7_init 4 = .ok (.aload_n 0, 1) := by decide +kernel
theorem dX7_init_5 : decode cX7_init 5 = .ok (.iload_n 1, 1) := by decide +kernel
theorem dX7_init_6 : decode cX7_init 6 = .ok (.ifCond .le 7, 3) := by decide +kernel
theorem dX7_init_9 : decode cX7_init 9 = .ok (.iload_n 1, 1) := by decide +kernel
theorem dX7_init_10 : decode cX7_init 10 = .ok (.goto 4, 3) := by decide +kernel
theorem dX7_init_13 : decode cX7_init 13 = .ok (.iconst 0, 1) := by decide +kernel
theorem dX7_init_14 : decode cX7_init 14 = .ok (.newarray .int, 2) := by decide +kernel
theorem dX7_init_16 : decode cX7_init 16 = .ok (.putfield 9, 3) := by decide +kernel
theorem dX7_init_19 : decode cX7_init 19 = .ok (.aload_n 0, 1) := by decide +kernel
theorem dX7_init_20 : decode cX7_init 20 = .ok (.getfield 9, 3) := by decide +kernel
theorem dX7_init_23 : decode cX7_init 23 = .ok (.iload_n 2, 1) := by decide +kernel
theorem dX7_init_24 : decode cX7_init 24 = .ok (.invokestatic 15, 3) := by decide +kernel
theorem dX7_init_27 : decode cX7_init 27 = .ok (.return_, 1) := by decide +kernel
theorem dX7_get_0 : decode cX7_get 0 = .ok (.iload_n 1, 1) := by decide +kernel
theorem dX7_get_1 : decode cX7_get 1 = .ok (.ifCond .lt 21, 3) := by decide +kernel
theorem dX7_get_4 : decode cX7_get 4 = .ok (.iload_n 1, 1) := by decide +kernel
theorem dX7_get_5 : decode cX7_get 5 = .ok (.aload_n 0, 1) := by decide +kernel
theorem dX7_get_6 : decode cX7_get 6 = .ok (.getfield 9, 3) := by decide +kernel
theorem dX7_get_9 : decode cX7_get 9 = .ok (.arraylength, 1) := by decide +kernel
theorem dX7_get_10 : decode cX7_get 10 = .ok (.if_icmp .ge 12, 3) := by decide +kernel
theorem dX7_get_13 : decode cX7_get 13 = .ok (.aload_n 0, 1) := by decide +kernel
theorem dX7_get_14 : decode cX7_get 14 = .ok (.getfield 9, 3) := by decide +kernel
theorem dX7_get_17 : decode cX7_get 17 = .ok (.iload_n 1, 1) := by decide +kernel
theorem dX7_get_18 : decode cX7_get 18 = .ok (.iaload, 1) := by decide +kernel
theorem dX7_get_19 : decode cX7_get 19 = .ok (.goto 4, 3) := by decide +kernel
theorem dX7_get_22 : decode cX7_get 22 = .ok (.iconst (-1), 1) := by decide +kernel
theorem dX7_get_23 : decode cX7_get 23 = .ok (.ireturn, 1) := by decide +kernel
theorem dX7_set_0 : decode cX7_set 0 = .ok (.iload_n 1, 1) := by decide +kernel
theorem dX7_set_1 : decode cX7_set 1 = .ok (.ifCond .lt 19, 3) := by decide +kernel
theorem dX7_set_4 : decode cX7_set 4 = .ok (.iload_n 1, 1) := by decide +kernel
theorem dX7_set_5 : decode cX7_set 5 = .ok (.aload_n 0, 1) := by decide +kernel
theorem dX7_set_6 : decode cX7_set 6 = .ok (.getfield 9, 3) := by decide +kernel
theorem dX7_set_9 : decode cX7_set 9 = .ok (.arraylength, 1) := by decide +kernel
theorem dX7_set_10 : decode cX7_set 10 = .ok (.if_icmp .ge 10, 3) := by decide +kernel
theorem dX7_set_13 : decode cX7_set 13 = .ok (.aload_n 0, 1) := by decide +kernel
theorem dX7_set_14 : decode cX7_set 14 = .ok (.getfield 9, 3) := by decide +kernel
theorem dX7_set_17 : decode cX7_set 17 = .ok (.iload_n 1, 1) := by decide +kernel
theorem dX7_set_18 : decode cX7_set 18 = .ok (.iload_n 2, 1) := by decide +kernel
theorem dX7_set_19 : decode cX7_set 19 = .ok (.iastore, 1) := by decide +kernel
theorem dX7_set_20 : decode cX7_set 20 = .ok (.return_, 1) := by decide +kernel
theorem dX7_exchange_0 : decode cX7_exchange 0 = .ok (.aload_n 0, 1) := by decide +kernel
theorem dX7_exchange_1 : decode cX7_exchange 1 = .ok (.iload_n 1, 1) := by decide +kernel
theorem dX7_exchange_2 : decode cX7_exchange 2 = .ok (.invokevirtual 21, 3) := by decide +kernel
theorem dX7_exchange_5 : decode cX7_exchange 5 = .ok (.istore_n 3, 1) := by decide +kernel
theorem dX7_exchange_6 : decode cX7_exchange 6 = .ok (.aload_n 0, 1) := by decide +kernel
theorem dX7_exchange_7 : decode cX7_exchange 7 = .ok (.iload_n 1, 1) := by decide +kernel
theorem dX7_exchange_8 : decode cX7_exchange 8 = .ok (.iload_n 2, 1) := by decide +kernel
theorem dX7_exchange_9 : decode cX7_exchange 9 = .ok (.invokevirtual 25, 3) := by decide +kernel
theorem dX7_exchange_12 : decode cX7_exchange 12 = .ok (.iload_n 3, 1) := by decide +kernel
theorem dX7_exchange_13 : decode cX7_exchange 13 = .ok (.ireturn, 1) := by decide +kernel
theorem dX7_merge_0 : decode cX7_merge 0 = .ok (.iload_n 1, 1) := by decide +kernel
theorem dX7_merge_1 : decode cX7_merge 1 = .ok (.ifCond .lt 12, 3) := by decide +kernel
theorem dX7_merge_4 : decode cX7_merge 4 = .ok (.iload_n 1, 1) := by decide +kernel
theorem dX7_merge_5 : decode cX7_merge 5 = .ok (.aload_n 0, 1) := by decide +kernel
theorem dX7_merge_6 : decode cX7_merge 6 = .ok (.getfield 9, 3) := by decide +kernel
theorem dX7_merge_9 : decode cX7_merge 9 = .ok (.arraylength, 1) := by decide +kernel
theorem dX7_merge_10 : decode cX7_merge 10 = .ok (.if_icmp .lt 5, 3) := by decide +kernel
theorem dX7_merge_13 : decode cX7_merge 13 = .ok (.iconst 0, 1) := by decide +kernel
theorem dX7_merge_14 : decode cX7_merge 14 = .ok (.ireturn, 1) := by decide +kernel
theorem dX7_merge_15 : decode cX7_merge 15 = .ok (.aload_n 0, 1) := by decide +kernel
theorem dX7_merge_16 : decode cX7_merge 16 = .ok (.getfield 9, 3) := by decide +kernel
theorem dX7_merge_19 : decode cX7_merge 19 = .ok (.iload_n 1, 1) := by decide +kernel
theorem dX7_merge_20 : decode cX7_merge 20 = .ok (.iaload, 1) := by decide +kernel
theorem dX7_merge_21 : decode cX7_merge 21 = .ok (.istore_n 3, 1) := by decide +kernel
theorem dX7_merge_22 : decode cX7_merge 22 = .ok (.aload_n 0, 1) := by decide +kernel
theorem dX7_merge_23 : decode cX7_merge 23 = .ok (.getfield 9, 3) := by decide +kernel
theorem dX7_merge_26 : decode cX7_merge 26 = .ok (.iload_n 1, 1) := by decide +kernel
theorem dX7_merge_27 : decode cX7_merge 27 = .ok (.iload_n 3, 1) := by decide +kernel
theorem dX7_merge_28 : decode cX7_merge 28 = .ok (.iload_n 2, 1) := by decide +kernel
theorem dX7_merge_29 : decode cX7_merge 29 = .ok (.ior, 1) := by decide +kernel
theorem dX7_merge_30 : decode cX7_merge 30 = .ok (.iastore, 1) := by decide +kernel
theorem dX7_merge_31 : decode cX7_merge 31 = .ok (.aload_n 0, 1) := by decide +kernel
theorem dX7_merge_32 : decode cX7_merge 32 = .ok (.getfield 9, 3) := by decide +kernel
theorem dX7_merge_35 : decode cX7_merge 35 = .ok (.iload_n 1, 1) := by decide +kernel
theorem dX7_merge_36 : decode cX7_merge 36 = .ok (.iaload, 1) := by decide +kernel
theorem dX7_merge_37 : decode cX7_merge 37 = .ok (.iload_n 3, 1) := by decide +kernel
theorem dX7_merge_38 : decode cX7_merge 38 = .ok (.if_icmp .eq 7, 3) := by decide +kernel
theorem dX7_merge_41 : decode cX7_merge 41 = .ok (.iconst 1, 1) := by decide +kernel
theorem dX7_merge_42 : decode cX7_merge 42 = .ok (.goto 4, 3) := by decide +kernel
theorem dX7_merge_45 : decode cX7_merge 45 = .ok (.iconst 0, 1) := by decide +kernel
theorem dX7_merge_46 : decode cX7_merge 46 = .ok (.ireturn, 1) := by decide +kernel
theorem dX7_fill_0 : decode cX7_fill 0 = .ok (.aload_n 0, 1) := by decide +kernel
theorem dX7_fill_1 : decode cX7_fill 1 = .ok (.getfield 9, 3) := by decide +kernel
theorem dX7_fill_4 : decode cX7_fill 4 = .ok (.iload_n 1, 1) := by decide +kernel
theorem dX7_fill_5 : decode cX7_fill 5 = .ok (.invokestatic 15, 3) := by decide +kernel
theorem dX7_fill_8 : decode cX7_fill 8 = .ok (.return_, 1) := by decide +kernel
theorem dX7_copy_0 : decode cX7_copy 0 = .ok (.iconst 0, 1) := by decide +kernel
theorem dX7_copy_1 : decode cX7_copy 1 = .ok (.istore_n 2, 1) := by decide +kernel
theorem dX7_copy_2 : decode cX7_copy 2 = .ok (.iload_n 2, 1) := by decide +kernel
theorem dX7_copy_3 : decode cX7_copy 3 = .ok (.aload_n 0, 1) := by decide +kernel
theorem dX7_copy_4 : decode cX7_copy 4 = .ok (.getfield 9, 3) := by decide +kernel
theorem dX7_copy_7 : decode cX7_copy 7 = .ok (.arraylength, 1) := by decide +kernel
theorem dX7_copy_8 : decode cX7_copy 8 = .ok (.if_icmp .ge 20, 3) := by decide +kernel
theorem dX7_copy_11 : decode cX7_copy 11 = .ok (.aload_n 0, 1) := by decide +kernel
theorem dX7_copy_12 : decode cX7_copy 12 = .ok (.getfield 9, 3) := by decide +kernel
theorem dX7_copy_15 : decode cX7_copy 15 = .ok (.iload_n 2, 1) := by decide +kernel
theorem dX7_copy_16 : decode cX7_copy 16 = .ok (.aload_n 1, 1) := by decide +kernel
theorem dX7_copy_17 : decode cX7_copy 17 = .ok (.iload_n 2, 1) := by decide +kernel
theorem dX7_copy_18 : decode cX7_copy 18 = .ok (.invokevirtual 21, 3) := by decide +kernel
theorem dX7_copy_21 : decode cX7_copy 21 = .ok (.iastore, 1) := by decide +kernel
theorem dX7_copy_22 : decode cX7_copy 22 = .ok (.iinc 2 1, 3) := by decide +kernel
theorem dX7_copy_25 : decode cX7_copy 25 = .ok (.goto (-23), 3) := by decide +kernel
theorem dX7_copy_28 : decode cX7_copy 28 = .ok (.return_, 1) := by decide +kernel
theorem dX7_count_0 : decode cX7_count 0 = .ok (.iconst 0, 1) := by decide +kernel
theorem dX7_count_1 : decode cX7_count 1 = .ok (.istore_n 2, 1) := by decide +kernel
theorem dX7_count_2 : decode cX7_count 2 = .ok (.iconst 0, 1) := by decide +kernel
theorem dX7_count_3 : decode cX7_count 3 = .ok (.istore_n 3, 1) := by decide +kernel
theorem dX7_count_4 : decode cX7_count 4 = .ok (.iload_n 3, 1) := by decide +kernel
theorem dX7_count_5 : decode cX7_count 5 = .ok (.aload_n 0, 1) := by decide +kernel
theorem dX7_count_6 : decode cX7_count 6 = .ok (.getfield 9, 3) := by decide +kernel
theorem dX7_count_9 : decode cX7_count 9 = .ok (.arraylength, 1) := by decide +kernel
theorem dX7_count_10 : decode cX7_count 10 = .ok (.if_icmp .ge 22, 3) := by decide +kernel
theorem dX7_count_13 : decode cX7_count 13 = .ok (.aload_n 0, 1) := by decide +kernel
theorem dX7_count_14 : decode cX7_count 14 = .ok (.getfield 9, 3) := by decide +kernel
theorem dX7_count_17 : decode cX7_count 17 = .ok (.iload_n 3, 1) := by decide +kernel
theorem dX7_count_18 : decode cX7_count 18 = .ok (.iaload, 1) := by decide +kernel
theorem dX7_count_19 : decode cX7_count 19 = .ok (.iload_n 1, 1) := by decide +kernel
theorem dX7_count_20 : decode cX7_count 20 = .ok (.if_icmp .ne 6, 3) := by decide +kernel
theorem dX7_count_23 : decode cX7_count 23 = .ok (.iinc 2 1, 3) := by decide +kernel
theorem dX7_count_26 : decode cX7_count 26 = .ok (.iinc 3 1, 3) := by decide +kernel
theorem dX7_count_29 : decode cX7_count 29 = .ok (.goto (-25), 3) := by decide +kernel
theorem dX7_count_32 : decode cX7_count 32 = .ok (.iload_n 2, 1) := by decide +kernel
theorem dX7_count_33 : decode cX7_count 33 = .ok (.ireturn, 1) := by decide +kernel
theorem dX8_init_0 : decode cX8_init 0 = .ok (.aload_n 0, 1) := by decide +kernel
theorem dX8_init_1 : decode cX8_init 1 = .ok (.invokespecial 3, 3) := by decide +kernel
theorem dX8_init_4 : decode cX8_init 4 = .ok (.aload_n 0, 1) := by decide +kernel
theorem dX8_init_5 : decode cX8_init 5 = .ok (.new 9, 3) := by decide +kernel
theorem dX8_init_8 : decode cX8_init 8 = .ok (.dup, 1) := by decide +kernel
theorem dX8_init_9 : decode cX8_init 9 = .ok (.bipush 6, 2) := by decide +kernel
theorem dX8_init_11 : decode cX8_init 11 = .ok (.iconst (-1), 1) := by decide +kernel
theorem dX8_init_12 : decode cX8_init 12 = .ok (.invokespecial 11, 3) := by decide +kernel
theorem dX8_init_15 : decode cX8_init 15 = .ok (.putfield 14, 3) := by decide +kernel
theorem dX8_init_18 : decode cX8_init 18 = .ok (.aload_n 0, 1) := by decide +kernel
theorem dX8_init_19 : decode cX8_init 19 = .ok (.new 9, 3) := by decide +kernel
theorem dX8_init_22 : decode cX8_init 22 = .ok (.dup, 1) := by decide +kernel
theorem dX8_init_23 : decode cX8_init 23 = .ok (.bipush 30, 2) := by decide +kernel
theorem dX8_init_25 : decode cX8_init 25 = .ok (.iconst (-1), 1) := by decide +kernel
theorem dX8_init_26 : decode cX8_init 26 = .ok (.invokespecial 11, 3) := by decide +kernel
theorem dX8_init_29 : decode cX8_init 29 = .ok (.putfield 20, 3) := by decide +kernel
theorem dX8_init_32 : decode cX8_init 32 = .ok (.aload_n 0, 1) := by decide +kernel
theorem dX8_init_33 : decode cX8_init 33 = .ok (.new 9, 3) := by decide +kernel
theorem dX8_init_36 : decode cX8_init 36 = .ok (.dup, 1) := by decide +kernel
theorem dX8_init_37 : decode cX8_init 37 = .ok (.bipush 6, 2) := by decide +kernel
theorem dX8_init_39 : decode cX8_init 39 = .ok (.iconst 0, 1) := by decide +kernel
theorem dX8_init_40 : decode cX8_init 40 = .ok (.invokespecial 11, 3) := by decide +kernel
theorem dX8_init_43 : decode cX8_init 43 = .ok (.putfield 23, 3) := by decide +kernel
theorem dX8_init_46 : decode cX8_init 46 = .ok (.aload_n 0, 1) := by decide +kernel
theorem dX8_init_47 : decode cX8_init 47 = .ok (.new 9, 3) := by decide +kernel
theorem dX8_init_50 : decode cX8_init 50 = .ok (.dup, 1) := by decide +kernel
theorem dX8_init_51 : decode cX8_init 51 = .ok (.bipush 6, 2) := by decide +kernel
theorem dX8_init_53 : decode cX8_init 53 = .ok (.iconst 0, 1) := by decide +kernel
theorem dX8_init_54 : decode cX8_init 54 = .ok (.invokespecial 11, 3) := by decide +kernel
theorem dX8_init_57 : decode cX8_init 57 = .ok (.putfield 26, 3) := by decide +kernel
theorem dX8_init_60 : decode cX8_init 60 = .ok (.aload_n 0, 1) := by decide +kernel
theorem dX8_init_61 : decode cX8_init 61 = .ok (.aload_n 1, 1) := by decide +kernel
theorem dX8_init_62 : decode cX8_init 62 = .ok (.putfield 29, 3) := by decide +kernel
theorem dX8_init_65 : decode cX8_init 65 = .ok (.aload_n 0, 1) := by decide +kernel
theorem dX8_init_66 : decode cX8_init 66 = .ok (.aload_n 2, 1) := by decide +kernel
theorem dX8_init_67 : decode cX8_init 67 = .ok (.putfield 33, 3) := by decide +kernel
theorem dX8_init_70 : decode cX8_init 70 = .ok (.aload_n 0, 1) := by decide +kernel
theorem dX8_init_71 : decode cX8_init 71 = .ok (.new 37, 3) := by decide +kernel
theorem dX8_init_74 : decode cX8_init 74 = .ok (.dup, 1) := by decide +kernel
theorem dX8_init_75 : decode cX8_init 75 = .ok (.aload_n 1, 1) := by decide +kernel
theorem dX8_init_76 : decode cX8_init 76 = .ok (.invokespecial 39, 3) := by decide +kernel
theorem dX8_init_79 : decode cX8_init 79 = .ok (.putfield 42, 3) := by decide +kernel
theorem dX8_init_82 : decode cX8_init 82 = .ok (.return_, 1) := by decide +kernel
theorem dX8_findBest_0 : decode cX8_findBest 0 = .ok (.aload_n 0, 1) := by decide +kernel
theorem dX8_findBest_1 : decode cX8_findBest 1 = .ok (.aload_n 0, 1) := by decide +kernel
theorem dX8_findBest_2 : decode cX8_findBest 2 = .ok (.getfield 33, 3) := by decide +kernel
theorem dX8_findBest_5 : decode cX8_findBest 5 = .ok (.invokevirtual 46, 3) := by decide +kernel
theorem dX8_findBest_8 : decode cX8_findBest 8 = .ok (.iconst (-1), 1) := by decide +kernel
theorem dX8_findBest_9 : decode cX8_findBest 9 = .ok (.invokevirtual 52, 3) := by decide +kernel
theorem dX8_findBest_12 : decode cX8_findBest 12 = .ok (.aload_n 0, 1) := by decide +kernel
theorem dX8_findBest_13 : decode cX8_findBest 13 = .ok (.getfield 14, 3) := by decide +kernel
theorem dX8_findBest_16 : decode cX8_findBest 16 = .ok (.iconst (-1), 1) := by decide +kernel
theorem dX8_findBest_17 : decode cX8_findBest 17 = .ok (.invokevirtual 55, 3) := by decide +kernel
theorem dX8_findBest_20 : decode cX8_findBest 20 = .ok (.iconst 0, 1) := by decide +kernel
theorem dX8_findBest_21 : decode cX8_findBest 21 = .ok (.istore_n 1, 1) := by decide +kernel
theorem dX8_findBest_22 : decode cX8_findBest 22 = .ok (.iconst 0, 1) := by decide +kernel
theorem dX8_findBest_23 : decode cX8_findBest 23 = .ok (.istore_n 2, 1) := by decide +kernel
theorem dX8_findBest_24 : decode cX8_findBest 24 = .ok (.iload_n 2, 1) := by decide +kernel
theorem dX8_findBest_25 : decode cX8_findBest 25 = .ok (.bipush 6, 2) := by decide +kernel
theorem dX8_findBest_27 : decode cX8_findBest 27 = .ok (.if_icmp .gt 50, 3) := by decide +kernel
theorem dX8_findBest_30 : decode cX8_findBest 30 = .ok (.aload_n 0, 1) := by decide +kernel
theorem dX8_findBest_31 : decode cX8_findBest 31 = .ok (.invokevirtual 59, 3) := by decide +kernel
theorem dX8_findBest_34 : decode cX8_findBest 34 = .ok (.ifCond .eq 43, 3) := by decide +kernel
theorem dX8_findBest_37 : decode cX8_findBest 37 = .ok (.aload_n 0, 1) := by decide +kernel
theorem dX8_findBest_38 : decode cX8_findBest 38 = .ok (.getfield 14, 3) := by decide +kernel
theorem dX8_findBest_41 : decode cX8_findBest 41 = .ok (.aload_n 0, 1) := by decide +kernel
theorem dX8_findBest_42 : decode cX8_findBest 42 = .ok (.getfield 42, 3) := by decide +kernel
theorem dX8_findBest_45 : decode cX8_findBest 45 = .ok (.getfield 63, 3) := by decide +kernel
theorem dX8_findBest_48 : decode cX8_findBest 48 = .ok (.invokevirtual 66, 3) := by decide +kernel
theorem dX8_findBest_51 : decode cX8_findBest 51 = .ok (.iconst 1, 1) := by decide +kernel
theorem dX8_findBest_52 : decode cX8_findBest 52 = .ok (.istore_n 1, 1) := by decide +kernel
theorem dX8_findBest_53 : decode cX8_findBest 53 = .ok (.aload_n 0, 1) := by decide +kernel
theorem dX8_findBest_54 : decode cX8_findBest 54 = .ok (.aload_n 0, 1) := by decide +kernel
theorem dX8_findBest_55 : decode cX8_findBest 55 = .ok (.getfield 33, 3) := by decide +kernel
theorem dX8_findBest_58 : decode cX8_findBest 58 = .ok (.aload_n 0, 1) := by decide +kernel
theorem dX8_findBest_59 : decode cX8_findBest 59 = .ok (.getfield 14, 3) := by decide +kernel
theorem dX8_findBest_62 : decode cX8_findBest 62 = .ok (.iconst 5, 1) := by decide +kernel
theorem dX8_findBest_63 : decode cX8_findBest 63 = .ok (.invokevirtual 70, 3) := by decide +kernel
theorem dX8_findBest_66 : decode cX8_findBest 66 = .ok (.iconst 1, 1) := by decide +kernel
theorem dX8_findBest_67 : decode cX8_findBest 67 = .ok (.isub, 1) := by decide +kernel
theorem dX8_findBest_68 : decode cX8_findBest 68 = .ok (.putfield 74, 3) := by decide +kernel
theorem dX8_findBest_71 : decode cX8_findBest 71 = .ok (.iinc 2 1, 3) := by decide +kernel
theorem dX8_findBest_74 : decode cX8_findBest 74 = .ok (.goto (-50), 3) := by decide +kernel
theorem dX8_findBest_77 : decode cX8_findBest 77 = .ok (.iload_n 1, 1) := by decide +kernel
theorem dX8_findBest_78 : decode cX8_findBest 78 = .ok (.ireturn, 1) := by decide +kernel
theorem dX8_bestFeatures_0 : decode cX8_bestFeatures 0 = .ok (.aload_n 0, 1) := by decide +kernel
theorem dX8_bestFeatures_1 : decode cX8_bestFeatures 1 = .ok (.getfield 42, 3) := by decide +kernel
theorem dX8_bestFeatures_4 : decode cX8_bestFeatures 4 = .ok (.getfield 63, 3) := by decide +kernel
theorem dX8_bestFeatures_7 : decode cX8_bestFeatures 7 = .ok (.aload_n 0, 1) := by decide +kernel
theorem dX8_bestFeatures_8 : decode cX8_bestFeatures 8 = .ok (.getfield 14, 3) := by decide +kernel
theorem dX8_bestFeatures_11 : decode cX8_bestFeatures 11 = .ok (.invokevirtual 66, 3) := by decide +kernel
theorem dX8_bestFeatures_14 : decode cX8_bestFeatures 14 = .ok (.aload_n 0, 1) := by decide +kernel
theorem dX8_bestFeatures_15 : decode cX8_bestFeatures 15 = .ok (.getfield 42, 3) := by decide +kernel
theorem dX8_bestFeatures_18 : decode cX8_bestFeatures 18 = .ok (.aload_n 0, 1) := by decide +kernel
theorem dX8_bestFeatures_19 : decode cX8_bestFeatures 19 = .ok (.getfield 78, 3) := by decide +kernel
theorem dX8_bestFeatures_22 : decode cX8_bestFeatures 22 = .ok (.invokevirtual 80, 3) := by decide +kernel
theorem dX8_bestFeatures_25 : decode cX8_bestFeatures 25 = .ok (.aload_n 0, 1) := by decide +kernel
theorem dX8_bestFeatures_26 : decode cX8_bestFeatures 26 = .ok (.getfield 42, 3) := by decide +kernel
theorem dX8_bestFeatures_29 : decode cX8_bestFeatures 29 = .ok (.getfield 83, 3) := by decide +kernel
theorem dX8_bestFeatures_32 : decode cX8_bestFeatures 32 = .ok (.iload_n 1, 1) := by decide +kernel
theorem dX8_bestFeatures_33 : decode cX8_bestFeatures 33 = .ok (.invokevirtual 86, 3) := by decide +kernel
theorem dX8_bestFeatures_36 : decode cX8_bestFeatures 36 = .ok (.ireturn, 1) := by decide +kernel
theorem dX8_isSolvable_0 : decode cX8_isSolvable 0 = .ok (.aload_n 0, 1) := by decide +kernel
theorem dX8_isSolvable_1 : decode cX8_isSolvable 1 = .ok (.iload_n 1, 1) := by decide +kernel
theorem dX8_isSolvable_2 : decode cX8_isSolvable 2 = .ok (.iconst (-1), 1) := by decide +kernel
theorem dX8_isSolvable_3 : decode cX8_isSolvable 3 = .ok (.invokevirtual 52, 3) := by decide +kernel
theorem dX8_isSolvable_6 : decode cX8_isSolvable 6 = .ok (.aload_n 0, 1) := by decide +kernel
theorem dX8_isSolvable_7 : decode cX8_isSolvable 7 = .ok (.invokevirtual 59, 3) := by decide +kernel
theorem dX8_isSolvable_10 : decode cX8_isSolvable 10 = .ok (.ireturn, 1) := by decide +kernel
theorem dX8_begin_0 : decode cX8_begin 0 = .ok (.aload_n 0, 1) := by decide +kernel
theorem dX8_begin_1 : decode cX8_begin 1 = .ok (.iload_n 1, 1) := by decide +kernel
theorem dX8_begin_2 : decode cX8_begin 2 = .ok (.putfield 78, 3) := by decide +kernel
theorem dX8_begin_5 : decode cX8_begin 5 = .ok (.aload_n 0, 1) := by decide +kernel
theorem dX8_begin_6 : decode cX8_begin 6 = .ok (.bipush 6, 2) := by decide +kernel
theorem dX8_begin_8 : decode cX8_begin 8 = .ok (.putfield 74, 3) := by decide +kernel
theorem dX8_begin_11 : decode cX8_begin 11 = .ok (.aload_n 0, 1) := by decide +kernel
theorem dX8_begin_12 : decode cX8_begin 12 = .ok (.iconst 0, 1) := by decide +kernel
theorem dX8_begin_13 : decode cX8_begin 13 = .ok (.putfield 90, 3) := by decide +kernel
theorem dX8_begin_16 : decode cX8_begin 16 = .ok (.aload_n 0, 1) := by decide +kernel
theorem dX8_begin_17 : decode cX8_begin 17 = .ok (.getfield 26, 3) := by decide +kernel
theorem dX8_begin_20 : decode cX8_begin 20 = .ok (.iconst 0, 1) := by decide +kernel
theorem dX8_begin_21 : decode cX8_begin 21 = .ok (.invokevirtual 55, 3) := by decide +kernel
theorem dX8_begin_24 : decode cX8_begin 24 = .ok (.aload_n 0, 1) := by decide +kernel
theorem dX8_begin_25 : decode cX8_begin 25 = .ok (.getfield 42, 3) := by decide +kernel
theorem dX8_begin_28 : decode cX8_begin 28 = .ok (.getfield 63, 3) := by decide +kernel
theorem dX8_begin_31 : decode cX8_begin 31 = .ok (.iconst (-1), 1) := by decide +kernel
theorem dX8_begin_32 : decode cX8_begin 32 = .ok (.invokevirtual 55, 3) := by decide +kernel
theorem dX8_begin_35 : decode cX8_begin 35 = .ok (.aload_n 0, 1) := by decide +kernel
theorem dX8_begin_36 : decode cX8_begin 36 = .ok (.getfield 29, 3) := by decide +kernel
theorem dX8_begin_39 : decode cX8_begin 39 = .ok (.invokevirtual 93, 3) := by decide +kernel
theorem dX8_begin_42 : decode cX8_begin 42 = .ok (.istore_n 3, 1) := by decide +kernel
theorem dX8_begin_43 : decode cX8_begin 43 = .ok (.aload_n 0, 1) := by decide +kernel
theorem dX8_begin_44 : decode cX8_begin 44 = .ok (.iload_n 3, 1) := by decide +kernel
theorem dX8_begin_45 : decode cX8_begin 45 = .ok (.invokevirtual 98, 3) := by decide +kernel
theorem dX8_begin_48 : decode cX8_begin 48 = .ok (.istore 4, 2) := by decide +kernel
theorem dX8_begin_50 : decode cX8_begin 50 = .ok (.iconst 0, 1) := by decide +kernel
theorem dX8_begin_51 : decode cX8_begin 51 = .ok (.istore 5, 2) := by decide +kernel
theorem dX8_begin_53 : decode cX8_begin 53 = .ok (.iload 5, 2) := by decide +kernel
theorem dX8_begin_55 : decode cX8_begin 55 = .ok (.bipush 6, 2) := by decide +kernel
theorem dX8_begin_57 : decode cX8_begin 57 = .ok (.if_icmp .ge 31, 3) := by decide +kernel
theorem dX8_begin_60 : decode cX8_begin 60 = .ok (.aload_n 0, 1) := by decide +kernel
theorem dX8_begin_61 : decode cX8_begin 61 = .ok (.iload 5, 2) := by decide +kernel
theorem dX8_begin_63 : decode cX8_begin 63 = .ok (.iload 4, 2) := by decide +kernel
theorem dX8_begin_65 : decode cX8_begin 65 = .ok (.iload 5, 2) := by decide +kernel
theorem dX8_begin_67 : decode cX8_begin 67 = .ok (.invokestatic 101, 3) := by decide +kernel
theorem dX8_begin_70 : decode cX8_begin 70 = .ok (.ifCond .eq 7, 3) := by decide +kernel
theorem dX8_begin_73 : decode cX8_begin 73 = .ok (.iload_n 3, 1) := by decide +kernel
theorem dX8_begin_74 : decode cX8_begin 74 = .ok (.goto 4, 3) := by decide +kernel
theorem dX8_begin_77 : decode cX8_begin 77 = .ok (.iconst 0, 1) := by decide +kernel
theorem dX8_begin_78 : decode cX8_begin 78 = .ok (.iload_n 2, 1) := by decide +kernel
theorem dX8_begin_79 : decode cX8_begin 79 = .ok (.invokevirtual 105, 3) := by decide +kernel
theorem dX8_begin_82 : decode cX8_begin 82 = .ok (.iinc 5 1, 3) := by decide +kernel
theorem dX8_begin_85 : decode cX8_begin 85 = .ok (.goto (-32), 3) := by decide +kernel
theorem dX8_begin_88 : decode cX8_begin 88 = .ok (.return_, 1) := by decide +kernel
theorem dX8_offerAll_0 : decode cX8_offerAll 0 = .ok (.aload_n 0, 1) := by decide +kernel
theorem dX8_offerAll_1 : decode cX8_offerAll 1 = .ok (.getfield 29, 3) := by decide +kernel
theorem dX8_offerAll_4 : decode cX8_offerAll 4 = .ok (.getfield 109, 3) := by decide +kernel
theorem dX8_offerAll_7 : decode cX8_offerAll 7 = .ok (.getfield 113, 3) := by decide +kernel
theorem dX8_offerAll_10 : decode cX8_offerAll 10 = .ok (.iload_n 3, 1) := by decide +kernel
theorem dX8_offerAll_11 : decode cX8_offerAll 11 = .ok (.invokevirtual 86, 3) := by decide +kernel
theorem dX8_offerAll_14 : decode cX8_offerAll 14 = .ok (.iload_n 1, 1) := by decide +kernel
theorem dX8_offerAll_15 : decode cX8_offerAll 15 = .ok (.if_icmp .ne 7, 3) := by decide +kernel
theorem dX8_offerAll_18 : decode cX8_offerAll 18 = .ok (.iconst 1, 1) := by decide +kernel
theorem dX8_offerAll_19 : decode cX8_offerAll 19 = .ok (.goto 4, 3) := by decide +kernel
theorem dX8_offerAll_22 : decode cX8_offerAll 22 = .ok (.iconst 0, 1) := by decide +kernel
theorem dX8_offerAll_23 : decode cX8_offerAll 23 = .ok (.istore 4, 2) := by decide +kernel
theorem dX8_offerAll_25 : decode cX8_offerAll 25 = .ok (.aload_n 0, 1) := by decide +kernel
theorem dX8_offerAll_26 : decode cX8_offerAll 26 = .ok (.getfield 23, 3) := by decide +kernel
theorem dX8_offerAll_29 : decode cX8_offerAll 29 = .ok (.iload_n 1, 1) := by decide +kernel
theorem dX8_offerAll_30 : decode cX8_offerAll 30 = .ok (.iconst 0, 1) := by decide +kernel
theorem dX8_offerAll_31 : decode cX8_offerAll 31 = .ok (.invokevirtual 118, 3) := by decide +kernel
theorem dX8_offerAll_34 : decode cX8_offerAll 34 = .ok (.iconst 0, 1) := by decide +kernel
theorem dX8_offerAll_35 : decode cX8_offerAll 35 = .ok (.istore 5, 2) := by decide +kernel
theorem dX8_offerAll_37 : decode cX8_offerAll 37 = .ok (.iload 5, 2) := by decide +kernel
theorem dX8_offerAll_39 : decode cX8_offerAll 39 = .ok (.iconst 4, 1) := by decide +kernel
theorem dX8_offerAll_40 : decode cX8_offerAll 40 = .ok (.if_icmp .ge 67, 3) := by decide +kernel
theorem dX8_offerAll_43 : decode cX8_offerAll 43 = .ok (.aload_n 0, 1) := by decide +kernel
theorem dX8_offerAll_44 : decode cX8_offerAll 44 = .ok (.getfield 29, 3) := by decide +kernel
theorem dX8_offerAll_47 : decode cX8_offerAll 47 = .ok (.getfield 109, 3) := by decide +kernel
theorem dX8_offerAll_50 : decode cX8_offerAll 50 = .ok (.iload_n 1, 1) := by decide +kernel
theorem dX8_offerAll_51 : decode cX8_offerAll 51 = .ok (.iload 5, 2) := by decide +kernel
theorem dX8_offerAll_53 : decode cX8_offerAll 53 = .ok (.invokevirtual 121, 3) := by decide +kernel
theorem dX8_offerAll_56 : decode cX8_offerAll 56 = .ok (.istore 6, 2) := by decide +kernel
theorem dX8_offerAll_58 : decode cX8_offerAll 58 = .ok (.iload_n 2, 1) := by decide +kernel
theorem dX8_offerAll_59 : decode cX8_offerAll 59 = .ok (.iload 6, 2) := by decide +kernel
theorem dX8_offerAll_61 : decode cX8_offerAll 61 = .ok (.invokestatic 101, 3) := by decide +kernel
theorem dX8_offerAll_64 : decode cX8_offerAll 64 = .ok (.ifCond .eq 37, 3) := by decide +kernel
theorem dX8_offerAll_67 : decode cX8_offerAll 67 = .ok (.iload 4, 2) := by decide +kernel
theorem dX8_offerAll_69 : decode cX8_offerAll 69 = .ok (.ifCond .eq 9, 3) := by decide +kernel
theorem dX8_offerAll_72 : decode cX8_offerAll 72 = .ok (.iload 6, 2) := by decide +kernel
theorem dX8_offerAll_74 : decode cX8_offerAll 74 = .ok (.iload_n 3, 1) := by decide +kernel
theorem dX8_offerAll_75 : decode cX8_offerAll 75 = .ok (.if_icmp .ne 26, 3) := by decide +kernel
theorem dX8_offerAll_78 : decode cX8_offerAll 78 = .ok (.aload_n 0, 1) := by decide +kernel
theorem dX8_offerAll_79 : decode cX8_offerAll 79 = .ok (.getfield 29, 3) := by decide +kernel
theorem dX8_offerAll_82 : decode cX8_offerAll 82 = .ok (.aload_n 0, 1) := by decide +kernel
theorem dX8_offerAll_83 : decode cX8_offerAll 83 = .ok (.getfield 78, 3) := by decide +kernel
theorem dX8_offerAll_86 : decode cX8_offerAll 86 = .ok (.iload 6, 2) := by decide +kernel
theorem dX8_offerAll_88 : decode cX8_offerAll 88 = .ok (.invokevirtual 125, 3) := by decide +kernel
theorem dX8_offerAll_91 : decode cX8_offerAll 91 = .ok (.ifCond .ne 10, 3) := by decide +kernel
theorem dX8_offerAll_94 : decode cX8_offerAll 94 = .ok (.aload_n 0, 1) := by decide +kernel
theorem dX8_offerAll_95 : decode cX8_offerAll 95 = .ok (.iload_n 1, 1) := by decide +kernel
theorem dX8_offerAll_96 : decode cX8_offerAll 96 = .ok (.iload 6, 2) := by decide +kernel
theorem dX8_offerAll_98 : decode cX8_offerAll 98 = .ok (.invokevirtual 128, 3) := by decide +kernel
theorem dX8_offerAll_101 : decode cX8_offerAll 101 = .ok (.iinc 5 1, 3) := by decide +kernel
theorem dX8_offerAll_104 : decode cX8_offerAll 104 = .ok (.goto (-67), 3) := by decide +kernel
theorem dX8_offerAll_107 : decode cX8_offerAll 107 = .ok (.iload 4, 2) := by decide +kernel
theorem dX8_offerAll_109 : decode cX8_offerAll 109 = .ok (.ifCond .ne 27, 3) := by decide +kernel
theorem dX8_offerAll_112 : decode cX8_offerAll 112 = .ok (.aload_n 0, 1) := by decide +kernel
theorem dX8_offerAll_113 : decode cX8_offerAll 113 = .ok (.getfield 29, 3) := by decide +kernel
theorem dX8_offerAll_116 : decode cX8_offerAll 116 = .ok (.aload_n 0, 1) := by decide +kernel
theorem dX8_offerAll_117 : decode cX8_offerAll 117 = .ok (.getfield 78, 3) := by decide +kernel
theorem dX8_offerAll_120 : decode cX8_offerAll 120 = .ok (.invokevirtual 131, 3) := by decide +kernel
theorem dX8_offerAll_123 : decode cX8_offerAll 123 = .ok (.iload_n 1, 1) := by decide +kernel
theorem dX8_offerAll_124 : decode cX8_offerAll 124 = .ok (.invokestatic 101, 3) := by decide +kernel
theorem dX8_offerAll_127 : decode cX8_offerAll 127 = .ok (.ifCond .ne 9, 3) := by decide +kernel
theorem dX8_offerAll_130 : decode cX8_offerAll 130 = .ok (.aload_n 0, 1) := by decide +kernel
theorem dX8_offerAll_131 : decode cX8_offerAll 131 = .ok (.iload_n 1, 1) := by decide +kernel
theorem dX8_offerAll_132 : decode cX8_offerAll 132 = .ok (.iconst (-1), 1) := by decide +kernel
theorem dX8_offerAll_133 : decode cX8_offerAll 133 = .ok (.invokevirtual 128, 3) := by decide +kernel
theorem dX8_offerAll_136 : decode cX8_offerAll 136 = .ok (.return_, 1) := by decide +kernel
theorem dX8_offer_0 : decode cX8_offer 0 = .ok (.iload_n 1, 1) := by decide +kernel
theorem dX8_offer_1 : decode cX8_offer 1 = .ok (.iconst 5, 1) := by decide +kernel
theorem dX8_offer_2 : decode cX8_offer 2 = .ok (.imul, 1) := by decide +kernel
theorem dX8_offer_3 : decode cX8_offer 3 = .ok (.aload_n 0, 1) := by decide +kernel
theorem dX8_offer_4 : decode cX8_offer 4 = .ok (.getfield 23, 3) := by decide +kernel
theorem dX8_offer_7 : decode cX8_offer 7 = .ok (.iload_n 1, 1) := by decide +kernel
theorem dX8_offer_8 : decode cX8_offer 8 = .ok (.invokevirtual 86, 3) := by decide +kernel
theorem dX8_offer_11 : decode cX8_offer 11 = .ok (.iadd, 1) := by decide +kernel
theorem dX8_offer_12 : decode cX8_offer 12 = .ok (.istore_n 3, 1) := by decide +kernel
theorem dX8_offer_13 : decode cX8_offer 13 = .ok (.iload_n 1, 1) := by decide +kernel
theorem dX8_offer_14 : decode cX8_offer 14 = .ok (.iconst 5, 1) := by decide +kernel
theorem dX8_offer_15 : decode cX8_offer 15 = .ok (.imul, 1) := by decide +kernel
theorem dX8_offer_16 : decode cX8_offer 16 = .ok (.istore 4, 2) := by decide +kernel
theorem dX8_offer_18 : decode cX8_offer 18 = .ok (.aload_n 0, 1) := by decide +kernel
theorem dX8_offer_19 : decode cX8_offer 19 = .ok (.getfield 33, 3) := by decide +kernel
theorem dX8_offer_22 : decode cX8_offer 22 = .ok (.iload_n 1, 1) := by decide +kernel
theorem dX8_offer_23 : decode cX8_offer 23 = .ok (.iload_n 2, 1) := by decide +kernel
theorem dX8_offer_24 : decode cX8_offer 24 = .ok (.invokevirtual 134, 3) := by decide +kernel
theorem dX8_offer_27 : decode cX8_offer 27 = .ok (.istore 5, 2) := by decide +kernel
theorem dX8_offer_29 : decode cX8_offer 29 = .ok (.iload_n 3, 1) := by decide +kernel
theorem dX8_offer_30 : decode cX8_offer 30 = .ok (.iload 4, 2) := by decide +kernel
theorem dX8_offer_32 : decode cX8_offer 32 = .ok (.if_icmp .le 50, 3) := by decide +kernel
theorem dX8_offer_35 : decode cX8_offer 35 = .ok (.aload_n 0, 1) := by decide +kernel
theorem dX8_offer_36 : decode cX8_offer 36 = .ok (.getfield 33, 3) := by decide +kernel
theorem dX8_offer_39 : decode cX8_offer 39 = .ok (.iload_n 1, 1) := by decide +kernel
theorem dX8_offer_40 : decode cX8_offer 40 = .ok (.aload_n 0, 1) := by decide +kernel
theorem dX8_offer_41 : decode cX8_offer 41 = .ok (.getfield 20, 3) := by decide +kernel
theorem dX8_offer_44 : decode cX8_offer 44 = .ok (.iload_n 3, 1) := by decide +kernel
theorem dX8_offer_45 : decode cX8_offer 45 = .ok (.iconst 1, 1) := by decide +kernel
theorem dX8_offer_46 : decode cX8_offer 46 = .ok (.isub, 1) := by decide +kernel
theorem dX8_offer_47 : decode cX8_offer 47 = .ok (.invokevirtual 86, 3) := by decide +kernel
theorem dX8_offer_50 : decode cX8_offer 50 = .ok (.invokevirtual 134, 3) := by decide +kernel
theorem dX8_offer_53 : decode cX8_offer 53 = .ok (.iload 5, 2) := by decide +kernel
theorem dX8_offer_55 : decode cX8_offer 55 = .ok (.if_icmp .ge 27, 3) := by decide +kernel
theorem dX8_offer_58 : decode cX8_offer 58 = .ok (.aload_n 0, 1) := by decide +kernel
theorem dX8_offer_59 : decode cX8_offer 59 = .ok (.getfield 20, 3) := by decide +kernel
theorem dX8_offer_62 : decode cX8_offer 62 = .ok (.iload_n 3, 1) := by decide +kernel
theorem dX8_offer_63 : decode cX8_offer 63 = .ok (.aload_n 0, 1) := by decide +kernel
theorem dX8_offer_64 : decode cX8_offer 64 = .ok (.getfield 20, 3) := by decide +kernel
theorem dX8_offer_67 : decode cX8_offer 67 = .ok (.iload_n 3, 1) := by decide +kernel
theorem dX8_offer_68 : decode cX8_offer 68 = .ok (.iconst 1, 1) := by decide +kernel
theorem dX8_offer_69 : decode cX8_offer 69 = .ok (.isub, 1) := by decide +kernel
theorem dX8_offer_70 : decode cX8_offer 70 = .ok (.invokevirtual 86, 3) := by decide +kernel
theorem dX8_offer_73 : decode cX8_offer 73 = .ok (.invokevirtual 118, 3) := by decide +kernel
theorem dX8_offer_76 : decode cX8_offer 76 = .ok (.iinc 3 (-1), 3) := by decide +kernel
theorem dX8_offer_79 : decode cX8_offer 79 = .ok (.goto (-50), 3) := by decide +kernel
theorem dX8_offer_82 : decode cX8_offer 82 = .ok (.aload_n 0, 1) := by decide +kernel
theorem dX8_offer_83 : decode cX8_offer 83 = .ok (.getfield 20, 3) := by decide +kernel
theorem dX8_offer_86 : decode cX8_offer 86 = .ok (.iload_n 3, 1) := by decide +kernel
theorem dX8_offer_87 : decode cX8_offer 87 = .ok (.iload_n 2, 1) := by decide +kernel
theorem dX8_offer_88 : decode cX8_offer 88 = .ok (.invokevirtual 118, 3) := by decide +kernel
theorem dX8_offer_91 : decode cX8_offer 91 = .ok (.aload_n 0, 1) := by decide +kernel
theorem dX8_offer_92 : decode cX8_offer 92 = .ok (.getfield 23, 3) := by decide +kernel
theorem dX8_offer_95 : decode cX8_offer 95 = .ok (.iload_n 1, 1) := by decide +kernel
theorem dX8_offer_96 : decode cX8_offer 96 = .ok (.aload_n 0, 1) := by decide +kernel
theorem dX8_offer_97 : decode cX8_offer 97 = .ok (.getfield 23, 3) := by decide +kernel
theorem dX8_offer_100 : decode cX8_offer 100 = .ok (.iload_n 1, 1) := by decide +kernel
theorem dX8_offer_101 : decode cX8_offer 101 = .ok (.invokevirtual 86, 3) := by decide +kernel
theorem dX8_offer_104 : decode cX8_offer 104 = .ok (.iconst 1, 1) := by decide +kernel
theorem dX8_offer_105 : decode cX8_offer 105 = .ok (.iadd, 1) := by decide +kernel
theorem dX8_offer_106 : decode cX8_offer 106 = .ok (.invokevirtual 118, 3) := by decide +kernel
theorem dX8_offer_109 : decode cX8_offer 109 = .ok (.return_, 1) := by decide +kernel
theorem dX8_reachable_0 : decode cX8_reachable 0 = .ok (.aload_n 0, 1) := by decide +kernel
theorem dX8_reachable_1 : decode cX8_reachable 1 = .ok (.getfield 29, 3) := by decide +kernel
theorem dX8_reachable_4 : decode cX8_reachable 4 = .ok (.aload_n 0, 1) := by decide +kernel
theorem dX8_reachable_5 : decode cX8_reachable 5 = .ok (.getfield 78, 3) := by decide +kernel
theorem dX8_reachable_8 : decode cX8_reachable 8 = .ok (.invokevirtual 131, 3) := by decide +kernel
theorem dX8_reachable_11 : decode cX8_reachable 11 = .ok (.istore_n 2, 1) := by decide +kernel
theorem dX8_reachable_12 : decode cX8_reachable 12 = .ok (.iconst 0, 1) := by decide +kernel
theorem dX8_reachable_13 : decode cX8_reachable 13 = .ok (.istore_n 3, 1) := by decide +kernel
theorem dX8_reachable_14 : decode cX8_reachable 14 = .ok (.iload_n 3, 1) := by decide +kernel
theorem dX8_reachable_15 : decode cX8_reachable 15 = .ok (.bipush 6, 2) := by decide +kernel
theorem dX8_reachable_17 : decode cX8_reachable 17 = .ok (.if_icmp .ge 78, 3) := by decide +kernel
theorem dX8_reachable_20 : decode cX8_reachable 20 = .ok (.iconst 0, 1) := by decide +kernel
theorem dX8_reachable_21 : decode cX8_reachable 21 = .ok (.istore 4, 2) := by decide +kernel
theorem dX8_reachable_23 : decode cX8_reachable 23 = .ok (.iload 4, 2) := by decide +kernel
theorem dX8_reachable_25 : decode cX8_reachable 25 = .ok (.aload_n 0, 1) := by decide +kernel
theorem dX8_reachable_26 : decode cX8_reachable 26 = .ok (.getfield 29, 3) := by decide +kernel
theorem dX8_reachable_29 : decode cX8_reachable 29 = .ok (.getfield 109, 3) := by decide +kernel
theorem dX8_reachable_32 : decode cX8_reachable 32 = .ok (.getfield 137, 3) := by decide +kernel
theorem dX8_reachable_35 : decode cX8_reachable 35 = .ok (.if_icmp .ge 54, 3) := by decide +kernel
theorem dX8_reachable_38 : decode cX8_reachable 38 = .ok (.iload_n 1, 1) := by decide +kernel
theorem dX8_reachable_39 : decode cX8_reachable 39 = .ok (.iload 4, 2) := by decide +kernel
theorem dX8_reachable_41 : decode cX8_reachable 41 = .ok (.invokestatic 101, 3) := by decide +kernel
theorem dX8_reachable_44 : decode cX8_reachable 44 = .ok (.ifCond .eq 39, 3) := by decide +kernel
theorem dX8_reachable_47 : decode cX8_reachable 47 = .ok (.iload_n 2, 1) := by decide +kernel
theorem dX8_reachable_48 : decode cX8_reachable 48 = .ok (.aload_n 0, 1) := by decide +kernel
theorem dX8_reachable_49 : decode cX8_reachable 49 = .ok (.getfield 29, 3) := by decide +kernel
theorem dX8_reachable_52 : decode cX8_reachable 52 = .ok (.getfield 109, 3) := by decide +kernel
theorem dX8_reachable_55 : decode cX8_reachable 55 = .ok (.getfield 113, 3) := by decide +kernel
theorem dX8_reachable_58 : decode cX8_reachable 58 = .ok (.iload 4, 2) := by decide +kernel
theorem dX8_reachable_60 : decode cX8_reachable 60 = .ok (.invokevirtual 86, 3) := by decide +kernel
theorem dX8_reachable_63 : decode cX8_reachable 63 = .ok (.invokestatic 101, 3) := by decide +kernel
theorem dX8_reachable_66 : decode cX8_reachable 66 = .ok (.ifCond .eq 17, 3) := by decide +kernel
theorem dX8_reachable_69 : decode cX8_reachable 69 = .ok (.iload_n 2, 1) := by decide +kernel
theorem dX8_reachable_70 : decode cX8_reachable 70 = .ok (.aload_n 0, 1) := by decide +kernel
theorem dX8_reachable_71 : decode cX8_reachable 71 = .ok (.getfield 29, 3) := by decide +kernel
theorem dX8_reachable_74 : decode cX8_reachable 74 = .ok (.iload 4, 2) := by decide +kernel
theorem dX8_reachable_76 : decode cX8_reachable 76 = .ok (.bipush 7, 2) := by decide +kernel
theorem dX8_reachable_78 : decode cX8_reachable 78 = .ok (.invokevirtual 140, 3) := by decide +kernel
theorem dX8_reachable_81 : decode cX8_reachable 81 = .ok (.ior, 1) := by decide +kernel
theorem dX8_reachable_82 : decode cX8_reachable 82 = .ok (.istore_n 2, 1) := by decide +kernel
theorem dX8_reachable_83 : decode cX8_reachable 83 = .ok (.iinc 4 1, 3) := by decide +kernel
theorem dX8_reachable_86 : decode cX8_reachable 86 = .ok (.goto (-63), 3) := by decide +kernel
theorem dX8_reachable_89 : decode cX8_reachable 89 = .ok (.iinc 3 1, 3) := by decide +kernel
theorem dX8_reachable_92 : decode cX8_reachable 92 = .ok (.goto (-78), 3) := by decide +kernel
theorem dX8_reachable_95 : decode cX8_reachable 95 = .ok (.iload_n 2, 1) := by decide +kernel
theorem dX8_reachable_96 : decode cX8_reachable 96 = .ok (.ireturn, 1) := by decide +kernel
theorem dX8_next_0 : decode cX8_next 0 = .ok (.iconst 0, 1) := by decide +kernel
theorem dX8_next_1 : decode cX8_next 1 = .ok (.istore_n 1, 1) := by decide +kernel
theorem dX8_next_2 : decode cX8_next 2 = .ok (.iload_n 1, 1) := by decide +kernel
theorem dX8_next_3 : decode cX8_next 3 = .ok (.ldc 143, 2) := by decide +kernel
theorem dX8_next_5 : decode cX8_next 5 = .ok (.if_icmp .ge 141, 3) := by decide +kernel
theorem dX8_next_8 : decode cX8_next 8 = .ok (.aload_n 0, 1) := by decide +kernel
theorem dX8_next_9 : decode cX8_next 9 = .ok (.getfield 90, 3) := by decide +kernel
theorem dX8_next_12 : decode cX8_next 12 = .ok (.ifCond .lt 134, 3) := by decide +kernel
theorem dX8_next_15 : decode cX8_next 15 = .ok (.aload_n 0, 1) := by decide +kernel
theorem dX8_next_16 : decode cX8_next 16 = .ok (.invokevirtual 144, 3) := by decide +kernel
theorem dX8_next_19 : decode cX8_next 19 = .ok (.ifCond .ne 16, 3) := by decide +kernel
theorem dX8_next_22 : decode cX8_next 22 = .ok (.aload_n 0, 1) := by decide +kernel
theorem dX8_next_23 : decode cX8_next 23 = .ok (.dup, 1) := by decide +kernel
theorem dX8_next_24 : decode cX8_next 24 = .ok (.getfield 90, 3) := by decide +kernel
theorem dX8_next_27 : decode cX8_next 27 = .ok (.iconst 1, 1) := by decide +kernel
theorem dX8_next_28 : decode cX8_next 28 = .ok (.isub, 1) := by decide +kernel
theorem dX8_next_29 : decode cX8_next 29 = .ok (.putfield 90, 3) := by decide +kernel
theorem dX8_next_32 : decode cX8_next 32 = .ok (.goto 108, 3) := by decide +kernel
theorem dX8_next_35 : decode cX8_next 35 = .ok (.aload_n 0, 1) := by decide +kernel
theorem dX8_next_36 : decode cX8_next 36 = .ok (.getfield 33, 3) := by decide +kernel
theorem dX8_next_39 : decode cX8_next 39 = .ok (.aload_n 0, 1) := by decide +kernel
theorem dX8_next_40 : decode cX8_next 40 = .ok (.getfield 42, 3) := by decide +kernel
theorem dX8_next_43 : decode cX8_next 43 = .ok (.getfield 63, 3) := by decide +kernel
theorem dX8_next_46 : decode cX8_next 46 = .ok (.aload_n 0, 1) := by decide +kernel
theorem dX8_next_47 : decode cX8_next 47 = .ok (.getfield 90, 3) := by decide +kernel
theorem dX8_next_50 : decode cX8_next 50 = .ok (.invokevirtual 70, 3) := by decide +kernel
theorem dX8_next_53 : decode cX8_next 53 = .ok (.aload_n 0, 1) := by decide +kernel
theorem dX8_next_54 : decode cX8_next 54 = .ok (.getfield 74, 3) := by decide +kernel
theorem dX8_next_57 : decode cX8_next 57 = .ok (.if_icmp .le 6, 3) := by decide +kernel
theorem dX8_next_60 : decode cX8_next 60 = .ok (.goto 80, 3) := by decide +kernel
theorem dX8_next_63 : decode cX8_next 63 = .ok (.aload_n 0, 1) := by decide +kernel
theorem dX8_next_64 : decode cX8_next 64 = .ok (.getfield 42, 3) := by decide +kernel
theorem dX8_next_67 : decode cX8_next 67 = .ok (.aload_n 0, 1) := by decide +kernel
theorem dX8_next_68 : decode cX8_next 68 = .ok (.getfield 78, 3) := by decide +kernel
theorem dX8_next_71 : decode cX8_next 71 = .ok (.invokevirtual 80, 3) := by decide +kernel
theorem dX8_next_74 : decode cX8_next 74 = .ok (.aload_n 0, 1) := by decide +kernel
theorem dX8_next_75 : decode cX8_next 75 = .ok (.getfield 42, 3) := by decide +kernel
theorem dX8_next_78 : decode cX8_next 78 = .ok (.aload_n 0, 1) := by decide +kernel
theorem dX8_next_79 : decode cX8_next 79 = .ok (.getfield 90, 3) := by decide +kernel
theorem dX8_next_82 : decode cX8_next 82 = .ok (.invokevirtual 147, 3) := by decide +kernel
theorem dX8_next_85 : decode cX8_next 85 = .ok (.ifCond .ne 6, 3) := by decide +kernel
theorem dX8_next_88 : decode cX8_next 88 = .ok (.goto 52, 3) := by decide +kernel
theorem dX8_next_91 : decode cX8_next 91 = .ok (.aload_n 0, 1) := by decide +kernel
theorem dX8_next_92 : decode cX8_next 92 = .ok (.getfield 90, 3) := by decide +kernel
theorem dX8_next_95 : decode cX8_next 95 = .ok (.iconst 5, 1) := by decide +kernel
theorem dX8_next_96 : decode cX8_next 96 = .ok (.if_icmp .ge 28, 3) := by decide +kernel
theorem dX8_next_99 : decode cX8_next 99 = .ok (.aload_n 0, 1) := by decide +kernel
theorem dX8_next_100 : decode cX8_next 100 = .ok (.dup, 1) := by decide +kernel
theorem dX8_next_101 : decode cX8_next 101 = .ok (.getfield 90, 3) := by decide +kernel
theorem dX8_next_104 : decode cX8_next 104 = .ok (.iconst 1, 1) := by decide +kernel
theorem dX8_next_105 : decode cX8_next 105 = .ok (.iadd, 1) := by decide +kernel
theorem dX8_next_106 : decode cX8_next 106 = .ok (.putfield 90, 3) := by decide +kernel
theorem dX8_next_109 : decode cX8_next 109 = .ok (.aload_n 0, 1) := by decide +kernel
theorem dX8_next_110 : decode cX8_next 110 = .ok (.getfield 26, 3) := by decide +kernel
theorem dX8_next_113 : decode cX8_next 113 = .ok (.aload_n 0, 1) := by decide +kernel
theorem dX8_next_114 : decode cX8_next 114 = .ok (.getfield 90, 3) := by decide +kernel
theorem dX8_next_117 : decode cX8_next 117 = .ok (.iconst 0, 1) := by decide +kernel
theorem dX8_next_118 : decode cX8_next 118 = .ok (.invokevirtual 118, 3) := by decide +kernel
theorem dX8_next_121 : decode cX8_next 121 = .ok (.goto 19, 3) := by decide +kernel
theorem dX8_next_124 : decode cX8_next 124 = .ok (.aload_n 0, 1) := by decide +kernel
theorem dX8_next_125 : decode cX8_next 125 = .ok (.getfield 42, 3) := by decide +kernel
theorem dX8_next_128 : decode cX8_next 128 = .ok (.aload_n 0, 1) := by decide +kernel
theorem dX8_next_129 : decode cX8_next 129 = .ok (.getfield 78, 3) := by decide +kernel
theorem dX8_next_132 : decode cX8_next 132 = .ok (.invokevirtual 151, 3) := by decide +kernel
theorem dX8_next_135 : decode cX8_next 135 = .ok (.ifCond .eq 5, 3) := by decide +kernel
theorem dX8_next_138 : decode cX8_next 138 = .ok (.iconst 1, 1) := by decide +kernel
theorem dX8_next_139 : decode cX8_next 139 = .ok (.ireturn, 1) := by decide +kernel
theorem dX8_next_140 : decode cX8_next 140 = .ok (.iinc 1 1, 3) := by decide +kernel
theorem dX8_next_143 : decode cX8_next 143 = .ok (.goto (-141), 3) := by decide +kernel
theorem dX8_next_146 : decode cX8_next 146 = .ok (.iconst 0, 1) := by decide +kernel
theorem dX8_next_147 : decode cX8_next 147 = .ok (.ireturn, 1) := by decide +kernel
theorem dX8_pickNext_0 : decode cX8_pickNext 0 = .ok (.aload_n 0, 1) := by decide +kernel
theorem dX8_pickNext_1 : decode cX8_pickNext 1 = .ok (.getfield 26, 3) := by decide +kernel
theorem dX8_pickNext_4 : decode cX8_pickNext 4 = .ok (.aload_n 0, 1) := by decide +kernel
theorem dX8_pickNext_5 : decode cX8_pickNext 5 = .ok (.getfield 90, 3) := by decide +kernel
theorem dX8_pickNext_8 : decode cX8_pickNext 8 = .ok (.invokevirtual 86, 3) := by decide +kernel
theorem dX8_pickNext_11 : decode cX8_pickNext 11 = .ok (.istore_n 1, 1) := by decide +kernel
theorem dX8_pickNext_12 : decode cX8_pickNext 12 = .ok (.iload_n 1, 1) := by decide +kernel
theorem dX8_pickNext_13 : decode cX8_pickNext 13 = .ok (.aload_n 0, 1) := by decide +kernel
theorem dX8_pickNext_14 : decode cX8_pickNext 14 = .ok (.getfield 23, 3) := by decide +kernel
theorem dX8_pickNext_17 : decode cX8_pickNext 17 = .ok (.aload_n 0, 1) := by decide +kernel
theorem dX8_pickNext_18 : decode cX8_pickNext 18 = .ok (.getfield 90, 3) := by decide +kernel
theorem dX8_pickNext_21 : decode cX8_pickNext 21 = .ok (.invokevirtual 86, 3) := by decide +kernel
theorem dX8_pickNext_24 : decode cX8_pickNext 24 = .ok (.if_icmp .ge 7, 3) := by decide +kernel
theorem dX8_pickNext_27 : decode cX8_pickNext 27 = .ok (.iconst 1, 1) := by decide +kernel
theorem dX8_pickNext_28 : decode cX8_pickNext 28 = .ok (.goto 4, 3) := by decide +kernel
theorem dX8_pickNext_31 : decode cX8_pickNext 31 = .ok (.iconst 0, 1) := by decide +kernel
theorem dX8_pickNext_32 : decode cX8_pickNext 32 = .ok (.istore_n 2, 1) := by decide +kernel
theorem dX8_pickNext_33 : decode cX8_pickNext 33 = .ok (.aload_n 0, 1) := by decide +kernel
theorem dX8_pickNext_34 : decode cX8_pickNext 34 = .ok (.getfield 42, 3) := by decide +kernel
theorem dX8_pickNext_37 : decode cX8_pickNext 37 = .ok (.getfield 63, 3) := by decide +kernel
theorem dX8_pickNext_40 : decode cX8_pickNext 40 = .ok (.aload_n 0, 1) := by decide +kernel
theorem dX8_pickNext_41 : decode cX8_pickNext 41 = .ok (.getfield 90, 3) := by decide +kernel
theorem dX8_pickNext_44 : decode cX8_pickNext 44 = .ok (.iload_n 2, 1) := by decide +kernel
theorem dX8_pickNext_45 : decode cX8_pickNext 45 = .ok (.ifCond .eq 21, 3) := by decide +kernel
theorem dX8_pickNext_48 : decode cX8_pickNext 48 = .ok (.aload_n 0, 1) := by decide +kernel
theorem dX8_pickNext_49 : decode cX8_pickNext 49 = .ok (.getfield 20, 3) := by decide +kernel
theorem dX8_pickNext_52 : decode cX8_pickNext 52 = .ok (.aload_n 0, 1) := by decide +kernel
theorem dX8_pickNext_53 : decode cX8_pickNext 53 = .ok (.getfield 90, 3) := by decide +kernel
theorem dX8_pickNext_56 : decode cX8_pickNext 56 = .ok (.iconst 5, 1) := by decide +kernel
theorem dX8_pickNext_57 : decode cX8_pickNext 57 = .ok (.imul, 1) := by decide +kernel
theorem dX8_pickNext_58 : decode cX8_pickNext 58 = .ok (.iload_n 1, 1) := by decide +kernel
theorem dX8_pickNext_59 : decode cX8_pickNext 59 = .ok (.iadd, 1) := by decide +kernel
theorem dX8_pickNext_60 : decode cX8_pickNext 60 = .ok (.invokevirtual 86, 3) := by decide +kernel
theorem dX8_pickNext_63 : decode cX8_pickNext 63 = .ok (.goto 4, 3) := by decide +kernel
theorem dX8_pickNext_66 : decode cX8_pickNext 66 = .ok (.iconst (-1), 1) := by decide +kernel
theorem dX8_pickNext_67 : decode cX8_pickNext 67 = .ok (.invokevirtual 118, 3) := by decide +kernel
theorem dX8_pickNext_70 : decode cX8_pickNext 70 = .ok (.aload_n 0, 1) := by decide +kernel
theorem dX8_pickNext_71 : decode cX8_pickNext 71 = .ok (.getfield 26, 3) := by decide +kernel
theorem dX8_pickNext_74 : decode cX8_pickNext 74 = .ok (.aload_n 0, 1) := by decide +kernel
theorem dX8_pickNext_75 : decode cX8_pickNext 75 = .ok (.getfield 90, 3) := by decide +kernel
theorem dX8_pickNext_78 : decode cX8_pickNext 78 = .ok (.iload_n 1, 1) := by decide +kernel
theorem dX8_pickNext_79 : decode cX8_pickNext 79 = .ok (.iconst 1, 1) := by decide +kernel
theorem dX8_pickNext_80 : decode cX8_pickNext 80 = .ok (.iadd, 1) := by decide +kernel
theorem dX8_pickNext_81 : decode cX8_pickNext 81 = .ok (.invokevirtual 118, 3) := by decide +kernel
theorem dX8_pickNext_84 : decode cX8_pickNext 84 = .ok (.iload_n 2, 1) := by decide +kernel
theorem dX8_pickNext_85 : decode cX8_pickNext 85 = .ok (.ireturn, 1) := by decide +kernel
theorem dX9_init_0 : decode cX9_init 0 = .ok (.aload_n 0, 1) := by decide +kernel
theorem dX9_init_1 : decode cX9_init 1 = .ok (.invokespecial 3, 3) := by decide +kernel
theorem dX9_init_4 : decode cX9_init 4 = .ok (.aload_n 0, 1) := by decide +kernel
theorem dX9_init_5 : decode cX9_init 5 = .ok (.new 9, 3) := by decide +kernel
theorem dX9_init_8 : decode cX9_init 8 = .ok (.dup, 1) := by decide +kernel
theorem dX9_init_9 : decode cX9_init 9 = .ok (.bipush 24, 2) := by decide +kernel
theorem dX9_init_11 : decode cX9_init 11 = .ok (.iconst (-1), 1) := by decide +kernel
theorem dX9_init_12 : decode cX9_init 12 = .ok (.invokespecial 11, 3) := by decide +kernel
theorem dX9_init_15 : decode cX9_init 15 = .ok (.putfield 14, 3) := by decide +kernel
theorem dX9_init_18 : decode cX9_init 18 = .ok (.aload_n 0, 1) := by decide +kernel
theorem dX9_init_19 : decode cX9_init 19 = .ok (.new 9, 3) := by decide +kernel
theorem dX9_init_22 : decode cX9_init 22 = .ok (.dup, 1) := by decide +kernel
theorem dX9_init_23 : decode cX9_init 23 = .ok (.bipush 24, 2) := by decide +kernel
theorem dX9_init_25 : decode cX9_init 25 = .ok (.iconst (-1), 1) := by decide +kernel
theorem dX9_init_26 : decode cX9_init 26 = .ok (.invokespecial 11, 3) := by decide +kernel
theorem dX9_init_29 : decode cX9_init 29 = .ok (.putfield 20, 3) := by decide +kernel
theorem dX9_init_32 : decode cX9_init 32 = .ok (.aload_n 0, 1) := by decide +kernel
theorem dX9_init_33 : decode cX9_init 33 = .ok (.new 9, 3) := by decide +kernel
theorem dX9_init_36 : decode cX9_init 36 = .ok (.dup, 1) := by decide +kernel
theorem dX9_init_37 : decode cX9_init 37 = .ok (.bipush 24, 2) := by decide +kernel
theorem dX9_init_39 : decode cX9_init 39 = .ok (.iconst (-1), 1) := by decide +kernel
theorem dX9_init_40 : decode cX9_init 40 = .ok (.invokespecial 11, 3) := by decide +kernel
theorem dX9_init_43 : decode cX9_init 43 = .ok (.putfield 23, 3) := by decide +kernel
theorem dX9_init_46 : decode cX9_init 46 = .ok (.aload_n 0, 1) := by decide +kernel
theorem dX9_init_47 : decode cX9_init 47 = .ok (.new 9, 3) := by decide +kernel
theorem dX9_init_50 : decode cX9_init 50 = .ok (.dup, 1) := by decide +kernel
theorem dX9_init_51 : decode cX9_init 51 = .ok (.bipush 24, 2) := by decide +kernel
theorem dX9_init_53 : decode cX9_init 53 = .ok (.bipush 7, 2) := by decide +kernel
theorem dX9_init_55 : decode cX9_init 55 = .ok (.invokespecial 11, 3) := by decide +kernel
theorem dX9_init_58 : decode cX9_init 58 = .ok (.putfield 26, 3) := by decide +kernel
theorem dX9_init_61 : decode cX9_init 61 = .ok (.aload_n 0, 1) := by decide +kernel
theorem dX9_init_62 : decode cX9_init 62 = .ok (.new 9, 3) := by decide +kernel
theorem dX9_init_65 : decode cX9_init 65 = .ok (.dup, 1) := by decide +kernel
theorem dX9_init_66 : decode cX9_init 66 = .ok (.bipush 72, 2) := by decide +kernel
theorem dX9_init_68 : decode cX9_init 68 = .ok (.iconst 0, 1) := by decide +kernel
theorem dX9_init_69 : decode cX9_init 69 = .ok (.invokespecial 11, 3) := by decide +kernel
theorem dX9_init_72 : decode cX9_init 72 = .ok (.putfield 29, 3) := by decide +kernel
theorem dX9_init_75 : decode cX9_init 75 = .ok (.aload_n 0, 1) := by decide +kernel
theorem dX9_init_76 : decode cX9_init 76 = .ok (.new 9, 3) := by decide +kernel
theorem dX9_init_79 : decode cX9_init 79 = .ok (.dup, 1) := by decide +kernel
theorem dX9_init_80 : decode cX9_init 80 = .ok (.bipush 24, 2) := by decide +kernel
theorem dX9_init_82 : decode cX9_init 82 = .ok (.iconst (-1), 1) := by decide +kernel
theorem dX9_init_83 : decode cX9_init 83 = .ok (.invokespecial 11, 3) := by decide +kernel
theorem dX9_init_86 : decode cX9_init 86 = .ok (.putfield 32, 3) := by decide +kernel
theorem dX9_init_89 : decode cX9_init 89 = .ok (.aload_n 0, 1) := by decide +kernel
theorem dX9_init_90 : decode cX9_init 90 = .ok (.new 9, 3) := by decide +kernel
theorem dX9_init_93 : decode cX9_init 93 = .ok (.dup, 1) := by decide +kernel
theorem dX9_init_94 : decode cX9_init 94 = .ok (.bipush 6, 2) := by decide +kernel
theorem dX9_init_96 : decode cX9_init 96 = .ok (.iconst 0, 1) := by decide +kernel
theorem dX9_init_97 : decode cX9_init 97 = .ok (.invokespecial 11, 3) := by decide +kernel
theorem dX9_init_100 : decode cX9_init 100 = .ok (.putfield 35, 3) := by decide +kernel
theorem dX9_init_103 : decode cX9_init 103 = .ok (.return_, 1) := by decide +kernel
theorem dX9_isFull_0 : decode cX9_isFull 0 = .ok (.aload_n 0, 1) := by decide +kernel
theorem dX9_isFull_1 : decode cX9_isFull 1 = .ok (.getfield 35, 3) := by decide +kernel
theorem dX9_isFull_4 : decode cX9_isFull 4 = .ok (.iload_n 1, 1) := by decide +kernel
theorem dX9_isFull_5 : decode cX9_isFull 5 = .ok (.invokevirtual 38, 3) := by decide +kernel
theorem dX9_isFull_8 : decode cX9_isFull 8 = .ok (.iconst 4, 1) := by decide +kernel
theorem dX9_isFull_9 : decode cX9_isFull 9 = .ok (.if_icmp .ge 12, 3) := by decide +kernel
theorem dX9_isFull_12 : decode cX9_isFull 12 = .ok (.aload_n 0, 1) := by decide +kernel
theorem dX9_isFull_13 : decode cX9_isFull 13 = .ok (.getfield 42, 3) := by decide +kernel
theorem dX9_isFull_16 : decode cX9_isFull 16 = .ok (.bipush 24, 2) := by decide +kernel
theorem dX9_isFull_18 : decode cX9_isFull 18 = .ok (.if_icmp .lt 7, 3) := by decide +kernel
theorem dX9_isFull_21 : decode cX9_isFull 21 = .ok (.iconst 1, 1) := by decide +kernel
theorem dX9_isFull_22 : decode cX9_isFull 22 = .ok (.goto 4, 3) := by decide +kernel
theorem dX9_isFull_25 : decode cX9_isFull 25 = .ok (.iconst 0, 1) := by decide +kernel
theorem dX9_isFull_26 : decode cX9_isFull 26 = .ok (.ireturn, 1) := by decide +kernel
theorem dX9_hasRank_0 : decode cX9_hasRank 0 = .ok (.iconst 0, 1) := by decide +kernel
theorem dX9_hasRank_1 : decode cX9_hasRank 1 = .ok (.istore_n 3, 1) := by decide +kernel
theorem dX9_hasRank_2 : decode cX9_hasRank 2 = .ok (.iload_n 3, 1) := by decide +kernel
theorem dX9_hasRank_3 : decode cX9_hasRank 3 = .ok (.iconst 4, 1) := by decide +kernel
theorem dX9_hasRank_4 : decode cX9_hasRank 4 = .ok (.if_icmp .ge 28, 3) := by decide +kernel
theorem dX9_hasRank_7 : decode cX9_hasRank 7 = .ok (.aload_n 0, 1) := by decide +kernel
theorem dX9_hasRank_8 : decode cX9_hasRank 8 = .ok (.getfield 20, 3) := by decide +kernel
theorem dX9_hasRank_11 : decode cX9_hasRank 11 = .ok (.aload_n 0, 1) := by decide +kernel
theorem dX9_hasRank_12 : decode cX9_hasRank 12 = .ok (.iload_n 1, 1) := by decide +kernel
theorem dX9_hasRank_13 : decode cX9_hasRank 13 = .ok (.iload_n 3, 1) := by decide +kernel
theorem dX9_hasRank_14 : decode cX9_hasRank 14 = .ok (.invokevirtual 46, 3) := by decide +kernel
theorem dX9_hasRank_17 : decode cX9_hasRank 17 = .ok (.invokevirtual 38, 3) := by decide +kernel
theorem dX9_hasRank_20 : decode cX9_hasRank 20 = .ok (.iload_n 2, 1) := by decide +kernel
theorem dX9_hasRank_21 : decode cX9_hasRank 21 = .ok (.if_icmp .ne 5, 3) := by decide +kernel
theorem dX9_hasRank_24 : decode cX9_hasRank 24 = .ok (.iconst 1, 1) := by decide +kernel
theorem dX9_hasRank_25 : decode cX9_hasRank 25 = .ok (.ireturn, 1) := by decide +kernel
theorem dX9_hasRank_26 : decode cX9_hasRank 26 = .ok (.iinc 3 1, 3) := by decide +kernel
theorem dX9_hasRank_29 : decode cX9_hasRank 29 = .ok (.goto (-27), 3) := by decide +kernel
theorem dX9_hasRank_32 : decode cX9_hasRank 32 = .ok (.iconst 0, 1) := by decide +kernel
theorem dX9_hasRank_33 : decode cX9_hasRank 33 = .ok (.ireturn, 1) := by decide +kernel
theorem dX9_add_0 : decode cX9_add 0 = .ok (.aload_n 0, 1) := by decide +kernel
theorem dX9_add_1 : decode cX9_add 1 = .ok (.getfield 42, 3) := by decide +kernel
theorem dX9_add_4 : decode cX9_add 4 = .ok (.istore 5, 2) := by decide +kernel
theorem dX9_add_6 : decode cX9_add 6 = .ok (.aload_n 0, 1) := by decide +kernel
theorem dX9_add_7 : decode cX9_add 7 = .ok (.getfield 14, 3) := by decide +kernel
theorem dX9_add_10 : decode cX9_add 10 = .ok (.iload 5, 2) := by decide +kernel
theorem dX9_add_12 : decode cX9_add 12 = .ok (.iload_n 1, 1) := by decide +kernel
theorem dX9_add_13 : decode cX9_add 13 = .ok (.invokevirtual 50, 3) := by decide +kernel
theorem dX9_add_16 : decode cX9_add 16 = .ok (.aload_n 0, 1) := by decide +kernel
theorem dX9_add_17 : decode cX9_add 17 = .ok (.getfield 20, 3) := by decide +kernel
theorem dX9_add_20 : decode cX9_add 20 = .ok (.iload 5, 2) := by decide +kernel
theorem dX9_add_22 : decode cX9_add 22 = .ok (.iload_n 2, 1) := by decide +kernel
theorem dX9_add_23 : decode cX9_add 23 = .ok (.invokevirtual 50, 3) := by decide +kernel
theorem dX9_add_26 : decode cX9_add 26 = .ok (.aload_n 0, 1) := by decide +kernel
theorem dX9_add_27 : decode cX9_add 27 = .ok (.getfield 23, 3) := by decide +kernel
theorem dX9_add_30 : decode cX9_add 30 = .ok (.iload 5, 2) := by decide +kernel
theorem dX9_add_32 : decode cX9_add 32 = .ok (.bipush 31, 2) := by decide +kernel
theorem dX9_add_34 : decode cX9_add 34 = .ok (.iload 5, 2) := by decide +kernel
theorem dX9_add_36 : decode cX9_add 36 = .ok (.imul, 1) := by decide +kernel
theorem dX9_add_37 : decode cX9_add 37 = .ok (.iload_n 3, 1) := by decide +kernel
theorem dX9_add_38 : decode cX9_add 38 = .ok (.iadd, 1) := by decide +kernel
theorem dX9_add_39 : decode cX9_add 39 = .ok (.sipush 9973, 3) := by decide +kernel
theorem dX9_add_42 : decode cX9_add 42 = .ok (.irem, 1) := by decide +kernel
theorem dX9_add_43 : decode cX9_add 43 = .ok (.invokevirtual 50, 3) := by decide +kernel
theorem dX9_add_46 : decode cX9_add 46 = .ok (.aload_n 0, 1) := by decide +kernel
theorem dX9_add_47 : decode cX9_add 47 = .ok (.getfield 32, 3) := by decide +kernel
theorem dX9_add_50 : decode cX9_add 50 = .ok (.iload_n 1, 1) := by decide +kernel
theorem dX9_add_51 : decode cX9_add 51 = .ok (.iconst 4, 1) := by decide +kernel
theorem dX9_add_52 : decode cX9_add 52 = .ok (.imul, 1) := by decide +kernel
theorem dX9_add_53 : decode cX9_add 53 = .ok (.aload_n 0, 1) := by decide +kernel
theorem dX9_add_54 : decode cX9_add 54 = .ok (.getfield 35, 3) := by decide +kernel
theorem dX9_add_57 : decode cX9_add 57 = .ok (.iload_n 1, 1) := by decide +kernel
theorem dX9_add_58 : decode cX9_add 58 = .ok (.invokevirtual 38, 3) := by decide +kernel
theorem dX9_add_61 : decode cX9_add 61 = .ok (.iadd, 1) := by decide +kernel
theorem dX9_add_62 : decode cX9_add 62 = .ok (.iload 5, 2) := by decide +kernel
theorem dX9_add_64 : decode cX9_add 64 = .ok (.invokevirtual 50, 3) := by decide +kernel
theorem dX9_add_67 : decode cX9_add 67 = .ok (.aload_n 0, 1) := by decide +kernel
theorem dX9_add_68 : decode cX9_add 68 = .ok (.getfield 35, 3) := by decide +kernel
theorem dX9_add_71 : decode cX9_add 71 = .ok (.iload_n 1, 1) := by decide +kernel
theorem dX9_add_72 : decode cX9_add 72 = .ok (.aload_n 0, 1) := by decide +kernel
theorem dX9_add_73 : decode cX9_add 73 = .ok (.getfield 35, 3) := by decide +kernel
theorem dX9_add_76 : decode cX9_add 76 = .ok (.iload_n 1, 1) := by decide +kernel
theorem dX9_add_77 : decode cX9_add 77 = .ok (.invokevirtual 38, 3) := by decide +kernel
theorem dX9_add_80 : decode cX9_add 80 = .ok (.iconst 1, 1) := by decide +kernel
theorem dX9_add_81 : decode cX9_add 81 = .ok (.iadd, 1) := by decide +kernel
theorem dX9_add_82 : decode cX9_add 82 = .ok (.invokevirtual 50, 3) := by decide +kernel
theorem dX9_add_85 : decode cX9_add 85 = .ok (.iload 4, 2) := by decide +kernel
theorem dX9_add_87 : decode cX9_add 87 = .ok (.ifCond .ne 18, 3) := by decide +kernel
theorem dX9_add_90 : decode cX9_add 90 = .ok (.aload_n 0, 1) := by decide +kernel
theorem dX9_add_91 : decode cX9_add 91 = .ok (.dup, 1) := by decide +kernel
theorem dX9_add_92 : decode cX9_add 92 = .ok (.getfield 53, 3) := by decide +kernel
theorem dX9_add_95 : decode cX9_add 95 = .ok (.iconst 1, 1) := by decide +kernel
theorem dX9_add_96 : decode cX9_add 96 = .ok (.iload_n 1, 1) := by decide +kernel
theorem dX9_add_97 : decode cX9_add 97 = .ok (.ishl, 1) := by decide +kernel
theorem dX9_add_98 : decode cX9_add 98 = .ok (.ior, 1) := by decide +kernel
theorem dX9_add_99 : decode cX9_add 99 = .ok (.putfield 53, 3) := by decide +kernel
theorem dX9_add_102 : decode cX9_add 102 = .ok (.goto 16, 3) := by decide +kernel
theorem dX9_add_105 : decode cX9_add 105 = .ok (.aload_n 0, 1) := by decide +kernel
theorem dX9_add_106 : decode cX9_add 106 = .ok (.dup, 1) := by decide +kernel
theorem dX9_add_107 : decode cX9_add 107 = .ok (.getfield 56, 3) := by decide +kernel
theorem dX9_add_110 : decode cX9_add 110 = .ok (.iconst 1, 1) := by decide +kernel
theorem dX9_add_111 : decode cX9_add 111 = .ok (.iload 5, 2) := by decide +kernel
theorem dX9_add_113 : decode cX9_add 113 = .ok (.ishl, 1) := by decide +kernel
theorem dX9_add_114 : decode cX9_add 114 = .ok (.ior, 1) := by decide +kernel
theorem dX9_add_115 : decode cX9_add 115 = .ok (.putfield 56, 3) := by decide +kernel
theorem dX9_add_118 : decode cX9_add 118 = .ok (.aload_n 0, 1) := by decide +kernel
theorem dX9_add_119 : decode cX9_add 119 = .ok (.dup, 1) := by decide +kernel
theorem dX9_add_120 : decode cX9_add 120 = .ok (.getfield 42, 3) := by decide +kernel
theorem dX9_add_123 : decode cX9_add 123 = .ok (.iconst 1, 1) := by decide +kernel
theorem dX9_add_124 : decode cX9_add 124 = .ok (.iadd, 1) := by decide +kernel
theorem dX9_add_125 : decode cX9_add 125 = .ok (.putfield 42, 3) := by decide +kernel
theorem dX9_add_128 : decode cX9_add 128 = .ok (.iload 5, 2) := by decide +kernel
theorem dX9_add_130 : decode cX9_add 130 = .ok (.ireturn, 1) := by decide +kernel
theorem dX9_member_0 : decode cX9_member 0 = .ok (.iconst 3, 1) := by decide +kernel
theorem dX9_member_1 : decode cX9_member 1 = .ok (.iload_n 2, 1) := by decide +kernel
theorem dX9_member_2 : decode cX9_member 2 = .ok (.invokestatic 59, 3) := by decide +kernel
theorem dX9_member_5 : decode cX9_member 5 = .ok (.ifCond .eq 18, 3) := by decide +kernel
theorem dX9_member_8 : decode cX9_member 8 = .ok (.aload_n 0, 1) := by decide +kernel
theorem dX9_member_9 : decode cX9_member 9 = .ok (.getfield 32, 3) := by decide +kernel
theorem dX9_member_12 : decode cX9_member 12 = .ok (.iload_n 1, 1) := by decide +kernel
theorem dX9_member_13 : decode cX9_member 13 = .ok (.iconst 4, 1) := by decide +kernel
theorem dX9_member_14 : decode cX9_member 14 = .ok (.imul, 1) := by decide +kernel
theorem dX9_member_15 : decode cX9_member 15 = .ok (.iload_n 2, 1) := by decide +kernel
theorem dX9_member_16 : decode cX9_member 16 = .ok (.iadd, 1) := by decide +kernel
theorem dX9_member_17 : decode cX9_member 17 = .ok (.invokevirtual 38, 3) := by decide +kernel
theorem dX9_member_20 : decode cX9_member 20 = .ok (.goto 4, 3) := by decide +kernel
theorem dX9_member_23 : decode cX9_member 23 = .ok (.iconst (-1), 1) := by decide +kernel
theorem dX9_member_24 : decode cX9_member 24 = .ok (.ireturn, 1) := by decide +kernel
theorem dX9_toggleYanked_0 : decode cX9_toggleYanked 0 = .ok (.aload_n 0, 1) := by decide +kernel
theorem dX9_toggleYanked_1 : decode cX9_toggleYanked 1 = .ok (.dup, 1) := by decide +kernel
theorem dX9_toggleYanked_2 : decode cX9_toggleYanked 2 = .ok (.getfield 63, 3) := by decide +kernel
theorem dX9_toggleYanked_5 : decode cX9_toggleYanked 5 = .ok (.iconst 1, 1) := by decide +kernel
theorem dX9_toggleYanked_6 : decode cX9_toggleYanked 6 = .ok (.iload_n 1, 1) := by decide +kernel
theorem dX9_toggleYanked_7 : decode cX9_toggleYanked 7 = .ok (.ishl, 1) := by decide +kernel
theorem dX9_toggleYanked_8 : decode cX9_toggleYanked 8 = .ok (.ixor, 1) := by decide +kernel
theorem dX9_toggleYanked_9 : decode cX9_toggleYanked 9 = .ok (.putfield 63, 3) := by decide +kernel
theorem dX9_toggleYanked_12 : decode cX9_toggleYanked 12 = .ok (.aload_n 0, 1) := by decide +kernel
theorem dX9_toggleYanked_13 : decode cX9_toggleYanked 13 = .ok (.iload_n 1, 1) := by decide +kernel
theorem dX9_toggleYanked_14 : decode cX9_toggleYanked 14 = .ok (.invokevirtual 66, 3) := by decide +kernel
theorem dX9_toggleYanked_17 : decode cX9_toggleYanked 17 = .ok (.ireturn, 1) := by decide +kernel
theorem dX9_isYanked_0 : decode cX9_isYanked 0 = .ok (.aload_n 0, 1) := by decide +kernel
theorem dX9_isYanked_1 : decode cX9_isYanked 1 = .ok (.getfield 63, 3) := by decide +kernel
theorem dX9_isYanked_4 : decode cX9_isYanked 4 = .ok (.iload_n 1, 1) := by decide +kernel
theorem dX9_isYanked_5 : decode cX9_isYanked 5 = .ok (.invokestatic 70, 3) := by decide +kernel
theorem dX9_isYanked_8 : decode cX9_isYanked 8 = .ok (.ireturn, 1) := by decide +kernel
theorem dX9_isHidden_0 : decode cX9_isHidden 0 = .ok (.aload_n 0, 1) := by decide +kernel
theorem dX9_isHidden_1 : decode cX9_isHidden 1 = .ok (.getfield 56, 3) := by decide +kernel
theorem dX9_isHidden_4 : decode cX9_isHidden 4 = .ok (.iload_n 1, 1) := by decide +kernel
theorem dX9_isHidden_5 : decode cX9_isHidden 5 = .ok (.invokestatic 70, 3) := by decide +kernel
theorem dX9_isHidden_8 : decode cX9_isHidden 8 = .ok (.ifCond .eq 25, 3) := by decide +kernel
theorem dX9_isHidden_11 : decode cX9_isHidden 11 = .ok (.aload_n 0, 1) := by decide +kernel
theorem dX9_isHidden_12 : decode cX9_isHidden 12 = .ok (.getfield 53, 3) := by decide +kernel
theorem dX9_isHidden_15 : decode cX9_isHidden 15 = .ok (.aload_n 0, 1) := by decide +kernel
theorem dX9_isHidden_16 : decode cX9_isHidden 16 = .ok (.getfield 14, 3) := by decide +kernel
theorem dX9_isHidden_19 : decode cX9_isHidden 19 = .ok (.iload_n 1, 1) := by decide +kernel
theorem dX9_isHidden_20 : decode cX9_isHidden 20 = .ok (.invokevirtual 38, 3) := by decide +kernel
theorem dX9_isHidden_23 : decode cX9_isHidden 23 = .ok (.invokestatic 70, 3) := by decide +kernel
theorem dX9_isHidden_26 : decode cX9_isHidden 26 = .ok (.ifCond .eq 7, 3) := by decide +kernel
theorem dX9_isHidden_29 : decode cX9_isHidden 29 = .ok (.iconst 1, 1) := by decide +kernel
theorem dX9_isHidden_30 : decode cX9_isHidden 30 = .ok (.goto 4, 3) := by decide +kernel
theorem dX9_isHidden_33 : decode cX9_isHidden 33 = .ok (.iconst 0, 1) := by decide +kernel
theorem dX9_isHidden_34 : decode cX9_isHidden 34 = .ok (.ireturn, 1) := by decide +kernel
theorem dX9_broughtBy_0 : decode cX9_broughtBy 0 = .ok (.iconst 0, 1) := by decide +kernel
theorem dX9_broughtBy_1 : decode cX9_broughtBy 1 = .ok (.istore_n 3, 1) := by decide +kernel
theorem dX9_broughtBy_2 : decode cX9_broughtBy 2 = .ok (.iconst 0, 1) := by decide +kernel
theorem dX9_broughtBy_3 : decode cX9_broughtBy 3 = .ok (.istore 4, 2) := by decide +kernel
theorem dX9_broughtBy_5 : decode cX9_broughtBy 5 = .ok (.iload 4, 2) := by decide +kernel
theorem dX9_broughtBy_7 : decode cX9_broughtBy 7 = .ok (.iconst 3, 1) := by decide +kernel
theorem dX9_broughtBy_8 : decode cX9_broughtBy 8 = .ok (.if_icmp .ge 34, 3) := by decide +kernel
theorem dX9_broughtBy_11 : decode cX9_broughtBy 11 = .ok (.iload_n 2, 1) := by decide +kernel
theorem dX9_broughtBy_12 : decode cX9_broughtBy 12 = .ok (.iload 4, 2) := by decide +kernel
theorem dX9_broughtBy_14 : decode cX9_broughtBy 14 = .ok (.invokestatic 70, 3) := by decide +kernel
theorem dX9_broughtBy_17 : decode cX9_broughtBy 17 = .ok (.ifCond .eq 19, 3) := by decide +kernel
theorem dX9_broughtBy_20 : decode cX9_broughtBy 20 = .ok (.iload_n 3, 1) := by decide +kernel
theorem dX9_broughtBy_21 : decode cX9_broughtBy 21 = .ok (.aload_n 0, 1) := by decide +kernel
theorem dX9_broughtBy_22 : decode cX9_broughtBy 22 = .ok (.getfield 29, 3) := by decide +kernel
theorem dX9_broughtBy_25 : decode cX9_broughtBy 25 = .ok (.iload_n 1, 1) := by decide +kernel
theorem dX9_broughtBy_26 : decode cX9_broughtBy 26 = .ok (.iconst 3, 1) := by decide +kernel
theorem dX9_broughtBy_27 : decode cX9_broughtBy 27 = .ok (.imul, 1) := by decide +kernel
theorem dX9_broughtBy_28 : decode cX9_broughtBy 28 = .ok (.iload 4, 2) := by decide +kernel
theorem dX9_broughtBy_30 : decode cX9_broughtBy 30 = .ok (.iadd, 1) := by decide +kernel
theorem dX9_broughtBy_31 : decode cX9_broughtBy 31 = .ok (.invokevirtual 38, 3) := by decide +kernel
theorem dX9_broughtBy_34 : decode cX9_broughtBy 34 = .ok (.ior, 1) := by decide +kernel
theorem dX9_broughtBy_35 : decode cX9_broughtBy 35 = .ok (.istore_n 3, 1) := by decide +kernel
theorem dX9_broughtBy_36 : decode cX9_broughtBy 36 = .ok (.iinc 4 1, 3) := by decide +kernel
theorem dX9_broughtBy_39 : decode cX9_broughtBy 39 = .ok (.goto (-34), 3) := by decide +kernel
theorem dX9_broughtBy_42 : decode cX9_broughtBy 42 = .ok (.iload_n 3, 1) := by decide +kernel
theorem dX9_broughtBy_43 : decode cX9_broughtBy 43 = .ok (.ireturn, 1) := by decide +kernel
theorem dX10_init_0 : decode cX10_init 0 = .ok (.aload_n 0, 1) := by decide +kernel
theorem dX10_init_1 : decode cX10_init 1 = .ok (.invokespecial 3, 3) := by decide +kernel
theorem dX10_init_4 : decode cX10_init 4 = .ok (.aload_n 0, 1) := by decide +kernel
theorem dX10_init_5 : decode cX10_init 5 = .ok (.new 9, 3) := by decide +kernel
theorem dX10_init_8 : decode cX10_init 8 = .ok (.dup, 1) := by decide +kernel
theorem dX10_init_9 : decode cX10_init 9 = .ok (.invokespecial 11, 3) := by decide +kernel
theorem dX10_init_12 : decode cX10_init 12 = .ok (.putfield 12, 3) := by decide +kernel
theorem dX10_init_15 : decode cX10_init 15 = .ok (.aload_n 0, 1) := by decide +kernel
theorem dX10_init_16 : decode cX10_init 16 = .ok (.new 18, 3) := by decide +kernel
theorem dX10_init_19 : decode cX10_init 19 = .ok (.dup, 1) := by decide +kernel
theorem dX10_init_20 : decode cX10_init 20 = .ok (.invokespecial 20, 3) := by decide +kernel
theorem dX10_init_23 : decode cX10_init 23 = .ok (.putfield 21, 3) := by decide +kernel
theorem dX10_init_26 : decode cX10_init 26 = .ok (.aload_n 0, 1) := by decide +kernel
theorem dX10_init_27 : decode cX10_init 27 = .ok (.new 25, 3) := by decide +kernel
theorem dX10_init_30 : decode cX10_init 30 = .ok (.dup, 1) := by decide +kernel
theorem dX10_init_31 : decode cX10_init 31 = .ok (.invokespecial 27, 3) := by decide +kernel
theorem dX10_init_34 : decode cX10_init 34 = .ok (.putfield 28, 3) := by decide +kernel
theorem dX10_init_37 : decode cX10_init 37 = .ok (.aload_n 0, 1) := by decide +kernel
theorem dX10_init_38 : decode cX10_init 38 = .ok (.new 32, 3) := by decide +kernel
theorem dX10_init_41 : decode cX10_init 41 = .ok (.dup, 1) := by decide +kernel
theorem dX10_init_42 : decode cX10_init 42 = .ok (.invokespecial 34, 3) := by decide +kernel
theorem dX10_init_45 : decode cX10_init 45 = .ok (.putfield 35, 3) := by decide +kernel
theorem dX10_init_48 : decode cX10_init 48 = .ok (.aload_n 0, 1) := by decide +kernel
theorem dX10_init_49 : decode cX10_init 49 = .ok (.new 39, 3) := by decide +kernel
theorem dX10_init_52 : decode cX10_init 52 = .ok (.dup, 1) := by decide +kernel
theorem dX10_init_53 : decode cX10_init 53 = .ok (.bipush 6, 2) := by decide +kernel
theorem dX10_init_55 : decode cX10_init 55 = .ok (.iconst (-1), 1) := by decide +kernel
theorem dX10_init_56 : decode cX10_init 56 = .ok (.invokespecial 41, 3) := by decide +kernel
theorem dX10_init_59 : decode cX10_init 59 = .ok (.putfield 44, 3) := by decide +kernel
theorem dX10_init_62 : decode cX10_init 62 = .ok (.aload_n 0, 1) := by decide +kernel
theorem dX10_init_63 : decode cX10_init 63 = .ok (.new 39, 3) := by decide +kernel
theorem dX10_init_66 : decode cX10_init 66 = .ok (.dup, 1) := by decide +kernel
theorem dX10_init_67 : decode cX10_init 67 = .ok (.bipush 8, 2) := by decide +kernel
theorem dX10_init_69 : decode cX10_init 69 = .ok (.iconst (-1), 1) := by decide +kernel
theorem dX10_init_70 : decode cX10_init 70 = .ok (.invokespecial 41, 3) := by decide +kernel
theorem dX10_init_73 : decode cX10_init 73 = .ok (.putfield 48, 3) := by decide +kernel
theorem dX10_init_76 : decode cX10_init 76 = .ok (.aload_n 0, 1) := by decide +kernel
theorem dX10_init_77 : decode cX10_init 77 = .ok (.new 39, 3) := by decide +kernel
theorem dX10_init_80 : decode cX10_init 80 = .ok (.dup, 1) := by decide +kernel
theorem dX10_init_81 : decode cX10_init 81 = .ok (.bipush 8, 2) := by decide +kernel
theorem dX10_init_83 : decode cX10_init 83 = .ok (.iconst (-1), 1) := by decide +kernel
theorem dX10_init_84 : decode cX10_init 84 = .ok (.invokespecial 41, 3) := by decide +kernel
theorem dX10_init_87 : decode cX10_init 87 = .ok (.putfield 51, 3) := by decide +kernel
theorem dX10_init_90 : decode cX10_init 90 = .ok (.aload_n 0, 1) := by decide +kernel
theorem dX10_init_91 : decode cX10_init 91 = .ok (.new 39, 3) := by decide +kernel
theorem dX10_init_94 : decode cX10_init 94 = .ok (.dup, 1) := by decide +kernel
theorem dX10_init_95 : decode cX10_init 95 = .ok (.bipush 6, 2) := by decide +kernel
theorem dX10_init_97 : decode cX10_init 97 = .ok (.iconst (-1), 1) := by decide +kernel
theorem dX10_init_98 : decode cX10_init 98 = .ok (.invokespecial 41, 3) := by decide +kernel
theorem dX10_init_101 : decode cX10_init 101 = .ok (.putfield 54, 3) := by decide +kernel
theorem dX10_init_104 : decode cX10_init 104 = .ok (.aload_n 0, 1) := by decide +kernel
theorem dX10_init_105 : decode cX10_init 105 = .ok (.new 39, 3) := by decide +kernel
theorem dX10_init_108 : decode cX10_init 108 = .ok (.dup, 1) := by decide +kernel
theorem dX10_init_109 : decode cX10_init 109 = .ok (.bipush 6, 2) := by decide +kernel
theorem dX10_init_111 : decode cX10_init 111 = .ok (.iconst (-1), 1) := by decide +kernel
theorem dX10_init_112 : decode cX10_init 112 = .ok (.invokespecial 41, 3) := by decide +kernel
theorem dX10_init_115 : decode cX10_init 115 = .ok (.putfield 57, 3) := by decide +kernel
theorem dX10_init_118 : decode cX10_init 118 = .ok (.iconst 0, 1) := by decide +kernel
theorem dX10_init_119 : decode cX10_init 119 = .ok (.istore_n 1, 1) := by decide +kernel
theorem dX10_init_120 : decode cX10_init 120 = .ok (.iload_n 1, 1) := by decide +kernel
theorem dX10_init_121 : decode cX10_init 121 = .ok (.bipush 6, 2) := by decide +kernel
theorem dX10_init_123 : decode cX10_init 123 = .ok (.if_icmp .ge 18, 3) := by decide +kernel
theorem dX10_init_126 : decode cX10_init 126 = .ok (.aload_n 0, 1) := by decide +kernel
theorem dX10_init_127 : decode cX10_init 127 = .ok (.getfield 57, 3) := by decide +kernel
theorem dX10_init_130 : decode cX10_init 130 = .ok (.iload_n 1, 1) := by decide +kernel
theorem dX10_init_131 : decode cX10_init 131 = .ok (.iload_n 1, 1) := by decide +kernel
theorem dX10_init_132 : decode cX10_init 132 = .ok (.invokevirtual 60, 3) := by decide +kernel
theorem dX10_init_135 : decode cX10_init 135 = .ok (.iinc 1 1, 3) := by decide +kernel
theorem dX10_init_138 : decode cX10_init 138 = .ok (.goto (-18), 3) := by decide +kernel
theorem dX10_init_141 : decode cX10_init 141 = .ok (.return_, 1) := by decide +kernel
theorem dX10_warn_0 : decode cX10_warn 0 = .ok (.aload_n 0, 1) := by decide +kernel
theorem dX10_warn_1 : decode cX10_warn 1 = .ok (.getfield 48, 3) := by decide +kernel
theorem dX10_warn_4 : decode cX10_warn 4 = .ok (.aload_n 0, 1) := by decide +kernel
theorem dX10_warn_5 : decode cX10_warn 5 = .ok (.getfield 63, 3) := by decide +kernel
theorem dX10_warn_8 : decode cX10_warn 8 = .ok (.iload_n 1, 1) := by decide +kernel
theorem dX10_warn_9 : decode cX10_warn 9 = .ok (.invokevirtual 60, 3) := by decide +kernel
theorem dX10_warn_12 : decode cX10_warn 12 = .ok (.aload_n 0, 1) := by decide +kernel
theorem dX10_warn_13 : decode cX10_warn 13 = .ok (.getfield 51, 3) := by decide +kernel
theorem dX10_warn_16 : decode cX10_warn 16 = .ok (.aload_n 0, 1) := by decide +kernel
theorem dX10_warn_17 : decode cX10_warn 17 = .ok (.getfield 63, 3) := by decide +kernel
theorem dX10_warn_20 : decode cX10_warn 20 = .ok (.iload_n 2, 1) := by decide +kernel
theorem dX10_warn_21 : decode cX10_warn 21 = .ok (.invokevirtual 60, 3) := by decide +kernel
theorem dX10_warn_24 : decode cX10_warn 24 = .ok (.aload_n 0, 1) := by decide +kernel
theorem dX10_warn_25 : decode cX10_warn 25 = .ok (.dup, 1) := by decide +kernel
theorem dX10_warn_26 : decode cX10_warn 26 = .ok (.getfield 63, 3) := by decide +kernel
theorem dX10_warn_29 : decode cX10_warn 29 = .ok (.iconst 1, 1) := by decide +kernel
theorem dX10_warn_30 : decode cX10_warn 30 = .ok (.iadd, 1) := by decide +kernel
theorem dX10_warn_31 : decode cX10_warn 31 = .ok (.putfield 63, 3) := by decide +kernel
theorem dX10_warn_34 : decode cX10_warn 34 = .ok (.aload_n 0, 1) := by decide +kernel
theorem dX10_warn_35 : decode cX10_warn 35 = .ok (.getfield 63, 3) := by decide +kernel
theorem dX10_warn_38 : decode cX10_warn 38 = .ok (.ireturn, 1) := by decide +kernel
theorem dX10_flaw_0 : decode cX10_flaw 0 = .ok (.aload_n 0, 1) := by decide +kernel
theorem dX10_flaw_1 : decode cX10_flaw 1 = .ok (.getfield 12, 3) := by decide +kernel
theorem dX10_flaw_4 : decode cX10_flaw 4 = .ok (.getfield 67, 3) := by decide +kernel
theorem dX10_flaw_7 : decode cX10_flaw 7 = .ok (.iload_n 1, 1) := by decide +kernel
theorem dX10_flaw_8 : decode cX10_flaw 8 = .ok (.invokevirtual 70, 3) := by decide +kernel
theorem dX10_flaw_11 : decode cX10_flaw 11 = .ok (.istore_n 2, 1) := by decide +kernel
theorem dX10_flaw_12 : decode cX10_flaw 12 = .ok (.aload_n 0, 1) := by decide +kernel
theorem dX10_flaw_13 : decode cX10_flaw 13 = .ok (.getfield 12, 3) := by decide +kernel
theorem dX10_flaw_16 : decode cX10_flaw 16 = .ok (.iload_n 1, 1) := by decide +kernel
theorem dX10_flaw_17 : decode cX10_flaw 17 = .ok (.invokevirtual 74, 3) := by decide +kernel
theorem dX10_flaw_20 : decode cX10_flaw 20 = .ok (.ifCond .eq 5, 3) := by decide +kernel
theorem dX10_flaw_23 : decode cX10_flaw 23 = .ok (.iconst 1, 1) := by decide +kernel
theorem dX10_flaw_24 : decode cX10_flaw 24 = .ok (.ireturn, 1) := by decide +kernel
theorem dX10_flaw_25 : decode cX10_flaw 25 = .ok (.aload_n 0, 1) := by decide +kernel
theorem dX10_flaw_26 : decode cX10_flaw 26 = .ok (.getfield 12, 3) := by decide +kernel
theorem dX10_flaw_29 : decode cX10_flaw 29 = .ok (.iload_n 1, 1) := by decide +kernel
theorem dX10_flaw_30 : decode cX10_flaw 30 = .ok (.invokevirtual 78, 3) := by decide +kernel
theorem dX10_flaw_33 : decode cX10_flaw 33 = .ok (.ifCond .eq 17, 3) := by decide +kernel
theorem dX10_flaw_36 : decode cX10_flaw 36 = .ok (.aload_n 0, 1) := by decide +kernel
theorem dX10_flaw_37 : decode cX10_flaw 37 = .ok (.getfield 44, 3) := by decide +kernel
theorem dX10_flaw_40 : decode cX10_flaw 40 = .ok (.iload_n 2, 1) := by decide +kernel
theorem dX10_flaw_41 : decode cX10_flaw 41 = .ok (.invokevirtual 70, 3) := by decide +kernel
theorem dX10_flaw_44 : decode cX10_flaw 44 = .ok (.iload_n 1, 1) := by decide +kernel
theorem dX10_flaw_45 : decode cX10_flaw 45 = .ok (.if_icmp .eq 5, 3) := by decide +kernel
theorem dX10_flaw_48 : decode cX10_flaw 48 = .ok (.iconst 2, 1) := by decide +kernel
theorem dX10_flaw_49 : decode cX10_flaw 49 = .ok (.ireturn, 1) := by decide +kernel
theorem dX10_flaw_50 : decode cX10_flaw 50 = .ok (.aload_n 0, 1) := by decide +kernel
theorem dX10_flaw_51 : decode cX10_flaw 51 = .ok (.getfield 12, 3) := by decide +kernel
theorem dX10_flaw_54 : decode cX10_flaw 54 = .ok (.getfield 81, 3) := by decide +kernel
theorem dX10_flaw_57 : decode cX10_flaw 57 = .ok (.iload_n 1, 1) := by decide +kernel
theorem dX10_flaw_58 : decode cX10_flaw 58 = .ok (.invokevirtual 70, 3) := by decide +kernel
theorem dX10_flaw_61 : decode cX10_flaw 61 = .ok (.aload_n 0, 1) := by decide +kernel
theorem dX10_flaw_62 : decode cX10_flaw 62 = .ok (.getfield 84, 3) := by decide +kernel
theorem dX10_flaw_65 : decode cX10_flaw 65 = .ok (.invokestatic 87, 3) := by decide +kernel
theorem dX10_flaw_68 : decode cX10_flaw 68 = .ok (.ifCond .ne 5, 3) := by decide +kernel
theorem dX10_flaw_71 : decode cX10_flaw 71 = .ok (.iconst 3, 1) := by decide +kernel
theorem dX10_flaw_72 : decode cX10_flaw 72 = .ok (.ireturn, 1) := by decide +kernel
theorem dX10_flaw_73 : decode cX10_flaw 73 = .ok (.iconst 0, 1) := by decide +kernel
theorem dX10_flaw_74 : decode cX10_flaw 74 = .ok (.istore_n 3, 1) := by decide +kernel
theorem dX10_flaw_75 : decode cX10_flaw 75 = .ok (.iload_n 3, 1) := by decide +kernel
theorem dX10_flaw_76 : decode cX10_flaw 76 = .ok (.aload_n 0, 1) := by decide +kernel
theorem dX10_flaw_77 : decode cX10_flaw 77 = .ok (.getfield 63, 3) := by decide +kernel
theorem dX10_flaw_80 : decode cX10_flaw 80 = .ok (.if_icmp .ge 42, 3) := by decide +kernel
theorem dX10_flaw_83 : decode cX10_flaw 83 = .ok (.aload_n 0, 1) := by decide +kernel
theorem dX10_flaw_84 : decode cX10_flaw 84 = .ok (.getfield 48, 3) := by decide +kernel
theorem dX10_flaw_87 : decode cX10_flaw 87 = .ok (.iload_n 3, 1) := by decide +kernel
theorem dX10_flaw_88 : decode cX10_flaw 88 = .ok (.invokevirtual 70, 3) := by decide +kernel
theorem dX10_flaw_91 : decode cX10_flaw 91 = .ok (.iload_n 2, 1) := by decide +kernel
theorem dX10_flaw_92 : decode cX10_flaw 92 = .ok (.if_icmp .ne 24, 3) := by decide +kernel
theorem dX10_flaw_95 : decode cX10_flaw 95 = .ok (.aload_n 0, 1) := by decide +kernel
theorem dX10_flaw_96 : decode cX10_flaw 96 = .ok (.getfield 21, 3) := by decide +kernel
theorem dX10_flaw_99 : decode cX10_flaw 99 = .ok (.aload_n 0, 1) := by decide +kernel
theorem dX10_flaw_100 : decode cX10_flaw 100 = .ok (.getfield 51, 3) := by decide +kernel
theorem dX10_flaw_103 : decode cX10_flaw 103 = .ok (.iload_n 3, 1) := by decide +kernel
theorem dX10_flaw_104 : decode cX10_flaw 104 = .ok (.invokevirtual 70, 3) := by decide +kernel
theorem dX10_flaw_107 : decode cX10_flaw 107 = .ok (.iload_n 1, 1) := by decide +kernel
theorem dX10_flaw_108 : decode cX10_flaw 108 = .ok (.invokevirtual 91, 3) := by decide +kernel
theorem dX10_flaw_111 : decode cX10_flaw 111 = .ok (.ifCond .eq 5, 3) := by decide +kernel
theorem dX10_flaw_114 : decode cX10_flaw 114 = .ok (.iconst 4, 1) := by decide +kernel
theorem dX10_flaw_115 : decode cX10_flaw 115 = .ok (.ireturn, 1) := by decide +kernel
theorem dX10_flaw_116 : decode cX10_flaw 116 = .ok (.iinc 3 1, 3) := by decide +kernel
theorem dX10_flaw_119 : decode cX10_flaw 119 = .ok (.goto (-44), 3) := by decide +kernel
theorem dX10_flaw_122 : decode cX10_flaw 122 = .ok (.iconst 0, 1) := by decide +kernel
theorem dX10_flaw_123 : decode cX10_flaw 123 = .ok (.ireturn, 1) := by decide +kernel
theorem dX10_usable_0 : decode cX10_usable 0 = .ok (.iconst 0, 1) := by decide +kernel
theorem dX10_usable_1 : decode cX10_usable 1 = .ok (.istore_n 1, 1) := by decide +kernel
theorem dX10_usable_2 : decode cX10_usable 2 = .ok (.iconst 0, 1) := by decide +kernel
theorem dX10_usable_3 : decode cX10_usable 3 = .ok (.istore_n 2, 1) := by decide +kernel
theorem dX10_usable_4 : decode cX10_usable 4 = .ok (.iload_n 2, 1) := by decide +kernel
theorem dX10_usable_5 : decode cX10_usable 5 = .ok (.aload_n 0, 1) := by decide +kernel
theorem dX10_usable_6 : decode cX10_usable 6 = .ok (.getfield 12, 3) := by decide +kernel
theorem dX10_usable_9 : decode cX10_usable 9 = .ok (.getfield 94, 3) := by decide +kernel
theorem dX10_usable_12 : decode cX10_usable 12 = .ok (.if_icmp .ge 23, 3) := by decide +kernel
theorem dX10_usable_15 : decode cX10_usable 15 = .ok (.aload_n 0, 1) := by decide +kernel
theorem dX10_usable_16 : decode cX10_usable 16 = .ok (.iload_n 2, 1) := by decide +kernel
theorem dX10_usable_17 : decode cX10_usable 17 = .ok (.invokevirtual 97, 3) := by decide +kernel
theorem dX10_usable_20 : decode cX10_usable 20 = .ok (.ifCond .ne 9, 3) := by decide +kernel
theorem dX10_usable_23 : decode cX10_usable 23 = .ok (.iload_n 1, 1) := by decide +kernel
theorem dX10_usable_24 : decode cX10_usable 24 = .ok (.iconst 1, 1) := by decide +kernel
theorem dX10_usable_25 : decode cX10_usable 25 = .ok (.iload_n 2, 1) := by decide +kernel
theorem dX10_usable_26 : decode cX10_usable 26 = .ok (.ishl, 1) := by decide +kernel
theorem dX10_usable_27 : decode cX10_usable 27 = .ok (.ior, 1) := by decide +kernel
theorem dX10_usable_28 : decode cX10_usable 28 = .ok (.istore_n 1, 1) := by decide +kernel
theorem dX10_usable_29 : decode cX10_usable 29 = .ok (.iinc 2 1, 3) := by decide +kernel
theorem dX10_usable_32 : decode cX10_usable 32 = .ok (.goto (-28), 3) := by decide +kernel
theorem dX10_usable_35 : decode cX10_usable 35 = .ok (.iload_n 1, 1) := by decide +kernel
theorem dX10_usable_36 : decode cX10_usable 36 = .ok (.ireturn, 1) := by decide +kernel
theorem dX10_nextUsable_0 : decode cX10_nextUsable 0 = .ok (.aload_n 0, 1) := by decide +kernel
theorem dX10_nextUsable_1 : decode cX10_nextUsable 1 = .ok (.getfield 12, 3) := by decide +kernel
theorem dX10_nextUsable_4 : decode cX10_nextUsable 4 = .ok (.getfield 67, 3) := by decide +kernel
theorem dX10_nextUsable_7 : decode cX10_nextUsable 7 = .ok (.iload_n 1, 1) := by decide +kernel
theorem dX10_nextUsable_8 : decode cX10_nextUsable 8 = .ok (.invokevirtual 70, 3) := by decide +kernel
theorem dX10_nextUsable_11 : decode cX10_nextUsable 11 = .ok (.istore_n 2, 1) := by decide +kernel
theorem dX10_nextUsable_12 : decode cX10_nextUsable 12 = .ok (.iconst (-1), 1) := by decide +kernel
theorem dX10_nextUsable_13 : decode cX10_nextUsable 13 = .ok (.istore_n 3, 1) := by decide +kernel
theorem dX10_nextUsable_14 : decode cX10_nextUsable 14 = .ok (.iconst 0, 1) := by decide +kernel
theorem dX10_nextUsable_15 : decode cX10_nextUsable 15 = .ok (.istore 4, 2) := by decide +kernel
theorem dX10_nextUsable_17 : decode cX10_nextUsable 17 = .ok (.iload 4, 2) := by decide +kernel
theorem dX10_nextUsable_19 : decode cX10_nextUsable 19 = .ok (.iconst 4, 1) := by decide +kernel
theorem dX10_nextUsable_20 : decode cX10_nextUsable 20 = .ok (.if_icmp .ge 84, 3) := by decide +kernel
theorem dX10_nextUsable_23 : decode cX10_nextUsable 23 = .ok (.aload_n 0, 1) := by decide +kernel
theorem dX10_nextUsable_24 : decode cX10_nextUsable 24 = .ok (.getfield 12, 3) := by decide +kernel
theorem dX10_nextUsable_27 : decode cX10_nextUsable 27 = .ok (.iload_n 2, 1) := by decide +kernel
theorem dX10_nextUsable_28 : decode cX10_nextUsable 28 = .ok (.iload 4, 2) := by decide +kernel
theorem dX10_nextUsable_30 : decode cX10_nextUsable 30 = .ok (.invokevirtual 100, 3) := by decide +kernel
theorem dX10_nextUsable_33 : decode cX10_nextUsable 33 = .ok (.istore 5, 2) := by decide +kernel
theorem dX10_nextUsable_35 : decode cX10_nextUsable 35 = .ok (.aload_n 0, 1) := by decide +kernel
theorem dX10_nextUsable_36 : decode cX10_nextUsable 36 = .ok (.getfield 12, 3) := by decide +kernel
theorem dX10_nextUsable_39 : decode cX10_nextUsable 39 = .ok (.getfield 104, 3) := by decide +kernel
theorem dX10_nextUsable_42 : decode cX10_nextUsable 42 = .ok (.iload 5, 2) := by decide +kernel
theorem dX10_nextUsable_44 : decode cX10_nextUsable 44 = .ok (.invokevirtual 70, 3) := by decide +kernel
theorem dX10_nextUsable_47 : decode cX10_nextUsable 47 = .ok (.istore 6, 2) := by decide +kernel
theorem dX10_nextUsable_49 : decode cX10_nextUsable 49 = .ok (.iload 6, 2) := by decide +kernel
theorem dX10_nextUsable_51 : decode cX10_nextUsable 51 = .ok (.aload_n 0, 1) := by decide +kernel
theorem dX10_nextUsable_52 : decode cX10_nextUsable 52 = .ok (.getfield 12, 3) := by decide +kernel
theorem dX10_nextUsable_55 : decode cX10_nextUsable 55 = .ok (.getfield 104, 3) := by decide +kernel
theorem dX10_nextUsable_58 : decode cX10_nextUsable 58 = .ok (.iload_n 1, 1) := by decide +kernel
theorem dX10_nextUsable_59 : decode cX10_nextUsable 59 = .ok (.invokevirtual 70, 3) := by decide +kernel
theorem dX10_nextUsable_62 : decode cX10_nextUsable 62 = .ok (.if_icmp .le 36, 3) := by decide +kernel
theorem dX10_nextUsable_65 : decode cX10_nextUsable 65 = .ok (.aload_n 0, 1) := by decide +kernel
theorem dX10_nextUsable_66 : decode cX10_nextUsable 66 = .ok (.iload 5, 2) := by decide +kernel
theorem dX10_nextUsable_68 : decode cX10_nextUsable 68 = .ok (.invokevirtual 97, 3) := by decide +kernel
theorem dX10_nextUsable_71 : decode cX10_nextUsable 71 = .ok (.ifCond .ne 27, 3) := by decide +kernel
theorem dX10_nextUsable_74 : decode cX10_nextUsable 74 = .ok (.iload_n 3, 1) := by decide +kernel
theorem dX10_nextUsable_75 : decode cX10_nextUsable 75 = .ok (.iconst (-1), 1) := by decide +kernel
theorem dX10_nextUsable_76 : decode cX10_nextUsable 76 = .ok (.if_icmp .eq 19, 3) := by decide +kernel
theorem dX10_nextUsable_79 : decode cX10_nextUsable 79 = .ok (.iload 6, 2) := by decide +kernel
theorem dX10_nextUsable_81 : decode cX10_nextUsable 81 = .ok (.aload_n 0, 1) := by decide +kernel
theorem dX10_nextUsable_82 : decode cX10_nextUsable 82 = .ok (.getfield 12, 3) := by decide +kernel
theorem dX10_nextUsable_85 : decode cX10_nextUsable 85 = .ok (.getfield 104, 3) := by decide +kernel
theorem dX10_nextUsable_88 : decode cX10_nextUsable 88 = .ok (.iload_n 3, 1) := by decide +kernel
theorem dX10_nextUsable_89 : decode cX10_nextUsable 89 = .ok (.invokevirtual 70, 3) := by decide +kernel
theorem dX10_nextUsable_92 : decode cX10_nextUsable 92 = .ok (.if_icmp .ge 6, 3) := by decide +kernel
theorem dX10_nextUsable_95 : decode cX10_nextUsable 95 = .ok (.iload 5, 2) := by decide +kernel
theorem dX10_nextUsable_97 : decode cX10_nextUsable 97 = .ok (.istore_n 3, 1) := by decide +kernel
theorem dX10_nextUsable_98 : decode cX10_nextUsable 98 = .ok (.iinc 4 1, 3) := by decide +kernel
theorem dX10_nextUsable_101 : decode cX10_nextUsable 101 = .ok (.goto (-84), 3) := by decide +kernel
theorem dX10_nextUsable_104 : decode cX10_nextUsable 104 = .ok (.iload_n 3, 1) := by decide +kernel
theorem dX10_nextUsable_105 : decode cX10_nextUsable 105 = .ok (.ireturn, 1) := by decide +kernel
theorem dX10_leadsTo_0 : decode cX10_leadsTo 0 = .ok (.iload_n 1, 1) := by decide +kernel
theorem dX10_leadsTo_1 : decode cX10_leadsTo 1 = .ok (.istore_n 3, 1) := by decide +kernel
theorem dX10_leadsTo_2 : decode cX10_leadsTo 2 = .ok (.iconst 0, 1) := by decide +kernel
theorem dX10_leadsTo_3 : decode cX10_leadsTo 3 = .ok (.istore 4, 2) := by decide +kernel
theorem dX10_leadsTo_5 : decode cX10_leadsTo 5 = .ok (.iload 4, 2) := by decide +kernel
theorem dX10_leadsTo_7 : decode cX10_leadsTo 7 = .ok (.bipush 6, 2) := by decide +kernel
theorem dX10_leadsTo_9 : decode cX10_leadsTo 9 = .ok (.if_icmp .ge 30, 3) := by decide +kernel
theorem dX10_leadsTo_12 : decode cX10_leadsTo 12 = .ok (.iload_n 3, 1) := by decide +kernel
theorem dX10_leadsTo_13 : decode cX10_leadsTo 13 = .ok (.iconst (-1), 1) := by decide +kernel
theorem dX10_leadsTo_14 : decode cX10_leadsTo 14 = .ok (.if_icmp .eq 25, 3) := by decide +kernel
theorem dX10_leadsTo_17 : decode cX10_leadsTo 17 = .ok (.iload_n 3, 1) := by decide +kernel
theorem dX10_leadsTo_18 : decode cX10_leadsTo 18 = .ok (.iload_n 2, 1) := by decide +kernel
theorem dX10_leadsTo_19 : decode cX10_leadsTo 19 = .ok (.if_icmp .ne 5, 3) := by decide +kernel
theorem dX10_leadsTo_22 : decode cX10_leadsTo 22 = .ok (.iconst 1, 1) := by decide +kernel
theorem dX10_leadsTo_23 : decode cX10_leadsTo 23 = .ok (.ireturn, 1) := by decide +kernel
theorem dX10_leadsTo_24 : decode cX10_leadsTo 24 = .ok (.aload_n 0, 1) := by decide +kernel
theorem dX10_leadsTo_25 : decode cX10_leadsTo 25 = .ok (.getfield 54, 3) := by decide +kernel
theorem dX10_leadsTo_28 : decode cX10_leadsTo 28 = .ok (.iload_n 3, 1) := by decide +kernel
theorem dX10_leadsTo_29 : decode cX10_leadsTo 29 = .ok (.invokevirtual 70, 3) := by decide +kernel
theorem dX10_leadsTo_32 : decode cX10_leadsTo 32 = .ok (.istore_n 3, 1) := by decide +kernel
theorem dX10_leadsTo_33 : decode cX10_leadsTo 33 = .ok (.iinc 4 1, 3) := by decide +kernel
theorem dX10_leadsTo_36 : decode cX10_leadsTo 36 = .ok (.goto (-31), 3) := by decide +kernel
theorem dX10_leadsTo_39 : decode cX10_leadsTo 39 = .ok (.iconst 0, 1) := by decide +kernel
theorem dX10_leadsTo_40 : decode cX10_leadsTo 40 = .ok (.ireturn, 1) := by decide +kernel
theorem dX10_redirect_0 : decode cX10_redirect 0 = .ok (.aload_n 0, 1) := by decide +kernel
theorem dX10_redirect_1 : decode cX10_redirect 1 = .ok (.getfield 54, 3) := by decide +kernel
theorem dX10_redirect_4 : decode cX10_redirect 4 = .ok (.iload_n 1, 1) := by decide +kernel
theorem dX10_redirect_5 : decode cX10_redirect 5 = .ok (.iload_n 2, 1) := by decide +kernel
theorem dX10_redirect_6 : decode cX10_redirect 6 = .ok (.invokevirtual 107, 3) := by decide +kernel
theorem dX10_redirect_9 : decode cX10_redirect 9 = .ok (.istore_n 3, 1) := by decide +kernel
theorem dX10_redirect_10 : decode cX10_redirect 10 = .ok (.iconst 0, 1) := by decide +kernel
theorem dX10_redirect_11 : decode cX10_redirect 11 = .ok (.istore 4, 2) := by decide +kernel
theorem dX10_redirect_13 : decode cX10_redirect 13 = .ok (.iload 4, 2) := by decide +kernel
theorem dX10_redirect_15 : decode cX10_redirect 15 = .ok (.bipush 6, 2) := by decide +kernel
theorem dX10_redirect_17 : decode cX10_redirect 17 = .ok (.if_icmp .ge 24, 3) := by decide +kernel
theorem dX10_redirect_20 : decode cX10_redirect 20 = .ok (.aload_n 0, 1) := by decide +kernel
theorem dX10_redirect_21 : decode cX10_redirect 21 = .ok (.getfield 57, 3) := by decide +kernel
theorem dX10_redirect_24 : decode cX10_redirect 24 = .ok (.iload 4, 2) := by decide +kernel
theorem dX10_redirect_26 : decode cX10_redirect 26 = .ok (.aload_n 0, 1) := by decide +kernel
theorem dX10_redirect_27 : decode cX10_redirect 27 = .ok (.iload 4, 2) := by decide +kernel
theorem dX10_redirect_29 : decode cX10_redirect 29 = .ok (.invokevirtual 110, 3) := by decide +kernel
theorem dX10_redirect_32 : decode cX10_redirect 32 = .ok (.invokevirtual 60, 3) := by decide +kernel
theorem dX10_redirect_35 : decode cX10_redirect 35 = .ok (.iinc 4 1, 3) := by decide +kernel
theorem dX10_redirect_38 : decode cX10_redirect 38 = .ok (.goto (-25), 3) := by decide +kernel
theorem dX10_redirect_41 : decode cX10_redirect 41 = .ok (.iload_n 3, 1) := by decide +kernel
theorem dX10_redirect_42 : decode cX10_redirect 42 = .ok (.ireturn, 1) := by decide +kernel
theorem dX10_lastSuccessor_0 : decode cX10_lastSuccessor 0 = .ok (.iload_n 1, 1) := by decide +kernel
theorem dX10_lastSuccessor_1 : decode cX10_lastSuccessor 1 = .ok (.istore_n 2, 1) := by decide +kernel
theorem dX10_lastSuccessor_2 : decode cX10_lastSuccessor 2 = .ok (.iconst 0, 1) := by decide +kernel
theorem dX10_lastSuccessor_3 : decode cX10_lastSuccessor 3 = .ok (.istore_n 3, 1) := by decide +kernel
theorem dX10_lastSuccessor_4 : decode cX10_lastSuccessor 4 = .ok (.iload_n 3, 1) := by decide +kernel
theorem dX10_lastSuccessor_5 : decode cX10_lastSuccessor 5 = .ok (.bipush 6, 2) := by decide +kernel
theorem dX10_lastSuccessor_7 : decode cX10_lastSuccessor 7 = .ok (.if_icmp .ge 30, 3) := by decide +kernel
theorem dX10_lastSuccessor_10 : decode cX10_lastSuccessor 10 = .ok (.aload_n 0, 1) := by decide +kernel
theorem dX10_lastSuccessor_11 : decode cX10_lastSuccessor 11 = .ok (.getfield 54, 3) := by decide +kernel
theorem dX10_lastSuccessor_14 : decode cX10_lastSuccessor 14 = .ok (.iload_n 2, 1) := by decide +kernel
theorem dX10_lastSuccessor_15 : decode cX10_lastSuccessor 15 = .ok (.invokevirtual 70, 3) := by decide +kernel
theorem dX10_lastSuccessor_18 : decode cX10_lastSuccessor 18 = .ok (.iconst (-1), 1) := by decide +kernel
theorem dX10_lastSuccessor_19 : decode cX10_lastSuccessor 19 = .ok (.if_icmp .eq 18, 3) := by decide +kernel
theorem dX10_lastSuccessor_22 : decode cX10_lastSuccessor 22 = .ok (.aload_n 0, 1) := by decide +kernel
theorem dX10_lastSuccessor_23 : decode cX10_lastSuccessor 23 = .ok (.getfield 54, 3) := by decide +kernel
theorem dX10_lastSuccessor_26 : decode cX10_lastSuccessor 26 = .ok (.iload_n 2, 1) := by decide +kernel
theorem dX10_lastSuccessor_27 : decode cX10_lastSuccessor 27 = .ok (.invokevirtual 70, 3) := by decide +kernel
theorem dX10_lastSuccessor_30 : decode cX10_lastSuccessor 30 = .ok (.istore_n 2, 1) := by decide +kernel
theorem dX10_lastSuccessor_31 : decode cX10_lastSuccessor 31 = .ok (.iinc 3 1, 3) := by decide +kernel
theorem dX10_lastSuccessor_34 : decode cX10_lastSuccessor 34 = .ok (.goto (-30), 3) := by decide +kernel
theorem dX10_lastSuccessor_37 : decode cX10_lastSuccessor 37 = .ok (.iload_n 2, 1) := by decide +kernel
theorem dX10_lastSuccessor_38 : decode cX10_lastSuccessor 38 = .ok (.ireturn, 1) := by decide +kernel
theorem dX10_targetOfDemand_0 : decode cX10_targetOfDemand 0 = .ok (.aload_n 0, 1) := by decide +kernel
theorem dX10_targetOfDemand_1 : decode cX10_targetOfDemand 1 = .ok (.getfield 57, 3) := by decide +kernel
theorem dX10_targetOfDemand_4 : decode cX10_targetOfDemand 4 = .ok (.aload_n 0, 1) := by decide +kernel
theorem dX10_targetOfDemand_5 : decode cX10_targetOfDemand 5 = .ok (.getfield 35, 3) := by decide +kernel
theorem dX10_targetOfDemand_8 : decode cX10_targetOfDemand 8 = .ok (.getfield 113, 3) := by decide +kernel
theorem dX10_targetOfDemand_11 : decode cX10_targetOfDemand 11 = .ok (.iload_n 1, 1) := by decide +kernel
theorem dX10_targetOfDemand_12 : decode cX10_targetOfDemand 12 = .ok (.invokevirtual 70, 3) := by decide +kernel
theorem dX10_targetOfDemand_15 : decode cX10_targetOfDemand 15 = .ok (.invokevirtual 70, 3) := by decide +kernel
theorem dX10_targetOfDemand_18 : decode cX10_targetOfDemand 18 = .ok (.ireturn, 1) := by decide +kernel
theorem dX10_targetOfNeed_0 : decode cX10_targetOfNeed 0 = .ok (.aload_n 0, 1) := by decide +kernel
theorem dX10_targetOfNeed_1 : decode cX10_targetOfNeed 1 = .ok (.getfield 57, 3) := by decide +kernel
theorem dX10_targetOfNeed_4 : decode cX10_targetOfNeed 4 = .ok (.aload_n 0, 1) := by decide +kernel
theorem dX10_targetOfNeed_5 : decode cX10_targetOfNeed 5 = .ok (.getfield 28, 3) := by decide +kernel
theorem dX10_targetOfNeed_8 : decode cX10_targetOfNeed 8 = .ok (.getfield 116, 3) := by decide +kernel
theorem dX10_targetOfNeed_11 : decode cX10_targetOfNeed 11 = .ok (.iload_n 1, 1) := by decide +kernel
theorem dX10_targetOfNeed_12 : decode cX10_targetOfNeed 12 = .ok (.invokevirtual 70, 3) := by decide +kernel
theorem dX10_targetOfNeed_15 : decode cX10_targetOfNeed 15 = .ok (.invokevirtual 70, 3) := by decide +kernel
theorem dX10_targetOfNeed_18 : decode cX10_targetOfNeed 18 = .ok (.ireturn, 1) := by decide +kernel
theorem dX10_counts_0 : decode cX10_counts 0 = .ok (.aload_n 0, 1) := by decide +kernel
theorem dX10_counts_1 : decode cX10_counts 1 = .ok (.getfield 28, 3) := by decide +kernel
theorem dX10_counts_4 : decode cX10_counts 4 = .ok (.getfield 117, 3) := by decide +kernel
theorem dX10_counts_7 : decode cX10_counts 7 = .ok (.iload_n 1, 1) := by decide +kernel
theorem dX10_counts_8 : decode cX10_counts 8 = .ok (.invokevirtual 70, 3) := by decide +kernel
theorem dX10_counts_11 : decode cX10_counts 11 = .ok (.istore_n 3, 1) := by decide +kernel
theorem dX10_counts_12 : decode cX10_counts 12 = .ok (.aload_n 0, 1) := by decide +kernel
theorem dX10_counts_13 : decode cX10_counts 13 = .ok (.getfield 28, 3) := by decide +kernel
theorem dX10_counts_16 : decode cX10_counts 16 = .ok (.getfield 120, 3) := by decide +kernel
theorem dX10_counts_19 : decode cX10_counts 19 = .ok (.iload_n 1, 1) := by decide +kernel
theorem dX10_counts_20 : decode cX10_counts 20 = .ok (.invokevirtual 70, 3) := by decide +kernel
theorem dX10_counts_23 : decode cX10_counts 23 = .ok (.aload_n 0, 1) := by decide +kernel
theorem dX10_counts_24 : decode cX10_counts 24 = .ok (.getfield 84, 3) := by decide +kernel
theorem dX10_counts_27 : decode cX10_counts 27 = .ok (.invokestatic 87, 3) := by decide +kernel
theorem dX10_counts_30 : decode cX10_counts 30 = .ok (.ifCond .eq 20, 3) := by decide +kernel
theorem dX10_counts_33 : decode cX10_counts 33 = .ok (.iload_n 3, 1) := by decide +kernel
theorem dX10_counts_34 : decode cX10_counts 34 = .ok (.iconst (-1), 1) := by decide +kernel
theorem dX10_counts_35 : decode cX10_counts 35 = .ok (.if_icmp .eq 11, 3) := by decide +kernel
theorem dX10_counts_38 : decode cX10_counts 38 = .ok (.iload_n 2, 1) := by decide +kernel
theorem dX10_counts_39 : decode cX10_counts 39 = .ok (.iload_n 3, 1) := by decide +kernel
theorem dX10_counts_40 : decode cX10_counts 40 = .ok (.invokestatic 87, 3) := by decide +kernel
theorem dX10_counts_43 : decode cX10_counts 43 = .ok (.ifCond .eq 7, 3) := by decide +kernel
theorem dX10_counts_46 : decode cX10_counts 46 = .ok (.iconst 1, 1) := by decide +kernel
theorem dX10_counts_47 : decode cX10_counts 47 = .ok (.goto 4, 3) := by decide +kernel
theorem dX10_counts_50 : decode cX10_counts 50 = .ok (.iconst 0, 1) := by decide +kernel
theorem dX10_counts_51 : decode cX10_counts 51 = .ok (.ireturn, 1) := by decide +kernel
theorem dX10_pulledBy_0 : decode cX10_pulledBy 0 = .ok (.iconst 0, 1) := by decide +kernel
theorem dX10_pulledBy_1 : decode cX10_pulledBy 1 = .ok (.istore_n 3, 1) := by decide +kernel
theorem dX10_pulledBy_2 : decode cX10_pulledBy 2 = .ok (.aload_n 0, 1) := by decide +kernel
theorem dX10_pulledBy_3 : decode cX10_pulledBy 3 = .ok (.getfield 28, 3) := by decide +kernel
theorem dX10_pulledBy_6 : decode cX10_pulledBy 6 = .ok (.iload_n 1, 1) := by decide +kernel
theorem dX10_pulledBy_7 : decode cX10_pulledBy 7 = .ok (.invokevirtual 121, 3) := by decide +kernel
theorem dX10_pulledBy_10 : decode cX10_pulledBy 10 = .ok (.istore 4, 2) := by decide +kernel
theorem dX10_pulledBy_12 : decode cX10_pulledBy 12 = .ok (.aload_n 0, 1) := by decide +kernel
theorem dX10_pulledBy_13 : decode cX10_pulledBy 13 = .ok (.getfield 28, 3) := by decide +kernel
theorem dX10_pulledBy_16 : decode cX10_pulledBy 16 = .ok (.iload_n 1, 1) := by decide +kernel
theorem dX10_pulledBy_17 : decode cX10_pulledBy 17 = .ok (.invokevirtual 124, 3) := by decide +kernel
theorem dX10_pulledBy_20 : decode cX10_pulledBy 20 = .ok (.istore 5, 2) := by decide +kernel
theorem dX10_pulledBy_22 : decode cX10_pulledBy 22 = .ok (.iload 5, 2) := by decide +kernel
theorem dX10_pulledBy_24 : decode cX10_pulledBy 24 = .ok (.iload 4, 2) := by decide +kernel
theorem dX10_pulledBy_26 : decode cX10_pulledBy 26 = .ok (.if_icmp .ge 46, 3) := by decide +kernel
theorem dX10_pulledBy_29 : decode cX10_pulledBy 29 = .ok (.aload_n 0, 1) := by decide +kernel
theorem dX10_pulledBy_30 : decode cX10_pulledBy 30 = .ok (.getfield 28, 3) := by decide +kernel
theorem dX10_pulledBy_33 : decode cX10_pulledBy 33 = .ok (.getfield 127, 3) := by decide +kernel
theorem dX10_pulledBy_36 : decode cX10_pulledBy 36 = .ok (.iload 5, 2) := by decide +kernel
theorem dX10_pulledBy_38 : decode cX10_pulledBy 38 = .ok (.invokevirtual 70, 3) := by decide +kernel
theorem dX10_pulledBy_41 : decode cX10_pulledBy 41 = .ok (.iconst 2, 1) := by decide +kernel
theorem dX10_pulledBy_42 : decode cX10_pulledBy 42 = .ok (.if_icmp .eq 24, 3) := by decide +kernel
theorem dX10_pulledBy_45 : decode cX10_pulledBy 45 = .ok (.aload_n 0, 1) := by decide +kernel
theorem dX10_pulledBy_46 : decode cX10_pulledBy 46 = .ok (.iload 5, 2) := by decide +kernel
theorem dX10_pulledBy_48 : decode cX10_pulledBy 48 = .ok (.iload_n 2, 1) := by decide +kernel
theorem dX10_pulledBy_49 : decode cX10_pulledBy 49 = .ok (.invokevirtual 130, 3) := by decide +kernel
theorem dX10_pulledBy_52 : decode cX10_pulledBy 52 = .ok (.ifCond .eq 14, 3) := by decide +kernel
theorem dX10_pulledBy_55 : decode cX10_pulledBy 55 = .ok (.iload_n 3, 1) := by decide +kernel
theorem dX10_pulledBy_56 : decode cX10_pulledBy 56 = .ok (.iconst 1, 1) := by decide +kernel
theorem dX10_pulledBy_57 : decode cX10_pulledBy 57 = .ok (.aload_n 0, 1) := by decide +kernel
theorem dX10_pulledBy_58 : decode cX10_pulledBy 58 = .ok (.iload 5, 2) := by decide +kernel
theorem dX10_pulledBy_60 : decode cX10_pulledBy 60 = .ok (.invokevirtual 133, 3) := by decide +kernel
theorem dX10_pulledBy_63 : decode cX10_pulledBy 63 = .ok (.ishl, 1) := by decide +kernel
theorem dX10_pulledBy_64 : decode cX10_pulledBy 64 = .ok (.ior, 1) := by decide +kernel
theorem dX10_pulledBy_65 : decode cX10_pulledBy 65 = .ok (.istore_n 3, 1) := by decide +kernel
theorem dX10_pulledBy_66 : decode cX10_pulledBy 66 = .ok (.iinc 5 1, 3) := by decide +kernel
theorem dX10_pulledBy_69 : decode cX10_pulledBy 69 = .ok (.goto (-47), 3) := by decide +kernel
theorem dX10_pulledBy_72 : decode cX10_pulledBy 72 = .ok (.iload_n 3, 1) := by decide +kernel
theorem dX10_pulledBy_73 : decode cX10_pulledBy 73 = .ok (.ireturn, 1) := by decide +kernel
theorem dX10_refuses_0 : decode cX10_refuses 0 = .ok (.aload_n 0, 1) := by decide +kernel
theorem dX10_refuses_1 : decode cX10_refuses 1 = .ok (.getfield 12, 3) := by decide +kernel
theorem dX10_refuses_4 : decode cX10_refuses 4 = .ok (.getfield 67, 3) := by decide +kernel
theorem dX10_refuses_7 : decode cX10_refuses 7 = .ok (.iload_n 2, 1) := by decide +kernel
theorem dX10_refuses_8 : decode cX10_refuses 8 = .ok (.invokevirtual 70, 3) := by decide +kernel
theorem dX10_refuses_11 : decode cX10_refuses 11 = .ok (.istore_n 3, 1) := by decide +kernel
theorem dX10_refuses_12 : decode cX10_refuses 12 = .ok (.iconst 0, 1) := by decide +kernel
theorem dX10_refuses_13 : decode cX10_refuses 13 = .ok (.istore 4, 2) := by decide +kernel
theorem dX10_refuses_15 : decode cX10_refuses 15 = .ok (.iload 4, 2) := by decide +kernel
theorem dX10_refuses_17 : decode cX10_refuses 17 = .ok (.aload_n 0, 1) := by decide +kernel
theorem dX10_refuses_18 : decode cX10_refuses 18 = .ok (.getfield 35, 3) := by decide +kernel
theorem dX10_refuses_21 : decode cX10_refuses 21 = .ok (.getfield 136, 3) := by decide +kernel
theorem dX10_refuses_24 : decode cX10_refuses 24 = .ok (.if_icmp .ge 53, 3) := by decide +kernel
theorem dX10_refuses_27 : decode cX10_refuses 27 = .ok (.iload_n 1, 1) := by decide +kernel
theorem dX10_refuses_28 : decode cX10_refuses 28 = .ok (.iload 4, 2) := by decide +kernel
theorem dX10_refuses_30 : decode cX10_refuses 30 = .ok (.invokestatic 87, 3) := by decide +kernel
theorem dX10_refuses_33 : decode cX10_refuses 33 = .ok (.ifCond .eq 38, 3) := by decide +kernel
theorem dX10_refuses_36 : decode cX10_refuses 36 = .ok (.aload_n 0, 1) := by decide +kernel
theorem dX10_refuses_37 : decode cX10_refuses 37 = .ok (.iload 4, 2) := by decide +kernel
theorem dX10_refuses_39 : decode cX10_refuses 39 = .ok (.invokevirtual 137, 3) := by decide +kernel
theorem dX10_refuses_42 : decode cX10_refuses 42 = .ok (.iload_n 3, 1) := by decide +kernel
theorem dX10_refuses_43 : decode cX10_refuses 43 = .ok (.if_icmp .ne 28, 3) := by decide +kernel
theorem dX10_refuses_46 : decode cX10_refuses 46 = .ok (.aload_n 0, 1) := by decide +kernel
theorem dX10_refuses_47 : decode cX10_refuses 47 = .ok (.getfield 21, 3) := by decide +kernel
theorem dX10_refuses_50 : decode cX10_refuses 50 = .ok (.aload_n 0, 1) := by decide +kernel
theorem dX10_refuses_51 : decode cX10_refuses 51 = .ok (.getfield 35, 3) := by decide +kernel
theorem dX10_refuses_54 : decode cX10_refuses 54 = .ok (.getfield 140, 3) := by decide +kernel
theorem dX10_refuses_57 : decode cX10_refuses 57 = .ok (.iload 4, 2) := by decide +kernel
theorem dX10_refuses_59 : decode cX10_refuses 59 = .ok (.invokevirtual 70, 3) := by decide +kernel
theorem dX10_refuses_62 : decode cX10_refuses 62 = .ok (.iload_n 2, 1) := by decide +kernel
theorem dX10_refuses_63 : decode cX10_refuses 63 = .ok (.invokevirtual 91, 3) := by decide +kernel
theorem dX10_refuses_66 : decode cX10_refuses 66 = .ok (.ifCond .ne 5, 3) := by decide +kernel
theorem dX10_refuses_69 : decode cX10_refuses 69 = .ok (.iconst 1, 1) := by decide +kernel
theorem dX10_refuses_70 : decode cX10_refuses 70 = .ok (.ireturn, 1) := by decide +kernel
theorem dX10_refuses_71 : decode cX10_refuses 71 = .ok (.iinc 4 1, 3) := by decide +kernel
theorem dX10_refuses_74 : decode cX10_refuses 74 = .ok (.goto (-59), 3) := by decide +kernel
theorem dX10_refuses_77 : decode cX10_refuses 77 = .ok (.iconst 0, 1) := by decide +kernel
theorem dX10_refuses_78 : decode cX10_refuses 78 = .ok (.ireturn, 1) := by decide +kernel
theorem dX10_demanded_0 : decode cX10_demanded 0 = .ok (.iconst 0, 1) := by decide +kernel
theorem dX10_demanded_1 : decode cX10_demanded 1 = .ok (.istore_n 2, 1) := by decide +kernel
theorem dX10_demanded_2 : decode cX10_demanded 2 = .ok (.iconst 0, 1) := by decide +kernel
theorem dX10_demanded_3 : decode cX10_demanded 3 = .ok (.istore_n 3, 1) := by decide +kernel
theorem dX10_demanded_4 : decode cX10_demanded 4 = .ok (.iload_n 3, 1) := by decide +kernel
theorem dX10_demanded_5 : decode cX10_demanded 5 = .ok (.aload_n 0, 1) := by decide +kernel
theorem dX10_demanded_6 : decode cX10_demanded 6 = .ok (.getfield 35, 3) := by decide +kernel
theorem dX10_demanded_9 : decode cX10_demanded 9 = .ok (.getfield 136, 3) := by decide +kernel
theorem dX10_demanded_12 : decode cX10_demanded 12 = .ok (.if_icmp .ge 27, 3) := by decide +kernel
theorem dX10_demanded_15 : decode cX10_demanded 15 = .ok (.iload_n 1, 1) := by decide +kernel
theorem dX10_demanded_16 : decode cX10_demanded 16 = .ok (.iload_n 3, 1) := by decide +kernel
theorem dX10_demanded_17 : decode cX10_demanded 17 = .ok (.invokestatic 87, 3) := by decide +kernel
theorem dX10_demanded_20 : decode cX10_demanded 20 = .ok (.ifCond .eq 13, 3) := by decide +kernel
theorem dX10_demanded_23 : decode cX10_demanded 23 = .ok (.iload_n 2, 1) := by decide +kernel
theorem dX10_demanded_24 : decode cX10_demanded 24 = .ok (.iconst 1, 1) := by decide +kernel
theorem dX10_demanded_25 : decode cX10_demanded 25 = .ok (.aload_n 0, 1) := by decide +kernel
theorem dX10_demanded_26 : decode cX10_demanded 26 = .ok (.iload_n 3, 1) := by decide +kernel
theorem dX10_demanded_27 : decode cX10_demanded 27 = .ok (.invokevirtual 137, 3) := by decide +kernel
theorem dX10_demanded_30 : decode cX10_demanded 30 = .ok (.ishl, 1) := by decide +kernel
theorem dX10_demanded_31 : decode cX10_demanded 31 = .ok (.ior, 1) := by decide +kernel
theorem dX10_demanded_32 : decode cX10_demanded 32 = .ok (.istore_n 2, 1) := by decide +kernel
theorem dX10_demanded_33 : decode cX10_demanded 33 = .ok (.iinc 3 1, 3) := by decide +kernel
theorem dX10_demanded_36 : decode cX10_demanded 36 = .ok (.goto (-32), 3) := by decide +kernel
theorem dX10_demanded_39 : decode cX10_demanded 39 = .ok (.iload_n 2, 1) := by decide +kernel
theorem dX10_demanded_40 : decode cX10_demanded 40 = .ok (.ireturn, 1) := by decide +kernel
theorem dJ6_compare_7cf53_0 : decode cJ6_compare_7cf53 0 = .ok (.iload_n 0, 1) := by decide +kernel
theorem dJ6_compare_7cf53_1 : decode cJ6_compare_7cf53 1 = .ok (.iload_n 1, 1) := by decide +kernel
theorem dJ6_compare_7cf53_2 : decode cJ6_compare_7cf53 2 = .ok (.if_icmp .ge 7, 3) := by decide +kernel
theorem dJ6_compare_7cf53_5 : decode cJ6_compare_7cf53 5 = .ok (.iconst (-1), 1) := by decide +kernel
theorem dJ6_compare_7cf53_6 : decode cJ6_compare_7cf53 6 = .ok (.goto 13, 3) := by decide +kernel
theorem dJ6_compare_7cf53_9 : decode cJ6_compare_7cf53 9 = .ok (.iload_n 0, 1) := by decide +kernel
theorem dJ6_compare_7cf53_10 : decode cJ6_compare_7cf53 10 = .ok (.iload_n 1, 1) := by decide +kernel
theorem dJ6_compare_7cf53_11 : decode cJ6_compare_7cf53 11 = .ok (.if_icmp .ne 7, 3) := by decide +kernel
theorem dJ6_compare_7cf53_14 : decode cJ6_compare_7cf53 14 = .ok (.iconst 0, 1) := by decide +kernel
theorem dJ6_compare_7cf53_15 : decode cJ6_compare_7cf53 15 = .ok (.goto 4, 3) := by decide +kernel
theorem dJ6_compare_7cf53_18 : decode cJ6_compare_7cf53 18 = .ok (.iconst 1, 1) := by decide +kernel
theorem dJ6_compare_7cf53_19 : decode cJ6_compare_7cf53 19 = .ok (.ireturn, 1) := by decide +kernel
theorem dJ6_bitCount_0f7a4_0 : decode cJ6_bitCount_0f7a4 0 = .ok (.iload_n 0, 1) := by decide +kernel
theorem dJ6_bitCount_0f7a4_1 : decode cJ6_bitCount_0f7a4 1 = .ok (.iload_n 0, 1) := by decide +kernel
theorem dJ6_bitCount_0f7a4_2 : decode cJ6_bitCount_0f7a4 2 = .ok (.iconst 1, 1) := by decide +kernel
theorem dJ6_bitCount_0f7a4_3 : decode cJ6_bitCount_0f7a4 3 = .ok (.iushr, 1) := by decide +kernel
theorem dJ6_bitCount_0f7a4_4 : decode cJ6_bitCount_0f7a4 4 = .ok (.ldc_w 265, 3) := by decide +kernel
theorem dJ6_bitCount_0f7a4_7 : decode cJ6_bitCount_0f7a4 7 = .ok (.iand, 1) := by decide +kernel
theorem dJ6_bitCount_0f7a4_8 : decode cJ6_bitCount_0f7a4 8 = .ok (.isub, 1) := by decide +kernel
theorem dJ6_bitCount_0f7a4_9 : decode cJ6_bitCount_0f7a4 9 = .ok (.istore_n 0, 1) := by decide +kernel
theorem dJ6_bitCount_0f7a4_10 : decode cJ6_bitCount_0f7a4 10 = .ok (.iload_n 0, 1) := by decide +kernel
theorem dJ6_bitCount_0f7a4_11 : decode cJ6_bitCount_0f7a4 11 = .ok (.ldc_w 266, 3) := by decide +kernel
theorem dJ6_bitCount_0f7a4_14 : decode cJ6_bitCount_0f7a4 14 = .ok (.iand, 1) := by decide +kernel
theorem dJ6_bitCount_0f7a4_15 : decode cJ6_bitCount_0f7a4 15 = .ok (.iload_n 0, 1) := by decide +kernel
theorem dJ6_bitCount_0f7a4_16 : decode cJ6_bitCount_0f7a4 16 = .ok (.iconst 2, 1) := by decide +kernel
theorem dJ6_bitCount_0f7a4_17 : decode cJ6_bitCount_0f7a4 17 = .ok (.iushr, 1) := by decide +kernel
theorem dJ6_bitCount_0f7a4_18 : decode cJ6_bitCount_0f7a4 18 = .ok (.ldc_w 266, 3) := by decide +kernel
theorem dJ6_bitCount_0f7a4_21 : decode cJ6_bitCount_0f7a4 21 = .ok (.iand, 1) := by decide +kernel
theorem dJ6_bitCount_0f7a4_22 : decode cJ6_bitCount_0f7a4 22 = .ok (.iadd, 1) := by decide +kernel
theorem dJ6_bitCount_0f7a4_23 : decode cJ6_bitCount_0f7a4 23 = .ok (.istore_n 0, 1) := by decide +kernel
theorem dJ6_bitCount_0f7a4_24 : decode cJ6_bitCount_0f7a4 24 = .ok (.iload_n 0, 1) := by decide +kernel
theorem dJ6_bitCount_0f7a4_25 : decode cJ6_bitCount_0f7a4 25 = .ok (.iload_n 0, 1) := by decide +kernel
theorem dJ6_bitCount_0f7a4_26 : decode cJ6_bitCount_0f7a4 26 = .ok (.iconst 4, 1) := by decide +kernel
theorem dJ6_bitCount_0f7a4_27 : decode cJ6_bitCount_0f7a4 27 = .ok (.iushr, 1) := by decide +kernel
theorem dJ6_bitCount_0f7a4_28 : decode cJ6_bitCount_0f7a4 28 = .ok (.iadd, 1) := by decide +kernel
theorem dJ6_bitCount_0f7a4_29 : decode cJ6_bitCount_0f7a4 29 = .ok (.ldc_w 267, 3) := by decide +kernel
theorem dJ6_bitCount_0f7a4_32 : decode cJ6_bitCount_0f7a4 32 = .ok (.iand, 1) := by decide +kernel
theorem dJ6_bitCount_0f7a4_33 : decode cJ6_bitCount_0f7a4 33 = .ok (.istore_n 0, 1) := by decide +kernel
theorem dJ6_bitCount_0f7a4_34 : decode cJ6_bitCount_0f7a4 34 = .ok (.iload_n 0, 1) := by decide +kernel
theorem dJ6_bitCount_0f7a4_35 : decode cJ6_bitCount_0f7a4 35 = .ok (.iload_n 0, 1) := by decide +kernel
theorem dJ6_bitCount_0f7a4_36 : decode cJ6_bitCount_0f7a4 36 = .ok (.bipush 8, 2) := by decide +kernel
theorem dJ6_bitCount_0f7a4_38 : decode cJ6_bitCount_0f7a4 38 = .ok (.iushr, 1) := by decide +kernel
theorem dJ6_bitCount_0f7a4_39 : decode cJ6_bitCount_0f7a4 39 = .ok (.iadd, 1) := by decide +kernel
theorem dJ6_bitCount_0f7a4_40 : decode cJ6_bitCount_0f7a4 40 = .ok (.istore_n 0, 1) := by decide +kernel
theorem dJ6_bitCount_0f7a4_41 : decode cJ6_bitCount_0f7a4 41 = .ok (.iload_n 0, 1) := by decide +kernel
theorem dJ6_bitCount_0f7a4_42 : decode cJ6_bitCount_0f7a4 42 = .ok (.iload_n 0, 1) := by decide +kernel
theorem dJ6_bitCount_0f7a4_43 : decode cJ6_bitCount_0f7a4 43 = .ok (.bipush 16, 2) := by decide +kernel
theorem dJ6_bitCount_0f7a4_45 : decode cJ6_bitCount_0f7a4 45 = .ok (.iushr, 1) := by decide +kernel
theorem dJ6_bitCount_0f7a4_46 : decode cJ6_bitCount_0f7a4 46 = .ok (.iadd, 1) := by decide +kernel
theorem dJ6_bitCount_0f7a4_47 : decode cJ6_bitCount_0f7a4 47 = .ok (.istore_n 0, 1) := by decide +kernel
theorem dJ6_bitCount_0f7a4_48 : decode cJ6_bitCount_0f7a4 48 = .ok (.iload_n 0, 1) := by decide +kernel
theorem dJ6_bitCount_0f7a4_49 : decode cJ6_bitCount_0f7a4 49 = .ok (.bipush 63, 2) := by decide +kernel
theorem dJ6_bitCount_0f7a4_51 : decode cJ6_bitCount_0f7a4 51 = .ok (.iand, 1) := by decide +kernel
theorem dJ6_bitCount_0f7a4_52 : decode cJ6_bitCount_0f7a4 52 = .ok (.ireturn, 1) := by decide +kernel
theorem dJ7_fill_53178_0 : decode cJ7_fill_53178 0 = .ok (.iconst 0, 1) := by decide +kernel
theorem dJ7_fill_53178_1 : decode cJ7_fill_53178 1 = .ok (.istore_n 2, 1) := by decide +kernel
theorem dJ7_fill_53178_2 : decode cJ7_fill_53178 2 = .ok (.aload_n 0, 1) := by decide +kernel
theorem dJ7_fill_53178_3 : decode cJ7_fill_53178 3 = .ok (.arraylength, 1) := by decide +kernel
theorem dJ7_fill_53178_4 : decode cJ7_fill_53178 4 = .ok (.istore_n 3, 1) := by decide +kernel
theorem dJ7_fill_53178_5 : decode cJ7_fill_53178 5 = .ok (.iload_n 2, 1) := by decide +kernel
theorem dJ7_fill_53178_6 : decode cJ7_fill_53178 6 = .ok (.iload_n 3, 1) := by decide +kernel
theorem dJ7_fill_53178_7 : decode cJ7_fill_53178 7 = .ok (.if_icmp .ge 13, 3) := by decide +kernel
theorem dJ7_fill_53178_10 : decode cJ7_fill_53178 10 = .ok (.aload_n 0, 1) := by decide +kernel
theorem dJ7_fill_53178_11 : decode cJ7_fill_53178 11 = .ok (.iload_n 2, 1) := by decide +kernel
theorem dJ7_fill_53178_12 : decode cJ7_fill_53178 12 = .ok (.iload_n 1, 1) := by decide +kernel
theorem dJ7_fill_53178_13 : decode cJ7_fill_53178 13 = .ok (.iastore, 1) := by decide +kernel
theorem dJ7_fill_53178_14 : decode cJ7_fill_53178 14 = .ok (.iinc 2 1, 3) := by decide +kernel
theorem dJ7_fill_53178_17 : decode cJ7_fill_53178 17 = .ok (.goto (-12), 3) := by decide +kernel
theorem dJ7_fill_53178_20 : decode cJ7_fill_53178 20 = .ok (.return_, 1) := by decide +kernel

theorem dX11_init_0 : decode cX11_init 0 = .ok (.aload_n 0, 1) := by decide +kernel
theorem dX11_init_1 : decode cX11_init 1 = .ok (.invokespecial 3, 3) := by decide +kernel
theorem dX11_init_4 : decode cX11_init 4 = .ok (.new 9, 3) := by decide +kernel
theorem dX11_init_7 : decode cX11_init 7 = .ok (.dup, 1) := by decide +kernel
theorem dX11_init_8 : decode cX11_init 8 = .ok (.invokespecial 11, 3) := by decide +kernel
theorem dX11_init_11 : decode cX11_init 11 = .ok (.astore_n 1, 1) := by decide +kernel
theorem dX11_init_12 : decode cX11_init 12 = .ok (.new 12, 3) := by decide +kernel
theorem dX11_init_15 : decode cX11_init 15 = .ok (.dup, 1) := by decide +kernel
theorem dX11_init_16 : decode cX11_init 16 = .ok (.aload_n 1, 1) := by decide +kernel
theorem dX11_init_17 : decode cX11_init 17 = .ok (.invokespecial 14, 3) := by decide +kernel
theorem dX11_init_20 : decode cX11_init 20 = .ok (.astore_n 2, 1) := by decide +kernel
theorem dX11_init_21 : decode cX11_init 21 = .ok (.aload_n 0, 1) := by decide +kernel
theorem dX11_init_22 : decode cX11_init 22 = .ok (.aload_n 1, 1) := by decide +kernel
theorem dX11_init_23 : decode cX11_init 23 = .ok (.putfield 17, 3) := by decide +kernel
theorem dX11_init_26 : decode cX11_init 26 = .ok (.aload_n 0, 1) := by decide +kernel
theorem dX11_init_27 : decode cX11_init 27 = .ok (.aload_n 2, 1) := by decide +kernel
theorem dX11_init_28 : decode cX11_init 28 = .ok (.putfield 21, 3) := by decide +kernel
theorem dX11_init_31 : decode cX11_init 31 = .ok (.aload_n 0, 1) := by decide +kernel
theorem dX11_init_32 : decode cX11_init 32 = .ok (.new 25, 3) := by decide +kernel
theorem dX11_init_35 : decode cX11_init 35 = .ok (.dup, 1) := by decide +kernel
theorem dX11_init_36 : decode cX11_init 36 = .ok (.aload_n 1, 1) := by decide +kernel
theorem dX11_init_37 : decode cX11_init 37 = .ok (.aload_n 2, 1) := by decide +kernel
theorem dX11_init_38 : decode cX11_init 38 = .ok (.invokespecial 27, 3) := by decide +kernel
theorem dX11_init_41 : decode cX11_init 41 = .ok (.putfield 30, 3) := by decide +kernel
theorem dX11_init_44 : decode cX11_init 44 = .ok (.aload_n 0, 1) := by decide +kernel
theorem dX11_init_45 : decode cX11_init 45 = .ok (.new 34, 3) := by decide +kernel
theorem dX11_init_48 : decode cX11_init 48 = .ok (.dup, 1) := by decide +kernel
theorem dX11_init_49 : decode cX11_init 49 = .ok (.aload_n 1, 1) := by decide +kernel
theorem dX11_init_50 : decode cX11_init 50 = .ok (.aload_n 2, 1) := by decide +kernel
theorem dX11_init_51 : decode cX11_init 51 = .ok (.invokespecial 36, 3) := by decide +kernel
theorem dX11_init_54 : decode cX11_init 54 = .ok (.putfield 37, 3) := by decide +kernel
theorem dX11_init_57 : decode cX11_init 57 = .ok (.aload_n 0, 1) := by decide +kernel
theorem dX11_init_58 : decode cX11_init 58 = .ok (.new 41, 3) := by decide +kernel
theorem dX11_init_61 : decode cX11_init 61 = .ok (.dup, 1) := by decide +kernel
theorem dX11_init_62 : decode cX11_init 62 = .ok (.invokespecial 43, 3) := by decide +kernel
theorem dX11_init_65 : decode cX11_init 65 = .ok (.putfield 44, 3) := by decide +kernel
theorem dX11_init_68 : decode cX11_init 68 = .ok (.return_, 1) := by decide +kernel
theorem dX11_publish_0 : decode cX11_publish 0 = .ok (.iload_n 1, 1) := by decide +kernel
theorem dX11_publish_1 : decode cX11_publish 1 = .ok (.invokestatic 48, 3) := by decide +kernel
theorem dX11_publish_4 : decode cX11_publish 4 = .ok (.ifCond .eq 12, 3) := by decide +kernel
theorem dX11_publish_7 : decode cX11_publish 7 = .ok (.iconst 1, 1) := by decide +kernel
theorem dX11_publish_8 : decode cX11_publish 8 = .ok (.iload 6, 2) := by decide +kernel
theorem dX11_publish_10 : decode cX11_publish 10 = .ok (.invokestatic 52, 3) := by decide +kernel
theorem dX11_publish_13 : decode cX11_publish 13 = .ok (.ifCond .ne 13, 3) := by decide +kernel
theorem dX11_publish_16 : decode cX11_publish 16 = .ok (.new 56, 3) := by decide +kernel
theorem dX11_publish_19 : decode cX11_publish 19 = .ok (.dup, 1) := by decide +kernel
theorem dX11_publish_20 : decode cX11_publish 20 = .ok (.ldc 58, 2) := by decide +kernel
theorem dX11_publish_22 : decode cX11_publish 22 = .ok (.invokespecial 60, 3) := by decide +kernel
theorem dX11_publish_25 : decode cX11_publish 25 = .ok (.athrow, 1) := by decide +kernel
theorem dX11_publish_26 : decode cX11_publish 26 = .ok (.iload_n 2, 1) := by decide +kernel
theorem dX11_publish_27 : decode cX11_publish 27 = .ok (.invokestatic 63, 3) := by decide +kernel
theorem dX11_publish_30 : decode cX11_publish 30 = .ok (.ifCond .eq 26, 3) := by decide +kernel
theorem dX11_publish_33 : decode cX11_publish 33 = .ok (.iload_n 3, 1) := by decide +kernel
theorem dX11_publish_34 : decode cX11_publish 34 = .ok (.invokestatic 63, 3) := by decide +kernel
theorem dX11_publish_37 : decode cX11_publish 37 = .ok (.ifCond .eq 19, 3) := by decide +kernel
theorem dX11_publish_40 : decode cX11_publish 40 = .ok (.iload 4, 2) := by decide +kernel
theorem dX11_publish_42 : decode cX11_publish 42 = .ok (.invokestatic 63, 3) := by decide +kernel
theorem dX11_publish_45 : decode cX11_publish 45 = .ok (.ifCond .eq 11, 3) := by decide +kernel
theorem dX11_publish_48 : decode cX11_publish 48 = .ok (.iload 5, 2) := by decide +kernel
theorem dX11_publish_50 : decode cX11_publish 50 = .ok (.invokestatic 63, 3) := by decide +kernel
theorem dX11_publish_53 : decode cX11_publish 53 = .ok (.ifCond .ne 13, 3) := by decide +kernel
theorem dX11_publish_56 : decode cX11_publish 56 = .ok (.new 66, 3) := by decide +kernel
theorem dX11_publish_59 : decode cX11_publish 59 = .ok (.dup, 1) := by decide +kernel
theorem dX11_publish_60 : decode cX11_publish 60 = .ok (.ldc 68, 2) := by decide +kernel
theorem dX11_publish_62 : decode cX11_publish 62 = .ok (.invokespecial 70, 3) := by decide +kernel
theorem dX11_publish_65 : decode cX11_publish 65 = .ok (.athrow, 1) := by decide +kernel
theorem dX11_publish_66 : decode cX11_publish 66 = .ok (.iload_n 2, 1) := by decide +kernel
theorem dX11_publish_67 : decode cX11_publish 67 = .ok (.iload_n 3, 1) := by decide +kernel
theorem dX11_publish_68 : decode cX11_publish 68 = .ok (.iload 4, 2) := by decide +kernel
theorem dX11_publish_70 : decode cX11_publish 70 = .ok (.iload 5, 2) := by decide +kernel
theorem dX11_publish_72 : decode cX11_publish 72 = .ok (.invokestatic 71, 3) := by decide +kernel
theorem dX11_publish_75 : decode cX11_publish 75 = .ok (.istore 7, 2) := by decide +kernel
theorem dX11_publish_77 : decode cX11_publish 77 = .ok (.aload_n 0, 1) := by decide +kernel
theorem dX11_publish_78 : decode cX11_publish 78 = .ok (.getfield 17, 3) := by decide +kernel
theorem dX11_publish_81 : decode cX11_publish 81 = .ok (.getfield 75, 3) := by decide +kernel
theorem dX11_publish_84 : decode cX11_publish 84 = .ok (.iload_n 1, 1) := by decide +kernel
theorem dX11_publish_85 : decode cX11_publish 85 = .ok (.invokevirtual 79, 3) := by decide +kernel
theorem dX11_publish_88 : decode cX11_publish 88 = .ok (.ifCond .ne 19, 3) := by decide +kernel
theorem dX11_publish_91 : decode cX11_publish 91 = .ok (.aload_n 0, 1) := by decide +kernel
theorem dX11_publish_92 : decode cX11_publish 92 = .ok (.getfield 17, 3) := by decide +kernel
theorem dX11_publish_95 : decode cX11_publish 95 = .ok (.getfield 75, 3) := by decide +kernel
theorem dX11_publish_98 : decode cX11_publish 98 = .ok (.iload_n 1, 1) := by decide +kernel
theorem dX11_publish_99 : decode cX11_publish 99 = .ok (.iload 7, 2) := by decide +kernel
theorem dX11_publish_101 : decode cX11_publish 101 = .ok (.invokevirtual 84, 3) := by decide +kernel
theorem dX11_publish_104 : decode cX11_publish 104 = .ok (.ifCond .eq 13, 3) := by decide +kernel
theorem dX11_publish_107 : decode cX11_publish 107 = .ok (.new 87, 3) := by decide +kernel
theorem dX11_publish_110 : decode cX11_publish 110 = .ok (.dup, 1) := by decide +kernel
theorem dX11_publish_111 : decode cX11_publish 111 = .ok (.ldc 89, 2) := by decide +kernel
theorem dX11_publish_113 : decode cX11_publish 113 = .ok (.invokespecial 91, 3) := by decide +kernel
theorem dX11_publish_116 : decode cX11_publish 116 = .ok (.athrow, 1) := by decide +kernel
theorem dX11_publish_117 : decode cX11_publish 117 = .ok (.bipush 7, 2) := by decide +kernel
theorem dX11_publish_119 : decode cX11_publish 119 = .ok (.iload_n 2, 1) := by decide +kernel
theorem dX11_publish_120 : decode cX11_publish 120 = .ok (.imul, 1) := by decide +kernel
theorem dX11_publish_121 : decode cX11_publish 121 = .ok (.iconst 5, 1) := by decide +kernel
theorem dX11_publish_122 : decode cX11_publish 122 = .ok (.iload_n 3, 1) := by decide +kernel
theorem dX11_publish_123 : decode cX11_publish 123 = .ok (.imul, 1) := by decide +kernel
theorem dX11_publish_124 : decode cX11_publish 124 = .ok (.iadd, 1) := by decide +kernel
theorem dX11_publish_125 : decode cX11_publish 125 = .ok (.iconst 3, 1) := by decide +kernel
theorem dX11_publish_126 : decode cX11_publish 126 = .ok (.iload 4, 2) := by decide +kernel
theorem dX11_publish_128 : decode cX11_publish 128 = .ok (.imul, 1) := by decide +kernel
theorem dX11_publish_129 : decode cX11_publish 129 = .ok (.iadd, 1) := by decide +kernel
theorem dX11_publish_130 : decode cX11_publish 130 = .ok (.iload 5, 2) := by decide +kernel
theorem dX11_publish_132 : decode cX11_publish 132 = .ok (.iadd, 1) := by decide +kernel
theorem dX11_publish_133 : decode cX11_publish 133 = .ok (.iconst 1, 1) := by decide +kernel
theorem dX11_publish_134 : decode cX11_publish 134 = .ok (.iadd, 1) := by decide +kernel
theorem dX11_publish_135 : decode cX11_publish 135 = .ok (.istore 8, 2) := by decide +kernel
theorem dX11_publish_137 : decode cX11_publish 137 = .ok (.aload_n 0, 1) := by decide +kernel
theorem dX11_publish_138 : decode cX11_publish 138 = .ok (.getfield 17, 3) := by decide +kernel
theorem dX11_publish_141 : decode cX11_publish 141 = .ok (.getfield 75, 3) := by decide +kernel
theorem dX11_publish_144 : decode cX11_publish 144 = .ok (.iload_n 1, 1) := by decide +kernel
theorem dX11_publish_145 : decode cX11_publish 145 = .ok (.iload 7, 2) := by decide +kernel
theorem dX11_publish_147 : decode cX11_publish 147 = .ok (.iload 8, 2) := by decide +kernel
theorem dX11_publish_149 : decode cX11_publish 149 = .ok (.iload 6, 2) := by decide +kernel
theorem dX11_publish_151 : decode cX11_publish 151 = .ok (.invokevirtual 92, 3) := by decide +kernel
theorem dX11_publish_154 : decode cX11_publish 154 = .ok (.istore 9, 2) := by decide +kernel
theorem dX11_publish_156 : decode cX11_publish 156 = .ok (.aload_n 0, 1) := by decide +kernel
theorem dX11_publish_157 : decode cX11_publish 157 = .ok (.getfield 17, 3) := by decide +kernel
theorem dX11_publish_160 : decode cX11_publish 160 = .ok (.getfield 95, 3) := by decide +kernel
theorem dX11_publish_163 : decode cX11_publish 163 = .ok (.iload 9, 2) := by decide +kernel
theorem dX11_publish_165 : decode cX11_publish 165 = .ok (.iload 7, 2) := by decide +kernel
theorem dX11_publish_167 : decode cX11_publish 167 = .ok (.invokevirtual 99, 3) := by decide +kernel
theorem dX11_publish_170 : decode cX11_publish 170 = .ok (.iload 9, 2) := by decide +kernel
theorem dX11_publish_172 : decode cX11_publish 172 = .ok (.ireturn, 1) := by decide +kernel
theorem dX11_compare_0 : decode cX11_compare 0 = .ok (.aload_n 0, 1) := by decide +kernel
theorem dX11_compare_1 : decode cX11_compare 1 = .ok (.iload_n 1, 1) := by decide +kernel
theorem dX11_compare_2 : decode cX11_compare 2 = .ok (.invokevirtual 105, 3) := by decide +kernel
theorem dX11_compare_5 : decode cX11_compare 5 = .ok (.ifCond .eq 11, 3) := by decide +kernel
theorem dX11_compare_8 : decode cX11_compare 8 = .ok (.aload_n 0, 1) := by decide +kernel
theorem dX11_compare_9 : decode cX11_compare 9 = .ok (.iload_n 2, 1) := by decide +kernel
theorem dX11_compare_10 : decode cX11_compare 10 = .ok (.invokevirtual 105, 3) := by decide +kernel
theorem dX11_compare_13 : decode cX11_compare 13 = .ok (.ifCond .ne 13, 3) := by decide +kernel
theorem dX11_compare_16 : decode cX11_compare 16 = .ok (.new 56, 3) := by decide +kernel
theorem dX11_compare_19 : decode cX11_compare 19 = .ok (.dup, 1) := by decide +kernel
theorem dX11_compare_20 : decode cX11_compare 20 = .ok (.ldc 108, 2) := by decide +kernel
theorem dX11_compare_22 : decode cX11_compare 22 = .ok (.invokespecial 60, 3) := by decide +kernel
theorem dX11_compare_25 : decode cX11_compare 25 = .ok (.athrow, 1) := by decide +kernel
theorem dX11_compare_26 : decode cX11_compare 26 = .ok (.aload_n 0, 1) := by decide +kernel
theorem dX11_compare_27 : decode cX11_compare 27 = .ok (.getfield 17, 3) := by decide +kernel
theorem dX11_compare_30 : decode cX11_compare 30 = .ok (.getfield 75, 3) := by decide +kernel
theorem dX11_compare_33 : decode cX11_compare 33 = .ok (.getfield 110, 3) := by decide +kernel
theorem dX11_compare_36 : decode cX11_compare 36 = .ok (.iload_n 1, 1) := by decide +kernel
theorem dX11_compare_37 : decode cX11_compare 37 = .ok (.invokevirtual 114, 3) := by decide +kernel
theorem dX11_compare_40 : decode cX11_compare 40 = .ok (.aload_n 0, 1) := by decide +kernel
theorem dX11_compare_41 : decode cX11_compare 41 = .ok (.getfield 17, 3) := by decide +kernel
theorem dX11_compare_44 : decode cX11_compare 44 = .ok (.getfield 75, 3) := by decide +kernel
theorem dX11_compare_47 : decode cX11_compare 47 = .ok (.getfield 110, 3) := by decide +kernel
theorem dX11_compare_50 : decode cX11_compare 50 = .ok (.iload_n 2, 1) := by decide +kernel
theorem dX11_compare_51 : decode cX11_compare 51 = .ok (.invokevirtual 114, 3) := by decide +kernel
theorem dX11_compare_54 : decode cX11_compare 54 = .ok (.if_icmp .eq 13, 3) := by decide +kernel
theorem dX11_compare_57 : decode cX11_compare 57 = .ok (.new 66, 3) := by decide +kernel
theorem dX11_compare_60 : decode cX11_compare 60 = .ok (.dup, 1) := by decide +kernel
theorem dX11_compare_61 : decode cX11_compare 61 = .ok (.ldc 120, 2) := by decide +kernel
theorem dX11_compare_63 : decode cX11_compare 63 = .ok (.invokespecial 70, 3) := by decide +kernel
theorem dX11_compare_66 : decode cX11_compare 66 = .ok (.athrow, 1) := by decide +kernel
theorem dX11_compare_67 : decode cX11_compare 67 = .ok (.aload_n 0, 1) := by decide +kernel
theorem dX11_compare_68 : decode cX11_compare 68 = .ok (.getfield 17, 3) := by decide +kernel
theorem dX11_compare_71 : decode cX11_compare 71 = .ok (.getfield 75, 3) := by decide +kernel
theorem dX11_compare_74 : decode cX11_compare 74 = .ok (.getfield 122, 3) := by decide +kernel
theorem dX11_compare_77 : decode cX11_compare 77 = .ok (.iload_n 1, 1) := by decide +kernel
theorem dX11_compare_78 : decode cX11_compare 78 = .ok (.invokevirtual 114, 3) := by decide +kernel
theorem dX11_compare_81 : decode cX11_compare 81 = .ok (.aload_n 0, 1) := by decide +kernel
theorem dX11_compare_82 : decode cX11_compare 82 = .ok (.getfield 17, 3) := by decide +kernel
theorem dX11_compare_85 : decode cX11_compare 85 = .ok (.getfield 75, 3) := by decide +kernel
theorem dX11_compare_88 : decode cX11_compare 88 = .ok (.getfield 122, 3) := by decide +kernel
theorem dX11_compare_91 : decode cX11_compare 91 = .ok (.iload_n 2, 1) := by decide +kernel
theorem dX11_compare_92 : decode cX11_compare 92 = .ok (.invokevirtual 114, 3) := by decide +kernel
theorem dX11_compare_95 : decode cX11_compare 95 = .ok (.invokestatic 125, 3) := by decide +kernel
theorem dX11_compare_98 : decode cX11_compare 98 = .ok (.ireturn, 1) := by decide +kernel
theorem dX11_yank_0 : decode cX11_yank 0 = .ok (.aload_n 0, 1) := by decide +kernel
theorem dX11_yank_1 : decode cX11_yank 1 = .ok (.iload_n 1, 1) := by decide +kernel
theorem dX11_yank_2 : decode cX11_yank 2 = .ok (.invokevirtual 105, 3) := by decide +kernel
theorem dX11_yank_5 : decode cX11_yank 5 = .ok (.ifCond .ne 13, 3) := by decide +kernel
theorem dX11_yank_8 : decode cX11_yank 8 = .ok (.new 56, 3) := by decide +kernel
theorem dX11_yank_11 : decode cX11_yank 11 = .ok (.dup, 1) := by decide +kernel
theorem dX11_yank_12 : decode cX11_yank 12 = .ok (.ldc 108, 2) := by decide +kernel
theorem dX11_yank_14 : decode cX11_yank 14 = .ok (.invokespecial 60, 3) := by decide +kernel
theorem dX11_yank_17 : decode cX11_yank 17 = .ok (.athrow, 1) := by decide +kernel
theorem dX11_yank_18 : decode cX11_yank 18 = .ok (.aload_n 0, 1) := by decide +kernel
theorem dX11_yank_19 : decode cX11_yank 19 = .ok (.getfield 17, 3) := by decide +kernel
theorem dX11_yank_22 : decode cX11_yank 22 = .ok (.getfield 75, 3) := by decide +kernel
theorem dX11_yank_25 : decode cX11_yank 25 = .ok (.iload_n 1, 1) := by decide +kernel
theorem dX11_yank_26 : decode cX11_yank 26 = .ok (.invokevirtual 131, 3) := by decide +kernel
theorem dX11_yank_29 : decode cX11_yank 29 = .ok (.ireturn, 1) := by decide +kernel
theorem dX11_setPlatforms_0 : decode cX11_setPlatforms 0 = .ok (.aload_n 0, 1) := by decide +kernel
theorem dX11_setPlatforms_1 : decode cX11_setPlatforms 1 = .ok (.iload_n 1, 1) := by decide +kernel
theorem dX11_setPlatforms_2 : decode cX11_setPlatforms 2 = .ok (.invokevirtual 105, 3) := by decide +kernel
theorem dX11_setPlatforms_5 : decode cX11_setPlatforms 5 = .ok (.ifCond .ne 13, 3) := by decide +kernel
theorem dX11_setPlatforms_8 : decode cX11_setPlatforms 8 = .ok (.new 56, 3) := by decide +kernel
theorem dX11_setPlatforms_11 : decode cX11_setPlatforms 11 = .ok (.dup, 1) := by decide +kernel
theorem dX11_setPlatforms_12 : decode cX11_setPlatforms 12 = .ok (.ldc 108, 2) := by decide +kernel
theorem dX11_setPlatforms_14 : decode cX11_setPlatforms 14 = .ok (.invokespecial 60, 3) := by decide +kernel
theorem dX11_setPlatforms_17 : decode cX11_setPlatforms 17 = .ok (.athrow, 1) := by decide +kernel
theorem dX11_setPlatforms_18 : decode cX11_setPlatforms 18 = .ok (.bipush 7, 2) := by decide +kernel
theorem dX11_setPlatforms_20 : decode cX11_setPlatforms 20 = .ok (.iload_n 2, 1) := by decide +kernel
theorem dX11_setPlatforms_21 : decode cX11_setPlatforms 21 = .ok (.invokestatic 52, 3) := by decide +kernel
theorem dX11_setPlatforms_24 : decode cX11_setPlatforms 24 = .ok (.ifCond .ne 13, 3) := by decide +kernel
theorem dX11_setPlatforms_27 : decode cX11_setPlatforms 27 = .ok (.new 66, 3) := by decide +kernel
theorem dX11_setPlatforms_30 : decode cX11_setPlatforms 30 = .ok (.dup, 1) := by decide +kernel
theorem dX11_setPlatforms_31 : decode cX11_setPlatforms 31 = .ok (.ldc 134, 2) := by decide +kernel
theorem dX11_setPlatforms_33 : decode cX11_setPlatforms 33 = .ok (.invokespecial 70, 3) := by decide +kernel
theorem dX11_setPlatforms_36 : decode cX11_setPlatforms 36 = .ok (.athrow, 1) := by decide +kernel
theorem dX11_setPlatforms_37 : decode cX11_setPlatforms 37 = .ok (.aload_n 0, 1) := by decide +kernel
theorem dX11_setPlatforms_38 : decode cX11_setPlatforms 38 = .ok (.getfield 17, 3) := by decide +kernel
theorem dX11_setPlatforms_41 : decode cX11_setPlatforms 41 = .ok (.getfield 75, 3) := by decide +kernel
theorem dX11_setPlatforms_44 : decode cX11_setPlatforms 44 = .ok (.getfield 136, 3) := by decide +kernel
theorem dX11_setPlatforms_47 : decode cX11_setPlatforms 47 = .ok (.iload_n 1, 1) := by decide +kernel
theorem dX11_setPlatforms_48 : decode cX11_setPlatforms 48 = .ok (.iload_n 2, 1) := by decide +kernel
theorem dX11_setPlatforms_49 : decode cX11_setPlatforms 49 = .ok (.invokevirtual 139, 3) := by decide +kernel
theorem dX11_setPlatforms_52 : decode cX11_setPlatforms 52 = .ok (.ireturn, 1) := by decide +kernel
theorem dX11_bring_0 : decode cX11_bring 0 = .ok (.aload_n 0, 1) := by decide +kernel
theorem dX11_bring_1 : decode cX11_bring 1 = .ok (.iload_n 1, 1) := by decide +kernel
theorem dX11_bring_2 : decode cX11_bring 2 = .ok (.invokevirtual 105, 3) := by decide +kernel
theorem dX11_bring_5 : decode cX11_bring 5 = .ok (.ifCond .eq 19, 3) := by decide +kernel
theorem dX11_bring_8 : decode cX11_bring 8 = .ok (.iconst 2, 1) := by decide +kernel
theorem dX11_bring_9 : decode cX11_bring 9 = .ok (.iload_n 2, 1) := by decide +kernel
theorem dX11_bring_10 : decode cX11_bring 10 = .ok (.invokestatic 52, 3) := by decide +kernel
theorem dX11_bring_13 : decode cX11_bring 13 = .ok (.ifCond .eq 11, 3) := by decide +kernel
theorem dX11_bring_16 : decode cX11_bring 16 = .ok (.iconst 2, 1) := by decide +kernel
theorem dX11_bring_17 : decode cX11_bring 17 = .ok (.iload_n 3, 1) := by decide +kernel
theorem dX11_bring_18 : decode cX11_bring 18 = .ok (.invokestatic 52, 3) := by decide +kernel
theorem dX11_bring_21 : decode cX11_bring 21 = .ok (.ifCond .ne 13, 3) := by decide +kernel
theorem dX11_bring_24 : decode cX11_bring 24 = .ok (.new 56, 3) := by decide +kernel
theorem dX11_bring_27 : decode cX11_bring 27 = .ok (.dup, 1) := by decide +kernel
theorem dX11_bring_28 : decode cX11_bring 28 = .ok (.ldc 142, 2) := by decide +kernel
theorem dX11_bring_30 : decode cX11_bring 30 = .ok (.invokespecial 60, 3) := by decide +kernel
theorem dX11_bring_33 : decode cX11_bring 33 = .ok (.athrow, 1) := by decide +kernel
theorem dX11_bring_34 : decode cX11_bring 34 = .ok (.aload_n 0, 1) := by decide +kernel
theorem dX11_bring_35 : decode cX11_bring 35 = .ok (.getfield 17, 3) := by decide +kernel
theorem dX11_bring_38 : decode cX11_bring 38 = .ok (.getfield 75, 3) := by decide +kernel
theorem dX11_bring_41 : decode cX11_bring 41 = .ok (.getfield 144, 3) := by decide +kernel
theorem dX11_bring_44 : decode cX11_bring 44 = .ok (.iload_n 1, 1) := by decide +kernel
theorem dX11_bring_45 : decode cX11_bring 45 = .ok (.iconst 3, 1) := by decide +kernel
theorem dX11_bring_46 : decode cX11_bring 46 = .ok (.imul, 1) := by decide +kernel
theorem dX11_bring_47 : decode cX11_bring 47 = .ok (.iload_n 2, 1) := by decide +kernel
theorem dX11_bring_48 : decode cX11_bring 48 = .ok (.iadd, 1) := by decide +kernel
theorem dX11_bring_49 : decode cX11_bring 49 = .ok (.iconst 1, 1) := by decide +kernel
theorem dX11_bring_50 : decode cX11_bring 50 = .ok (.iload_n 3, 1) := by decide +kernel
theorem dX11_bring_51 : decode cX11_bring 51 = .ok (.ishl, 1) := by decide +kernel
theorem dX11_bring_52 : decode cX11_bring 52 = .ok (.invokevirtual 147, 3) := by decide +kernel
theorem dX11_bring_55 : decode cX11_bring 55 = .ok (.ireturn, 1) := by decide +kernel
theorem dX11_range_0 : decode cX11_range 0 = .ok (.bipush 7, 2) := by decide +kernel
theorem dX11_range_2 : decode cX11_range 2 = .ok (.iload_n 1, 1) := by decide +kernel
theorem dX11_range_3 : decode cX11_range 3 = .ok (.invokestatic 52, 3) := by decide +kernel
theorem dX11_range_6 : decode cX11_range 6 = .ok (.ifCond .ne 13, 3) := by decide +kernel
theorem dX11_range_9 : decode cX11_range 9 = .ok (.new 56, 3) := by decide +kernel
theorem dX11_range_12 : decode cX11_range 12 = .ok (.dup, 1) := by decide +kernel
theorem dX11_range_13 : decode cX11_range 13 = .ok (.ldc 150, 2) := by decide +kernel
theorem dX11_range_15 : decode cX11_range 15 = .ok (.invokespecial 60, 3) := by decide +kernel
theorem dX11_range_18 : decode cX11_range 18 = .ok (.athrow, 1) := by decide +kernel
theorem dX11_range_19 : decode cX11_range 19 = .ok (.iload_n 1, 1) := by decide +kernel
theorem dX11_range_20 : decode cX11_range 20 = .ok (.iconst 3, 1) := by decide +kernel
theorem dX11_range_21 : decode cX11_range 21 = .ok (.if_icmp .ne 7, 3) := by decide +kernel
theorem dX11_range_24 : decode cX11_range 24 = .ok (.iconst 0, 1) := by decide +kernel
theorem dX11_range_25 : decode cX11_range 25 = .ok (.goto 5, 3) := by decide +kernel
theorem dX11_range_28 : decode cX11_range 28 = .ok (.bipush 9, 2) := by decide +kernel
theorem dX11_range_30 : decode cX11_range 30 = .ok (.iload_n 2, 1) := by decide +kernel
theorem dX11_range_31 : decode cX11_range 31 = .ok (.invokestatic 52, 3) := by decide +kernel
theorem dX11_range_34 : decode cX11_range 34 = .ok (.ifCond .eq 69, 3) := by decide +kernel
theorem dX11_range_37 : decode cX11_range 37 = .ok (.iload_n 1, 1) := by decide +kernel
theorem dX11_range_38 : decode cX11_range 38 = .ok (.iconst 3, 1) := by decide +kernel
theorem dX11_range_39 : decode cX11_range 39 = .ok (.if_icmp .eq 9, 3) := by decide +kernel
theorem dX11_range_42 : decode cX11_range 42 = .ok (.iload_n 1, 1) := by decide +kernel
theorem dX11_range_43 : decode cX11_range 43 = .ok (.bipush 6, 2) := by decide +kernel
theorem dX11_range_45 : decode cX11_range 45 = .ok (.if_icmp .ne 7, 3) := by decide +kernel
theorem dX11_range_48 : decode cX11_range 48 = .ok (.iconst 0, 1) := by decide +kernel
theorem dX11_range_49 : decode cX11_range 49 = .ok (.goto 5, 3) := by decide +kernel
theorem dX11_range_52 : decode cX11_range 52 = .ok (.bipush 9, 2) := by decide +kernel
theorem dX11_range_54 : decode cX11_range 54 = .ok (.iload_n 3, 1) := by decide +kernel
theorem dX11_range_55 : decode cX11_range 55 = .ok (.invokestatic 52, 3) := by decide +kernel
theorem dX11_range_58 : decode cX11_range 58 = .ok (.ifCond .eq 45, 3) := by decide +kernel
theorem dX11_range_61 : decode cX11_range 61 = .ok (.iload_n 1, 1) := by decide +kernel
theorem dX11_range_62 : decode cX11_range 62 = .ok (.invokestatic 152, 3) := by decide +kernel
theorem dX11_range_65 : decode cX11_range 65 = .ok (.ifCond .eq 8, 3) := by decide +kernel
theorem dX11_range_68 : decode cX11_range 68 = .ok (.bipush 9, 2) := by decide +kernel
theorem dX11_range_70 : decode cX11_range 70 = .ok (.goto 4, 3) := by decide +kernel
theorem dX11_range_73 : decode cX11_range 73 = .ok (.iconst 0, 1) := by decide +kernel
theorem dX11_range_74 : decode cX11_range 74 = .ok (.iload 4, 2) := by decide +kernel
theorem dX11_range_76 : decode cX11_range 76 = .ok (.invokestatic 52, 3) := by decide +kernel
theorem dX11_range_79 : decode cX11_range 79 = .ok (.ifCond .eq 24, 3) := by decide +kernel
theorem dX11_range_82 : decode cX11_range 82 = .ok (.iload_n 1, 1) := by decide +kernel
theorem dX11_range_83 : decode cX11_range 83 = .ok (.invokestatic 152, 3) := by decide +kernel
theorem dX11_range_86 : decode cX11_range 86 = .ok (.ifCond .eq 8, 3) := by decide +kernel
theorem dX11_range_89 : decode cX11_range 89 = .ok (.bipush 9, 2) := by decide +kernel
theorem dX11_range_91 : decode cX11_range 91 = .ok (.goto 4, 3) := by decide +kernel
theorem dX11_range_94 : decode cX11_range 94 = .ok (.iconst 0, 1) := by decide +kernel
theorem dX11_range_95 : decode cX11_range 95 = .ok (.iload 5, 2) := by decide +kernel
theorem dX11_range_97 : decode cX11_range 97 = .ok (.invokestatic 52, 3) := by decide +kernel
theorem dX11_range_100 : decode cX11_range 100 = .ok (.ifCond .ne 13, 3) := by decide +kernel
theorem dX11_range_103 : decode cX11_range 103 = .ok (.new 66, 3) := by decide +kernel
theorem dX11_range_106 : decode cX11_range 106 = .ok (.dup, 1) := by decide +kernel
theorem dX11_range_107 : decode cX11_range 107 = .ok (.ldc 155, 2) := by decide +kernel
theorem dX11_range_109 : decode cX11_range 109 = .ok (.invokespecial 70, 3) := by decide +kernel
theorem dX11_range_112 : decode cX11_range 112 = .ok (.athrow, 1) := by decide +kernel
theorem dX11_range_113 : decode cX11_range 113 = .ok (.aload_n 0, 1) := by decide +kernel
theorem dX11_range_114 : decode cX11_range 114 = .ok (.getfield 17, 3) := by decide +kernel
theorem dX11_range_117 : decode cX11_range 117 = .ok (.getfield 95, 3) := by decide +kernel
theorem dX11_range_120 : decode cX11_range 120 = .ok (.invokevirtual 157, 3) := by decide +kernel
theorem dX11_range_123 : decode cX11_range 123 = .ok (.ifCond .eq 13, 3) := by decide +kernel
theorem dX11_range_126 : decode cX11_range 126 = .ok (.new 87, 3) := by decide +kernel
theorem dX11_range_129 : decode cX11_range 129 = .ok (.dup, 1) := by decide +kernel
theorem dX11_range_130 : decode cX11_range 130 = .ok (.ldc 160, 2) := by decide +kernel
theorem dX11_range_132 : decode cX11_range 132 = .ok (.invokespecial 91, 3) := by decide +kernel
theorem dX11_range_135 : decode cX11_range 135 = .ok (.athrow, 1) := by decide +kernel
theorem dX11_range_136 : decode cX11_range 136 = .ok (.iload_n 2, 1) := by decide +kernel
theorem dX11_range_137 : decode cX11_range 137 = .ok (.iload_n 3, 1) := by decide +kernel
theorem dX11_range_138 : decode cX11_range 138 = .ok (.iload 4, 2) := by decide +kernel
theorem dX11_range_140 : decode cX11_range 140 = .ok (.iload 5, 2) := by decide +kernel
theorem dX11_range_142 : decode cX11_range 142 = .ok (.invokestatic 71, 3) := by decide +kernel
theorem dX11_range_145 : decode cX11_range 145 = .ok (.istore 6, 2) := by decide +kernel
theorem dX11_range_147 : decode cX11_range 147 = .ok (.iload_n 1, 1) := by decide +kernel
theorem dX11_range_148 : decode cX11_range 148 = .ok (.iconst 2, 1) := by decide +kernel
theorem dX11_range_149 : decode cX11_range 149 = .ok (.if_icmp .eq 8, 3) := by decide +kernel
theorem dX11_range_152 : decode cX11_range 152 = .ok (.iload_n 1, 1) := by decide +kernel
theorem dX11_range_153 : decode cX11_range 153 = .ok (.iconst 3, 1) := by decide +kernel
theorem dX11_range_154 : decode cX11_range 154 = .ok (.if_icmp .ne 7, 3) := by decide +kernel
theorem dX11_range_157 : decode cX11_range 157 = .ok (.iconst 0, 1) := by decide +kernel
theorem dX11_range_158 : decode cX11_range 158 = .ok (.goto 5, 3) := by decide +kernel
theorem dX11_range_161 : decode cX11_range 161 = .ok (.iload 6, 2) := by decide +kernel
theorem dX11_range_163 : decode cX11_range 163 = .ok (.istore 7, 2) := by decide +kernel
theorem dX11_range_165 : decode cX11_range 165 = .ok (.iload_n 1, 1) := by decide +kernel
theorem dX11_range_166 : decode cX11_range 166 = .ok (.iload_n 2, 1) := by decide +kernel
theorem dX11_range_167 : decode cX11_range 167 = .ok (.iload_n 3, 1) := by decide +kernel
theorem dX11_range_168 : decode cX11_range 168 = .ok (.iload 4, 2) := by decide +kernel
theorem dX11_range_170 : decode cX11_range 170 = .ok (.iload 6, 2) := by decide +kernel
theorem dX11_range_172 : decode cX11_range 172 = .ok (.invokestatic 162, 3) := by decide +kernel
theorem dX11_range_175 : decode cX11_range 175 = .ok (.istore 8, 2) := by decide +kernel
theorem dX11_range_177 : decode cX11_range 177 = .ok (.aload_n 0, 1) := by decide +kernel
theorem dX11_range_178 : decode cX11_range 178 = .ok (.getfield 17, 3) := by decide +kernel
theorem dX11_range_181 : decode cX11_range 181 = .ok (.getfield 95, 3) := by decide +kernel
theorem dX11_range_184 : decode cX11_range 184 = .ok (.iload 7, 2) := by decide +kernel
theorem dX11_range_186 : decode cX11_range 186 = .ok (.iload 8, 2) := by decide +kernel
theorem dX11_range_188 : decode cX11_range 188 = .ok (.iload 5, 2) := by decide +kernel
theorem dX11_range_190 : decode cX11_range 190 = .ok (.ifCond .ne 7, 3) := by decide +kernel
theorem dX11_range_193 : decode cX11_range 193 = .ok (.iconst (-1), 1) := by decide +kernel
theorem dX11_range_194 : decode cX11_range 194 = .ok (.goto 8, 3) := by decide +kernel
theorem dX11_range_197 : decode cX11_range 197 = .ok (.iload 6, 2) := by decide +kernel
theorem dX11_range_199 : decode cX11_range 199 = .ok (.invokestatic 166, 3) := by decide +kernel
theorem dX11_range_202 : decode cX11_range 202 = .ok (.aload_n 0, 1) := by decide +kernel
theorem dX11_range_203 : decode cX11_range 203 = .ok (.getfield 17, 3) := by decide +kernel
theorem dX11_range_206 : decode cX11_range 206 = .ok (.getfield 75, 3) := by decide +kernel
theorem dX11_range_209 : decode cX11_range 209 = .ok (.invokevirtual 169, 3) := by decide +kernel
theorem dX11_range_212 : decode cX11_range 212 = .ok (.ireturn, 1) := by decide +kernel
theorem dX11_join_0 : decode cX11_join 0 = .ok (.iload_n 1, 1) := by decide +kernel
theorem dX11_join_1 : decode cX11_join 1 = .ok (.bipush 8, 2) := by decide +kernel
theorem dX11_join_3 : decode cX11_join 3 = .ok (.if_icmp .eq 9, 3) := by decide +kernel
theorem dX11_join_6 : decode cX11_join 6 = .ok (.iload_n 1, 1) := by decide +kernel
theorem dX11_join_7 : decode cX11_join 7 = .ok (.bipush 9, 2) := by decide +kernel
theorem dX11_join_9 : decode cX11_join 9 = .ok (.if_icmp .ne 19, 3) := by decide +kernel
theorem dX11_join_12 : decode cX11_join 12 = .ok (.aload_n 0, 1) := by decide +kernel
theorem dX11_join_13 : decode cX11_join 13 = .ok (.iload_n 2, 1) := by decide +kernel
theorem dX11_join_14 : decode cX11_join 14 = .ok (.invokevirtual 172, 3) := by decide +kernel
theorem dX11_join_17 : decode cX11_join 17 = .ok (.ifCond .eq 11, 3) := by decide +kernel
theorem dX11_join_20 : decode cX11_join 20 = .ok (.aload_n 0, 1) := by decide +kernel
theorem dX11_join_21 : decode cX11_join 21 = .ok (.iload_n 3, 1) := by decide +kernel
theorem dX11_join_22 : decode cX11_join 22 = .ok (.invokevirtual 172, 3) := by decide +kernel
theorem dX11_join_25 : decode cX11_join 25 = .ok (.ifCond .ne 13, 3) := by decide +kernel
theorem dX11_join_28 : decode cX11_join 28 = .ok (.new 56, 3) := by decide +kernel
theorem dX11_join_31 : decode cX11_join 31 = .ok (.dup, 1) := by decide +kernel
theorem dX11_join_32 : decode cX11_join 32 = .ok (.ldc 175, 2) := by decide +kernel
theorem dX11_join_34 : decode cX11_join 34 = .ok (.invokespecial 60, 3) := by decide +kernel
theorem dX11_join_37 : decode cX11_join 37 = .ok (.athrow, 1) := by decide +kernel
theorem dX11_join_38 : decode cX11_join 38 = .ok (.aload_n 0, 1) := by decide +kernel
theorem dX11_join_39 : decode cX11_join 39 = .ok (.getfield 17, 3) := by decide +kernel
theorem dX11_join_42 : decode cX11_join 42 = .ok (.getfield 95, 3) := by decide +kernel
theorem dX11_join_45 : decode cX11_join 45 = .ok (.invokevirtual 157, 3) := by decide +kernel
theorem dX11_join_48 : decode cX11_join 48 = .ok (.ifCond .eq 13, 3) := by decide +kernel
theorem dX11_join_51 : decode cX11_join 51 = .ok (.new 87, 3) := by decide +kernel
theorem dX11_join_54 : decode cX11_join 54 = .ok (.dup, 1) := by decide +kernel
theorem dX11_join_55 : decode cX11_join 55 = .ok (.ldc 160, 2) := by decide +kernel
theorem dX11_join_57 : decode cX11_join 57 = .ok (.invokespecial 91, 3) := by decide +kernel
theorem dX11_join_60 : decode cX11_join 60 = .ok (.athrow, 1) := by decide +kernel
theorem dX11_join_61 : decode cX11_join 61 = .ok (.aload_n 0, 1) := by decide +kernel
theorem dX11_join_62 : decode cX11_join 62 = .ok (.getfield 17, 3) := by decide +kernel
theorem dX11_join_65 : decode cX11_join 65 = .ok (.getfield 95, 3) := by decide +kernel
theorem dX11_join_68 : decode cX11_join 68 = .ok (.iload_n 1, 1) := by decide +kernel
theorem dX11_join_69 : decode cX11_join 69 = .ok (.iload_n 2, 1) := by decide +kernel
theorem dX11_join_70 : decode cX11_join 70 = .ok (.iload_n 3, 1) := by decide +kernel
theorem dX11_join_71 : decode cX11_join 71 = .ok (.invokevirtual 177, 3) := by decide +kernel
theorem dX11_join_74 : decode cX11_join 74 = .ok (.ireturn, 1) := by decide +kernel
theorem dX11_has_0 : decode cX11_has 0 = .ok (.aload_n 0, 1) := by decide +kernel
theorem dX11_has_1 : decode cX11_has 1 = .ok (.iload_n 1, 1) := by decide +kernel
theorem dX11_has_2 : decode cX11_has 2 = .ok (.invokevirtual 172, 3) := by decide +kernel
theorem dX11_has_5 : decode cX11_has 5 = .ok (.ifCond .eq 11, 3) := by decide +kernel
theorem dX11_has_8 : decode cX11_has 8 = .ok (.aload_n 0, 1) := by decide +kernel
theorem dX11_has_9 : decode cX11_has 9 = .ok (.iload_n 2, 1) := by decide +kernel
theorem dX11_has_10 : decode cX11_has 10 = .ok (.invokevirtual 105, 3) := by decide +kernel
theorem dX11_has_13 : decode cX11_has 13 = .ok (.ifCond .ne 13, 3) := by decide +kernel
theorem dX11_has_16 : decode cX11_has 16 = .ok (.new 56, 3) := by decide +kernel
theorem dX11_has_19 : decode cX11_has 19 = .ok (.dup, 1) := by decide +kernel
theorem dX11_has_20 : decode cX11_has 20 = .ok (.ldc 181, 2) := by decide +kernel
theorem dX11_has_22 : decode cX11_has 22 = .ok (.invokespecial 60, 3) := by decide +kernel
theorem dX11_has_25 : decode cX11_has 25 = .ok (.athrow, 1) := by decide +kernel
theorem dX11_has_26 : decode cX11_has 26 = .ok (.aload_n 0, 1) := by decide +kernel
theorem dX11_has_27 : decode cX11_has 27 = .ok (.getfield 17, 3) := by decide +kernel
theorem dX11_has_30 : decode cX11_has 30 = .ok (.getfield 95, 3) := by decide +kernel
theorem dX11_has_33 : decode cX11_has 33 = .ok (.iload_n 1, 1) := by decide +kernel
theorem dX11_has_34 : decode cX11_has 34 = .ok (.iload_n 2, 1) := by decide +kernel
theorem dX11_has_35 : decode cX11_has 35 = .ok (.invokevirtual 183, 3) := by decide +kernel
theorem dX11_has_38 : decode cX11_has 38 = .ok (.ireturn, 1) := by decide +kernel
theorem dX11_need_0 : decode cX11_need 0 = .ok (.aload_n 0, 1) := by decide +kernel
theorem dX11_need_1 : decode cX11_need 1 = .ok (.iload_n 1, 1) := by decide +kernel
theorem dX11_need_2 : decode cX11_need 2 = .ok (.invokevirtual 105, 3) := by decide +kernel
theorem dX11_need_5 : decode cX11_need 5 = .ok (.ifCond .eq 42, 3) := by decide +kernel
theorem dX11_need_8 : decode cX11_need 8 = .ok (.iload_n 2, 1) := by decide +kernel
theorem dX11_need_9 : decode cX11_need 9 = .ok (.invokestatic 48, 3) := by decide +kernel
theorem dX11_need_12 : decode cX11_need 12 = .ok (.ifCond .eq 35, 3) := by decide +kernel
theorem dX11_need_15 : decode cX11_need 15 = .ok (.aload_n 0, 1) := by decide +kernel
theorem dX11_need_16 : decode cX11_need 16 = .ok (.iload_n 3, 1) := by decide +kernel
theorem dX11_need_17 : decode cX11_need 17 = .ok (.invokevirtual 172, 3) := by decide +kernel
theorem dX11_need_20 : decode cX11_need 20 = .ok (.ifCond .eq 27, 3) := by decide +kernel
theorem dX11_need_23 : decode cX11_need 23 = .ok (.iconst 2, 1) := by decide +kernel
theorem dX11_need_24 : decode cX11_need 24 = .ok (.iload 4, 2) := by decide +kernel
theorem dX11_need_26 : decode cX11_need 26 = .ok (.invokestatic 52, 3) := by decide +kernel
theorem dX11_need_29 : decode cX11_need 29 = .ok (.ifCond .eq 18, 3) := by decide +kernel
theorem dX11_need_32 : decode cX11_need 32 = .ok (.iload 5, 2) := by decide +kernel
theorem dX11_need_34 : decode cX11_need 34 = .ok (.iconst (-1), 1) := by decide +kernel
theorem dX11_need_35 : decode cX11_need 35 = .ok (.if_icmp .eq 22, 3) := by decide +kernel
theorem dX11_need_38 : decode cX11_need 38 = .ok (.iconst 2, 1) := by decide +kernel
theorem dX11_need_39 : decode cX11_need 39 = .ok (.iload 5, 2) := by decide +kernel
theorem dX11_need_41 : decode cX11_need 41 = .ok (.invokestatic 52, 3) := by decide +kernel
theorem dX11_need_44 : decode cX11_need 44 = .ok (.ifCond .ne 13, 3) := by decide +kernel
theorem dX11_need_47 : decode cX11_need 47 = .ok (.new 56, 3) := by decide +kernel
theorem dX11_need_50 : decode cX11_need 50 = .ok (.dup, 1) := by decide +kernel
theorem dX11_need_51 : decode cX11_need 51 = .ok (.ldc 186, 2) := by decide +kernel
theorem dX11_need_53 : decode cX11_need 53 = .ok (.invokespecial 60, 3) := by decide +kernel
theorem dX11_need_56 : decode cX11_need 56 = .ok (.athrow, 1) := by decide +kernel
theorem dX11_need_57 : decode cX11_need 57 = .ok (.bipush 7, 2) := by decide +kernel
theorem dX11_need_59 : decode cX11_need 59 = .ok (.iload 6, 2) := by decide +kernel
theorem dX11_need_61 : decode cX11_need 61 = .ok (.invokestatic 52, 3) := by decide +kernel
theorem dX11_need_64 : decode cX11_need 64 = .ok (.ifCond .eq 13, 3) := by decide +kernel
theorem dX11_need_67 : decode cX11_need 67 = .ok (.bipush 7, 2) := by decide +kernel
theorem dX11_need_69 : decode cX11_need 69 = .ok (.iload 7, 2) := by decide +kernel
theorem dX11_need_71 : decode cX11_need 71 = .ok (.invokestatic 52, 3) := by decide +kernel
theorem dX11_need_74 : decode cX11_need 74 = .ok (.ifCond .ne 13, 3) := by decide +kernel
theorem dX11_need_77 : decode cX11_need 77 = .ok (.new 66, 3) := by decide +kernel
theorem dX11_need_80 : decode cX11_need 80 = .ok (.dup, 1) := by decide +kernel
theorem dX11_need_81 : decode cX11_need 81 = .ok (.ldc 188, 2) := by decide +kernel
theorem dX11_need_83 : decode cX11_need 83 = .ok (.invokespecial 70, 3) := by decide +kernel
theorem dX11_need_86 : decode cX11_need 86 = .ok (.athrow, 1) := by decide +kernel
theorem dX11_need_87 : decode cX11_need 87 = .ok (.aload_n 0, 1) := by decide +kernel
theorem dX11_need_88 : decode cX11_need 88 = .ok (.getfield 17, 3) := by decide +kernel
theorem dX11_need_91 : decode cX11_need 91 = .ok (.getfield 190, 3) := by decide +kernel
theorem dX11_need_94 : decode cX11_need 94 = .ok (.iload_n 1, 1) := by decide +kernel
theorem dX11_need_95 : decode cX11_need 95 = .ok (.invokevirtual 194, 3) := by decide +kernel
theorem dX11_need_98 : decode cX11_need 98 = .ok (.ifCond .eq 13, 3) := by decide +kernel
theorem dX11_need_101 : decode cX11_need 101 = .ok (.new 87, 3) := by decide +kernel
theorem dX11_need_104 : decode cX11_need 104 = .ok (.dup, 1) := by decide +kernel
theorem dX11_need_105 : decode cX11_need 105 = .ok (.ldc 197, 2) := by decide +kernel
theorem dX11_need_107 : decode cX11_need 107 = .ok (.invokespecial 91, 3) := by decide +kernel
theorem dX11_need_110 : decode cX11_need 110 = .ok (.athrow, 1) := by decide +kernel
theorem dX11_need_111 : decode cX11_need 111 = .ok (.aload_n 0, 1) := by decide +kernel
theorem dX11_need_112 : decode cX11_need 112 = .ok (.getfield 17, 3) := by decide +kernel
theorem dX11_need_115 : decode cX11_need 115 = .ok (.getfield 190, 3) := by decide +kernel
theorem dX11_need_118 : decode cX11_need 118 = .ok (.iload_n 1, 1) := by decide +kernel
theorem dX11_need_119 : decode cX11_need 119 = .ok (.iload_n 2, 1) := by decide +kernel
theorem dX11_need_120 : decode cX11_need 120 = .ok (.iload_n 3, 1) := by decide +kernel
theorem dX11_need_121 : decode cX11_need 121 = .ok (.iload 4, 2) := by decide +kernel
theorem dX11_need_123 : decode cX11_need 123 = .ok (.iload 5, 2) := by decide +kernel
theorem dX11_need_125 : decode cX11_need 125 = .ok (.iload 6, 2) := by decide +kernel
theorem dX11_need_127 : decode cX11_need 127 = .ok (.iload 7, 2) := by decide +kernel
theorem dX11_need_129 : decode cX11_need 129 = .ok (.invokevirtual 199, 3) := by decide +kernel
theorem dX11_need_132 : decode cX11_need 132 = .ok (.ireturn, 1) := by decide +kernel
theorem dX11_demand_0 : decode cX11_demand 0 = .ok (.iconst 2, 1) := by decide +kernel
theorem dX11_demand_1 : decode cX11_demand 1 = .ok (.iload_n 1, 1) := by decide +kernel
theorem dX11_demand_2 : decode cX11_demand 2 = .ok (.invokestatic 52, 3) := by decide +kernel
theorem dX11_demand_5 : decode cX11_demand 5 = .ok (.ifCond .eq 18, 3) := by decide +kernel
theorem dX11_demand_8 : decode cX11_demand 8 = .ok (.iload_n 2, 1) := by decide +kernel
theorem dX11_demand_9 : decode cX11_demand 9 = .ok (.invokestatic 48, 3) := by decide +kernel
theorem dX11_demand_12 : decode cX11_demand 12 = .ok (.ifCond .eq 11, 3) := by decide +kernel
theorem dX11_demand_15 : decode cX11_demand 15 = .ok (.aload_n 0, 1) := by decide +kernel
theorem dX11_demand_16 : decode cX11_demand 16 = .ok (.iload_n 3, 1) := by decide +kernel
theorem dX11_demand_17 : decode cX11_demand 17 = .ok (.invokevirtual 172, 3) := by decide +kernel
theorem dX11_demand_20 : decode cX11_demand 20 = .ok (.ifCond .ne 13, 3) := by decide +kernel
theorem dX11_demand_23 : decode cX11_demand 23 = .ok (.new 56, 3) := by decide +kernel
theorem dX11_demand_26 : decode cX11_demand 26 = .ok (.dup, 1) := by decide +kernel
theorem dX11_demand_27 : decode cX11_demand 27 = .ok (.ldc 202, 2) := by decide +kernel
theorem dX11_demand_29 : decode cX11_demand 29 = .ok (.invokespecial 60, 3) := by decide +kernel
theorem dX11_demand_32 : decode cX11_demand 32 = .ok (.athrow, 1) := by decide +kernel
theorem dX11_demand_33 : decode cX11_demand 33 = .ok (.bipush 7, 2) := by decide +kernel
theorem dX11_demand_35 : decode cX11_demand 35 = .ok (.iload 4, 2) := by decide +kernel
theorem dX11_demand_37 : decode cX11_demand 37 = .ok (.invokestatic 52, 3) := by decide +kernel
theorem dX11_demand_40 : decode cX11_demand 40 = .ok (.ifCond .ne 13, 3) := by decide +kernel
theorem dX11_demand_43 : decode cX11_demand 43 = .ok (.new 66, 3) := by decide +kernel
theorem dX11_demand_46 : decode cX11_demand 46 = .ok (.dup, 1) := by decide +kernel
theorem dX11_demand_47 : decode cX11_demand 47 = .ok (.ldc 204, 2) := by decide +kernel
theorem dX11_demand_49 : decode cX11_demand 49 = .ok (.invokespecial 70, 3) := by decide +kernel
theorem dX11_demand_52 : decode cX11_demand 52 = .ok (.athrow, 1) := by decide +kernel
theorem dX11_demand_53 : decode cX11_demand 53 = .ok (.aload_n 0, 1) := by decide +kernel
theorem dX11_demand_54 : decode cX11_demand 54 = .ok (.getfield 17, 3) := by decide +kernel
theorem dX11_demand_57 : decode cX11_demand 57 = .ok (.getfield 206, 3) := by decide +kernel
theorem dX11_demand_60 : decode cX11_demand 60 = .ok (.invokevirtual 210, 3) := by decide +kernel
theorem dX11_demand_63 : decode cX11_demand 63 = .ok (.ifCond .eq 13, 3) := by decide +kernel
theorem dX11_demand_66 : decode cX11_demand 66 = .ok (.new 87, 3) := by decide +kernel
theorem dX11_demand_69 : decode cX11_demand 69 = .ok (.dup, 1) := by decide +kernel
theorem dX11_demand_70 : decode cX11_demand 70 = .ok (.ldc 213, 2) := by decide +kernel
theorem dX11_demand_72 : decode cX11_demand 72 = .ok (.invokespecial 91, 3) := by decide +kernel
theorem dX11_demand_75 : decode cX11_demand 75 = .ok (.athrow, 1) := by decide +kernel
theorem dX11_demand_76 : decode cX11_demand 76 = .ok (.aload_n 0, 1) := by decide +kernel
theorem dX11_demand_77 : decode cX11_demand 77 = .ok (.getfield 17, 3) := by decide +kernel
theorem dX11_demand_80 : decode cX11_demand 80 = .ok (.getfield 206, 3) := by decide +kernel
theorem dX11_demand_83 : decode cX11_demand 83 = .ok (.iload_n 1, 1) := by decide +kernel
theorem dX11_demand_84 : decode cX11_demand 84 = .ok (.iload_n 2, 1) := by decide +kernel
theorem dX11_demand_85 : decode cX11_demand 85 = .ok (.iload_n 3, 1) := by decide +kernel
theorem dX11_demand_86 : decode cX11_demand 86 = .ok (.iload 4, 2) := by decide +kernel
theorem dX11_demand_88 : decode cX11_demand 88 = .ok (.invokevirtual 215, 3) := by decide +kernel
theorem dX11_demand_91 : decode cX11_demand 91 = .ok (.ireturn, 1) := by decide +kernel
theorem dX11_advise_0 : decode cX11_advise 0 = .ok (.iload_n 1, 1) := by decide +kernel
theorem dX11_advise_1 : decode cX11_advise 1 = .ok (.invokestatic 48, 3) := by decide +kernel
theorem dX11_advise_4 : decode cX11_advise 4 = .ok (.ifCond .eq 11, 3) := by decide +kernel
theorem dX11_advise_7 : decode cX11_advise 7 = .ok (.aload_n 0, 1) := by decide +kernel
theorem dX11_advise_8 : decode cX11_advise 8 = .ok (.iload_n 2, 1) := by decide +kernel
theorem dX11_advise_9 : decode cX11_advise 9 = .ok (.invokevirtual 172, 3) := by decide +kernel
theorem dX11_advise_12 : decode cX11_advise 12 = .ok (.ifCond .ne 13, 3) := by decide +kernel
theorem dX11_advise_15 : decode cX11_advise 15 = .ok (.new 56, 3) := by decide +kernel
theorem dX11_advise_18 : decode cX11_advise 18 = .ok (.dup, 1) := by decide +kernel
theorem dX11_advise_19 : decode cX11_advise 19 = .ok (.ldc 216, 2) := by decide +kernel
theorem dX11_advise_21 : decode cX11_advise 21 = .ok (.invokespecial 60, 3) := by decide +kernel
theorem dX11_advise_24 : decode cX11_advise 24 = .ok (.athrow, 1) := by decide +kernel
theorem dX11_advise_25 : decode cX11_advise 25 = .ok (.aload_n 0, 1) := by decide +kernel
theorem dX11_advise_26 : decode cX11_advise 26 = .ok (.getfield 17, 3) := by decide +kernel
theorem dX11_advise_29 : decode cX11_advise 29 = .ok (.getfield 218, 3) := by decide +kernel
theorem dX11_advise_32 : decode cX11_advise 32 = .ok (.bipush 8, 2) := by decide +kernel
theorem dX11_advise_34 : decode cX11_advise 34 = .ok (.if_icmp .lt 13, 3) := by decide +kernel
theorem dX11_advise_37 : decode cX11_advise 37 = .ok (.new 87, 3) := by decide +kernel
theorem dX11_advise_40 : decode cX11_advise 40 = .ok (.dup, 1) := by decide +kernel
theorem dX11_advise_41 : decode cX11_advise 41 = .ok (.ldc 222, 2) := by decide +kernel
theorem dX11_advise_43 : decode cX11_advise 43 = .ok (.invokespecial 91, 3) := by decide +kernel
theorem dX11_advise_46 : decode cX11_advise 46 = .ok (.athrow, 1) := by decide +kernel
theorem dX11_advise_47 : decode cX11_advise 47 = .ok (.aload_n 0, 1) := by decide +kernel
theorem dX11_advise_48 : decode cX11_advise 48 = .ok (.getfield 17, 3) := by decide +kernel
theorem dX11_advise_51 : decode cX11_advise 51 = .ok (.iload_n 1, 1) := by decide +kernel
theorem dX11_advise_52 : decode cX11_advise 52 = .ok (.iload_n 2, 1) := by decide +kernel
theorem dX11_advise_53 : decode cX11_advise 53 = .ok (.invokevirtual 224, 3) := by decide +kernel
theorem dX11_advise_56 : decode cX11_advise 56 = .ok (.ireturn, 1) := by decide +kernel
theorem dX11_mending_0 : decode cX11_mending 0 = .ok (.aload_n 0, 1) := by decide +kernel
theorem dX11_mending_1 : decode cX11_mending 1 = .ok (.iload_n 1, 1) := by decide +kernel
theorem dX11_mending_2 : decode cX11_mending 2 = .ok (.invokevirtual 105, 3) := by decide +kernel
theorem dX11_mending_5 : decode cX11_mending 5 = .ok (.ifCond .ne 13, 3) := by decide +kernel
theorem dX11_mending_8 : decode cX11_mending 8 = .ok (.new 56, 3) := by decide +kernel
theorem dX11_mending_11 : decode cX11_mending 11 = .ok (.dup, 1) := by decide +kernel
theorem dX11_mending_12 : decode cX11_mending 12 = .ok (.ldc 108, 2) := by decide +kernel
theorem dX11_mending_14 : decode cX11_mending 14 = .ok (.invokespecial 60, 3) := by decide +kernel
theorem dX11_mending_17 : decode cX11_mending 17 = .ok (.athrow, 1) := by decide +kernel
theorem dX11_mending_18 : decode cX11_mending 18 = .ok (.aload_n 0, 1) := by decide +kernel
theorem dX11_mending_19 : decode cX11_mending 19 = .ok (.getfield 17, 3) := by decide +kernel
theorem dX11_mending_22 : decode cX11_mending 22 = .ok (.iload_n 1, 1) := by decide +kernel
theorem dX11_mending_23 : decode cX11_mending 23 = .ok (.invokevirtual 227, 3) := by decide +kernel
theorem dX11_mending_26 : decode cX11_mending 26 = .ok (.ireturn, 1) := by decide +kernel
theorem dX11_replace_0 : decode cX11_replace 0 = .ok (.iload_n 1, 1) := by decide +kernel
theorem dX11_replace_1 : decode cX11_replace 1 = .ok (.invokestatic 48, 3) := by decide +kernel
theorem dX11_replace_4 : decode cX11_replace 4 = .ok (.ifCond .eq 15, 3) := by decide +kernel
theorem dX11_replace_7 : decode cX11_replace 7 = .ok (.iload_n 2, 1) := by decide +kernel
theorem dX11_replace_8 : decode cX11_replace 8 = .ok (.iconst (-1), 1) := by decide +kernel
theorem dX11_replace_9 : decode cX11_replace 9 = .ok (.if_icmp .eq 20, 3) := by decide +kernel
theorem dX11_replace_12 : decode cX11_replace 12 = .ok (.iload_n 2, 1) := by decide +kernel
theorem dX11_replace_13 : decode cX11_replace 13 = .ok (.invokestatic 48, 3) := by decide +kernel
theorem dX11_replace_16 : decode cX11_replace 16 = .ok (.ifCond .ne 13, 3) := by decide +kernel
theorem dX11_replace_19 : decode cX11_replace 19 = .ok (.new 56, 3) := by decide +kernel
theorem dX11_replace_22 : decode cX11_replace 22 = .ok (.dup, 1) := by decide +kernel
theorem dX11_replace_23 : decode cX11_replace 23 = .ok (.ldc 230, 2) := by decide +kernel
theorem dX11_replace_25 : decode cX11_replace 25 = .ok (.invokespecial 60, 3) := by decide +kernel
theorem dX11_replace_28 : decode cX11_replace 28 = .ok (.athrow, 1) := by decide +kernel
theorem dX11_replace_29 : decode cX11_replace 29 = .ok (.aload_n 0, 1) := by decide +kernel
theorem dX11_replace_30 : decode cX11_replace 30 = .ok (.getfield 17, 3) := by decide +kernel
theorem dX11_replace_33 : decode cX11_replace 33 = .ok (.iload_n 2, 1) := by decide +kernel
theorem dX11_replace_34 : decode cX11_replace 34 = .ok (.iload_n 1, 1) := by decide +kernel
theorem dX11_replace_35 : decode cX11_replace 35 = .ok (.invokevirtual 232, 3) := by decide +kernel
theorem dX11_replace_38 : decode cX11_replace 38 = .ok (.ifCond .eq 13, 3) := by decide +kernel
theorem dX11_replace_41 : decode cX11_replace 41 = .ok (.new 87, 3) := by decide +kernel
theorem dX11_replace_44 : decode cX11_replace 44 = .ok (.dup, 1) := by decide +kernel
theorem dX11_replace_45 : decode cX11_replace 45 = .ok (.ldc 235, 2) := by decide +kernel
theorem dX11_replace_47 : decode cX11_replace 47 = .ok (.invokespecial 91, 3) := by decide +kernel
theorem dX11_replace_50 : decode cX11_replace 50 = .ok (.athrow, 1) := by decide +kernel
theorem dX11_replace_51 : decode cX11_replace 51 = .ok (.aload_n 0, 1) := by decide +kernel
theorem dX11_replace_52 : decode cX11_replace 52 = .ok (.getfield 17, 3) := by decide +kernel
theorem dX11_replace_55 : decode cX11_replace 55 = .ok (.iload_n 1, 1) := by decide +kernel
theorem dX11_replace_56 : decode cX11_replace 56 = .ok (.iload_n 2, 1) := by decide +kernel
theorem dX11_replace_57 : decode cX11_replace 57 = .ok (.invokevirtual 237, 3) := by decide +kernel
theorem dX11_replace_60 : decode cX11_replace 60 = .ok (.ireturn, 1) := by decide +kernel
theorem dX11_setPlatform_0 : decode cX11_setPlatform 0 = .ok (.iconst 2, 1) := by decide +kernel
theorem dX11_setPlatform_1 : decode cX11_setPlatform 1 = .ok (.iload_n 1, 1) := by decide +kernel
theorem dX11_setPlatform_2 : decode cX11_setPlatform 2 = .ok (.invokestatic 52, 3) := by decide +kernel
theorem dX11_setPlatform_5 : decode cX11_setPlatform 5 = .ok (.ifCond .ne 13, 3) := by decide +kernel
theorem dX11_setPlatform_8 : decode cX11_setPlatform 8 = .ok (.new 56, 3) := by decide +kernel
theorem dX11_setPlatform_11 : decode cX11_setPlatform 11 = .ok (.dup, 1) := by decide +kernel
theorem dX11_setPlatform_12 : decode cX11_setPlatform 12 = .ok (.ldc 240, 2) := by decide +kernel
theorem dX11_setPlatform_14 : decode cX11_setPlatform 14 = .ok (.invokespecial 60, 3) := by decide +kernel
theorem dX11_setPlatform_17 : decode cX11_setPlatform 17 = .ok (.athrow, 1) := by decide +kernel
theorem dX11_setPlatform_18 : decode cX11_setPlatform 18 = .ok (.aload_n 0, 1) := by decide +kernel
theorem dX11_setPlatform_19 : decode cX11_setPlatform 19 = .ok (.getfield 17, 3) := by decide +kernel
theorem dX11_setPlatform_22 : decode cX11_setPlatform 22 = .ok (.getfield 242, 3) := by decide +kernel
theorem dX11_setPlatform_25 : decode cX11_setPlatform 25 = .ok (.istore_n 2, 1) := by decide +kernel
theorem dX11_setPlatform_26 : decode cX11_setPlatform 26 = .ok (.aload_n 0, 1) := by decide +kernel
theorem dX11_setPlatform_27 : decode cX11_setPlatform 27 = .ok (.getfield 17, 3) := by decide +kernel
theorem dX11_setPlatform_30 : decode cX11_setPlatform 30 = .ok (.iload_n 1, 1) := by decide +kernel
theorem dX11_setPlatform_31 : decode cX11_setPlatform 31 = .ok (.putfield 242, 3) := by decide +kernel
theorem dX11_setPlatform_34 : decode cX11_setPlatform 34 = .ok (.iload_n 2, 1) := by decide +kernel
theorem dX11_setPlatform_35 : decode cX11_setPlatform 35 = .ok (.ireturn, 1) := by decide +kernel
theorem dX11_solve_0 : decode cX11_solve 0 = .ok (.bipush 7, 2) := by decide +kernel
theorem dX11_solve_2 : decode cX11_solve 2 = .ok (.iload_n 1, 1) := by decide +kernel
theorem dX11_solve_3 : decode cX11_solve 3 = .ok (.invokestatic 52, 3) := by decide +kernel
theorem dX11_solve_6 : decode cX11_solve 6 = .ok (.ifCond .eq 12, 3) := by decide +kernel
theorem dX11_solve_9 : decode cX11_solve 9 = .ok (.bipush 63, 2) := by decide +kernel
theorem dX11_solve_11 : decode cX11_solve 11 = .ok (.iload_n 2, 1) := by decide +kernel
theorem dX11_solve_12 : decode cX11_solve 12 = .ok (.invokestatic 52, 3) := by decide +kernel
theorem dX11_solve_15 : decode cX11_solve 15 = .ok (.ifCond .ne 13, 3) := by decide +kernel
theorem dX11_solve_18 : decode cX11_solve 18 = .ok (.new 66, 3) := by decide +kernel
theorem dX11_solve_21 : decode cX11_solve 21 = .ok (.dup, 1) := by decide +kernel
theorem dX11_solve_22 : decode cX11_solve 22 = .ok (.ldc 245, 2) := by decide +kernel
theorem dX11_solve_24 : decode cX11_solve 24 = .ok (.invokespecial 70, 3) := by decide +kernel
theorem dX11_solve_27 : decode cX11_solve 27 = .ok (.athrow, 1) := by decide +kernel
theorem dX11_solve_28 : decode cX11_solve 28 = .ok (.aload_n 0, 1) := by decide +kernel
theorem dX11_solve_29 : decode cX11_solve 29 = .ok (.getfield 21, 3) := by decide +kernel
theorem dX11_solve_32 : decode cX11_solve 32 = .ok (.iload_n 1, 1) := by decide +kernel
theorem dX11_solve_33 : decode cX11_solve 33 = .ok (.putfield 247, 3) := by decide +kernel
theorem dX11_solve_36 : decode cX11_solve 36 = .ok (.aload_n 0, 1) := by decide +kernel
theorem dX11_solve_37 : decode cX11_solve 37 = .ok (.getfield 21, 3) := by decide +kernel
theorem dX11_solve_40 : decode cX11_solve 40 = .ok (.iload_n 2, 1) := by decide +kernel
theorem dX11_solve_41 : decode cX11_solve 41 = .ok (.putfield 250, 3) := by decide +kernel
theorem dX11_solve_44 : decode cX11_solve 44 = .ok (.aload_n 0, 1) := by decide +kernel
theorem dX11_solve_45 : decode cX11_solve 45 = .ok (.getfield 30, 3) := by decide +kernel
theorem dX11_solve_48 : decode cX11_solve 48 = .ok (.invokevirtual 253, 3) := by decide +kernel
theorem dX11_solve_51 : decode cX11_solve 51 = .ok (.ifCond .eq 20, 3) := by decide +kernel
theorem dX11_solve_54 : decode cX11_solve 54 = .ok (.bipush 6, 2) := by decide +kernel
theorem dX11_solve_56 : decode cX11_solve 56 = .ok (.aload_n 0, 1) := by decide +kernel
theorem dX11_solve_57 : decode cX11_solve 57 = .ok (.getfield 30, 3) := by decide +kernel
theorem dX11_solve_60 : decode cX11_solve 60 = .ok (.getfield 256, 3) := by decide +kernel
theorem dX11_solve_63 : decode cX11_solve 63 = .ok (.iconst (-1), 1) := by decide +kernel
theorem dX11_solve_64 : decode cX11_solve 64 = .ok (.invokevirtual 259, 3) := by decide +kernel
theorem dX11_solve_67 : decode cX11_solve 67 = .ok (.isub, 1) := by decide +kernel
theorem dX11_solve_68 : decode cX11_solve 68 = .ok (.goto 4, 3) := by decide +kernel
theorem dX11_solve_71 : decode cX11_solve 71 = .ok (.iconst (-1), 1) := by decide +kernel
theorem dX11_solve_72 : decode cX11_solve 72 = .ok (.ireturn, 1) := by decide +kernel
theorem dX11_chosen_0 : decode cX11_chosen 0 = .ok (.iload_n 1, 1) := by decide +kernel
theorem dX11_chosen_1 : decode cX11_chosen 1 = .ok (.invokestatic 48, 3) := by decide +kernel
theorem dX11_chosen_4 : decode cX11_chosen 4 = .ok (.ifCond .ne 13, 3) := by decide +kernel
theorem dX11_chosen_7 : decode cX11_chosen 7 = .ok (.new 56, 3) := by decide +kernel
theorem dX11_chosen_10 : decode cX11_chosen 10 = .ok (.dup, 1) := by decide +kernel
theorem dX11_chosen_11 : decode cX11_chosen 11 = .ok (.ldc 230, 2) := by decide +kernel
theorem dX11_chosen_13 : decode cX11_chosen 13 = .ok (.invokespecial 60, 3) := by decide +kernel
theorem dX11_chosen_16 : decode cX11_chosen 16 = .ok (.athrow, 1) := by decide +kernel
theorem dX11_chosen_17 : decode cX11_chosen 17 = .ok (.aload_n 0, 1) := by decide +kernel
theorem dX11_chosen_18 : decode cX11_chosen 18 = .ok (.getfield 30, 3) := by decide +kernel
theorem dX11_chosen_21 : decode cX11_chosen 21 = .ok (.invokevirtual 253, 3) := by decide +kernel
theorem dX11_chosen_24 : decode cX11_chosen 24 = .ok (.ifCond .eq 17, 3) := by decide +kernel
theorem dX11_chosen_27 : decode cX11_chosen 27 = .ok (.aload_n 0, 1) := by decide +kernel
theorem dX11_chosen_28 : decode cX11_chosen 28 = .ok (.getfield 30, 3) := by decide +kernel
theorem dX11_chosen_31 : decode cX11_chosen 31 = .ok (.getfield 256, 3) := by decide +kernel
theorem dX11_chosen_34 : decode cX11_chosen 34 = .ok (.iload_n 1, 1) := by decide +kernel
theorem dX11_chosen_35 : decode cX11_chosen 35 = .ok (.invokevirtual 114, 3) := by decide +kernel
theorem dX11_chosen_38 : decode cX11_chosen 38 = .ok (.goto 4, 3) := by decide +kernel
theorem dX11_chosen_41 : decode cX11_chosen 41 = .ok (.iconst (-1), 1) := by decide +kernel
theorem dX11_chosen_42 : decode cX11_chosen 42 = .ok (.ireturn, 1) := by decide +kernel
theorem dX11_chosenAnew_0 : decode cX11_chosenAnew 0 = .ok (.iload_n 1, 1) := by decide +kernel
theorem dX11_chosenAnew_1 : decode cX11_chosenAnew 1 = .ok (.invokestatic 48, 3) := by decide +kernel
theorem dX11_chosenAnew_4 : decode cX11_chosenAnew 4 = .ok (.ifCond .ne 13, 3) := by decide +kernel
theorem dX11_chosenAnew_7 : decode cX11_chosenAnew 7 = .ok (.new 56, 3) := by decide +kernel
theorem dX11_chosenAnew_10 : decode cX11_chosenAnew 10 = .ok (.dup, 1) := by decide +kernel
theorem dX11_chosenAnew_11 : decode cX11_chosenAnew 11 = .ok (.ldc 230, 2) := by decide +kernel
theorem dX11_chosenAnew_13 : decode cX11_chosenAnew 13 = .ok (.invokespecial 60, 3) := by decide +kernel
theorem dX11_chosenAnew_16 : decode cX11_chosenAnew 16 = .ok (.athrow, 1) := by decide +kernel
theorem dX11_chosenAnew_17 : decode cX11_chosenAnew 17 = .ok (.aload_n 0, 1) := by decide +kernel
theorem dX11_chosenAnew_18 : decode cX11_chosenAnew 18 = .ok (.getfield 37, 3) := by decide +kernel
theorem dX11_chosenAnew_21 : decode cX11_chosenAnew 21 = .ok (.invokevirtual 262, 3) := by decide +kernel
theorem dX11_chosenAnew_24 : decode cX11_chosenAnew 24 = .ok (.ifCond .eq 17, 3) := by decide +kernel
theorem dX11_chosenAnew_27 : decode cX11_chosenAnew 27 = .ok (.aload_n 0, 1) := by decide +kernel
theorem dX11_chosenAnew_28 : decode cX11_chosenAnew 28 = .ok (.getfield 37, 3) := by decide +kernel
theorem dX11_chosenAnew_31 : decode cX11_chosenAnew 31 = .ok (.getfield 263, 3) := by decide +kernel
theorem dX11_chosenAnew_34 : decode cX11_chosenAnew 34 = .ok (.iload_n 1, 1) := by decide +kernel
theorem dX11_chosenAnew_35 : decode cX11_chosenAnew 35 = .ok (.invokevirtual 114, 3) := by decide +kernel
theorem dX11_chosenAnew_38 : decode cX11_chosenAnew 38 = .ok (.goto 4, 3) := by decide +kernel
theorem dX11_chosenAnew_41 : decode cX11_chosenAnew 41 = .ok (.iconst (-1), 1) := by decide +kernel
theorem dX11_chosenAnew_42 : decode cX11_chosenAnew 42 = .ok (.ireturn, 1) := by decide +kernel
theorem dX11_features_0 : decode cX11_features 0 = .ok (.iload_n 1, 1) := by decide +kernel
theorem dX11_features_1 : decode cX11_features 1 = .ok (.invokestatic 48, 3) := by decide +kernel
theorem dX11_features_4 : decode cX11_features 4 = .ok (.ifCond .ne 13, 3) := by decide +kernel
theorem dX11_features_7 : decode cX11_features 7 = .ok (.new 56, 3) := by decide +kernel
theorem dX11_features_10 : decode cX11_features 10 = .ok (.dup, 1) := by decide +kernel
theorem dX11_features_11 : decode cX11_features 11 = .ok (.ldc 230, 2) := by decide +kernel
theorem dX11_features_13 : decode cX11_features 13 = .ok (.invokespecial 60, 3) := by decide +kernel
theorem dX11_features_16 : decode cX11_features 16 = .ok (.athrow, 1) := by decide +kernel
theorem dX11_features_17 : decode cX11_features 17 = .ok (.aload_n 0, 1) := by decide +kernel
theorem dX11_features_18 : decode cX11_features 18 = .ok (.getfield 30, 3) := by decide +kernel
theorem dX11_features_21 : decode cX11_features 21 = .ok (.invokevirtual 253, 3) := by decide +kernel
theorem dX11_features_24 : decode cX11_features 24 = .ok (.ifCond .eq 18, 3) := by decide +kernel
theorem dX11_features_27 : decode cX11_features 27 = .ok (.aload_n 0, 1) := by decide +kernel
theorem dX11_features_28 : decode cX11_features 28 = .ok (.getfield 30, 3) := by decide +kernel
theorem dX11_features_31 : decode cX11_features 31 = .ok (.getfield 256, 3) := by decide +kernel
theorem dX11_features_34 : decode cX11_features 34 = .ok (.iload_n 1, 1) := by decide +kernel
theorem dX11_features_35 : decode cX11_features 35 = .ok (.invokevirtual 114, 3) := by decide +kernel
theorem dX11_features_38 : decode cX11_features 38 = .ok (.iconst (-1), 1) := by decide +kernel
theorem dX11_features_39 : decode cX11_features 39 = .ok (.if_icmp .ne 5, 3) := by decide +kernel
theorem dX11_features_42 : decode cX11_features 42 = .ok (.iconst 0, 1) := by decide +kernel
theorem dX11_features_43 : decode cX11_features 43 = .ok (.ireturn, 1) := by decide +kernel
theorem dX11_features_44 : decode cX11_features 44 = .ok (.aload_n 0, 1) := by decide +kernel
theorem dX11_features_45 : decode cX11_features 45 = .ok (.getfield 30, 3) := by decide +kernel
theorem dX11_features_48 : decode cX11_features 48 = .ok (.iload_n 1, 1) := by decide +kernel
theorem dX11_features_49 : decode cX11_features 49 = .ok (.invokevirtual 264, 3) := by decide +kernel
theorem dX11_features_52 : decode cX11_features 52 = .ok (.ireturn, 1) := by decide +kernel
theorem dX11_solutions_0 : decode cX11_solutions 0 = .ok (.aload_n 0, 1) := by decide +kernel
theorem dX11_solutions_1 : decode cX11_solutions 1 = .ok (.getfield 30, 3) := by decide +kernel
theorem dX11_solutions_4 : decode cX11_solutions 4 = .ok (.aload_n 0, 1) := by decide +kernel
theorem dX11_solutions_5 : decode cX11_solutions 5 = .ok (.getfield 21, 3) := by decide +kernel
theorem dX11_solutions_8 : decode cX11_solutions 8 = .ok (.invokevirtual 267, 3) := by decide +kernel
theorem dX11_solutions_11 : decode cX11_solutions 11 = .ok (.iconst (-1), 1) := by decide +kernel
theorem dX11_solutions_12 : decode cX11_solutions 12 = .ok (.invokevirtual 270, 3) := by decide +kernel
theorem dX11_solutions_15 : decode cX11_solutions 15 = .ok (.iconst 0, 1) := by decide +kernel
theorem dX11_solutions_16 : decode cX11_solutions 16 = .ok (.istore_n 1, 1) := by decide +kernel
theorem dX11_solutions_17 : decode cX11_solutions 17 = .ok (.iload_n 1, 1) := by decide +kernel
theorem dX11_solutions_18 : decode cX11_solutions 18 = .ok (.sipush 1000, 3) := by decide +kernel
theorem dX11_solutions_21 : decode cX11_solutions 21 = .ok (.if_icmp .ge 19, 3) := by decide +kernel
theorem dX11_solutions_24 : decode cX11_solutions 24 = .ok (.aload_n 0, 1) := by decide +kernel
theorem dX11_solutions_25 : decode cX11_solutions 25 = .ok (.getfield 30, 3) := by decide +kernel
theorem dX11_solutions_28 : decode cX11_solutions 28 = .ok (.invokevirtual 273, 3) := by decide +kernel
theorem dX11_solutions_31 : decode cX11_solutions 31 = .ok (.ifCond .eq 9, 3) := by decide +kernel
theorem dX11_solutions_34 : decode cX11_solutions 34 = .ok (.iinc 1 1, 3) := by decide +kernel
theorem dX11_solutions_37 : decode cX11_solutions 37 = .ok (.goto (-20), 3) := by decide +kernel
theorem dX11_solutions_40 : decode cX11_solutions 40 = .ok (.iload_n 1, 1) := by decide +kernel
theorem dX11_solutions_41 : decode cX11_solutions 41 = .ok (.ireturn, 1) := by decide +kernel
theorem dX11_why_0 : decode cX11_why 0 = .ok (.aload_n 0, 1) := by decide +kernel
theorem dX11_why_1 : decode cX11_why 1 = .ok (.getfield 21, 3) := by decide +kernel
theorem dX11_why_4 : decode cX11_why 4 = .ok (.invokevirtual 267, 3) := by decide +kernel
theorem dX11_why_7 : decode cX11_why 7 = .ok (.istore_n 1, 1) := by decide +kernel
theorem dX11_why_8 : decode cX11_why 8 = .ok (.aload_n 0, 1) := by decide +kernel
theorem dX11_why_9 : decode cX11_why 9 = .ok (.getfield 30, 3) := by decide +kernel
theorem dX11_why_12 : decode cX11_why 12 = .ok (.iload_n 1, 1) := by decide +kernel
theorem dX11_why_13 : decode cX11_why 13 = .ok (.invokevirtual 276, 3) := by decide +kernel
theorem dX11_why_16 : decode cX11_why 16 = .ok (.ifCond .eq 5, 3) := by decide +kernel
theorem dX11_why_19 : decode cX11_why 19 = .ok (.iconst 0, 1) := by decide +kernel
theorem dX11_why_20 : decode cX11_why 20 = .ok (.ireturn, 1) := by decide +kernel
theorem dX11_why_21 : decode cX11_why 21 = .ok (.iconst 1, 1) := by decide +kernel
theorem dX11_why_22 : decode cX11_why 22 = .ok (.istore_n 2, 1) := by decide +kernel
theorem dX11_why_23 : decode cX11_why 23 = .ok (.iload_n 2, 1) := by decide +kernel
theorem dX11_why_24 : decode cX11_why 24 = .ok (.bipush 6, 2) := by decide +kernel
theorem dX11_why_26 : decode cX11_why 26 = .ok (.if_icmp .gt 51, 3) := by decide +kernel
theorem dX11_why_29 : decode cX11_why 29 = .ok (.iconst 1, 1) := by decide +kernel
theorem dX11_why_30 : decode cX11_why 30 = .ok (.istore_n 3, 1) := by decide +kernel
theorem dX11_why_31 : decode cX11_why 31 = .ok (.iload_n 3, 1) := by decide +kernel
theorem dX11_why_32 : decode cX11_why 32 = .ok (.iload_n 1, 1) := by decide +kernel
theorem dX11_why_33 : decode cX11_why 33 = .ok (.if_icmp .gt 38, 3) := by decide +kernel
theorem dX11_why_36 : decode cX11_why 36 = .ok (.iload_n 3, 1) := by decide +kernel
theorem dX11_why_37 : decode cX11_why 37 = .ok (.iload_n 1, 1) := by decide +kernel
theorem dX11_why_38 : decode cX11_why 38 = .ok (.iconst (-1), 1) := by decide +kernel
theorem dX11_why_39 : decode cX11_why 39 = .ok (.ixor, 1) := by decide +kernel
theorem dX11_why_40 : decode cX11_why 40 = .ok (.iand, 1) := by decide +kernel
theorem dX11_why_41 : decode cX11_why 41 = .ok (.ifCond .ne 24, 3) := by decide +kernel
theorem dX11_why_44 : decode cX11_why 44 = .ok (.iload_n 3, 1) := by decide +kernel
theorem dX11_why_45 : decode cX11_why 45 = .ok (.invokestatic 279, 3) := by decide +kernel
theorem dX11_why_48 : decode cX11_why 48 = .ok (.iload_n 2, 1) := by decide +kernel
theorem dX11_why_49 : decode cX11_why 49 = .ok (.if_icmp .ne 16, 3) := by decide +kernel
theorem dX11_why_52 : decode cX11_why 52 = .ok (.aload_n 0, 1) := by decide +kernel
theorem dX11_why_53 : decode cX11_why 53 = .ok (.getfield 30, 3) := by decide +kernel
theorem dX11_why_56 : decode cX11_why 56 = .ok (.iload_n 3, 1) := by decide +kernel
theorem dX11_why_57 : decode cX11_why 57 = .ok (.invokevirtual 276, 3) := by decide +kernel
theorem dX11_why_60 : decode cX11_why 60 = .ok (.ifCond .ne 5, 3) := by decide +kernel
theorem dX11_why_63 : decode cX11_why 63 = .ok (.iload_n 3, 1) := by decide +kernel
theorem dX11_why_64 : decode cX11_why 64 = .ok (.ireturn, 1) := by decide +kernel
theorem dX11_why_65 : decode cX11_why 65 = .ok (.iinc 3 1, 3) := by decide +kernel
theorem dX11_why_68 : decode cX11_why 68 = .ok (.goto (-37), 3) := by decide +kernel
theorem dX11_why_71 : decode cX11_why 71 = .ok (.iinc 2 1, 3) := by decide +kernel
theorem dX11_why_74 : decode cX11_why 74 = .ok (.goto (-51), 3) := by decide +kernel
theorem dX11_why_77 : decode cX11_why 77 = .ok (.iload_n 1, 1) := by decide +kernel
theorem dX11_why_78 : decode cX11_why 78 = .ok (.ireturn, 1) := by decide +kernel
theorem dX11_against_0 : decode cX11_against 0 = .ok (.aload_n 0, 1) := by decide +kernel
theorem dX11_against_1 : decode cX11_against 1 = .ok (.iload_n 1, 1) := by decide +kernel
theorem dX11_against_2 : decode cX11_against 2 = .ok (.invokevirtual 105, 3) := by decide +kernel
theorem dX11_against_5 : decode cX11_against 5 = .ok (.ifCond .ne 13, 3) := by decide +kernel
theorem dX11_against_8 : decode cX11_against 8 = .ok (.new 56, 3) := by decide +kernel
theorem dX11_against_11 : decode cX11_against 11 = .ok (.dup, 1) := by decide +kernel
theorem dX11_against_12 : decode cX11_against 12 = .ok (.ldc 108, 2) := by decide +kernel
theorem dX11_against_14 : decode cX11_against 14 = .ok (.invokespecial 60, 3) := by decide +kernel
theorem dX11_against_17 : decode cX11_against 17 = .ok (.athrow, 1) := by decide +kernel
theorem dX11_against_18 : decode cX11_against 18 = .ok (.aload_n 0, 1) := by decide +kernel
theorem dX11_against_19 : decode cX11_against 19 = .ok (.getfield 17, 3) := by decide +kernel
theorem dX11_against_22 : decode cX11_against 22 = .ok (.iload_n 1, 1) := by decide +kernel
theorem dX11_against_23 : decode cX11_against 23 = .ok (.invokevirtual 282, 3) := by decide +kernel
theorem dX11_against_26 : decode cX11_against 26 = .ok (.istore_n 2, 1) := by decide +kernel
theorem dX11_against_27 : decode cX11_against 27 = .ok (.iload_n 2, 1) := by decide +kernel
theorem dX11_against_28 : decode cX11_against 28 = .ok (.ifCond .eq 5, 3) := by decide +kernel
theorem dX11_against_31 : decode cX11_against 31 = .ok (.iload_n 2, 1) := by decide +kernel
theorem dX11_against_32 : decode cX11_against 32 = .ok (.ireturn, 1) := by decide +kernel
theorem dX11_against_33 : decode cX11_against 33 = .ok (.aload_n 0, 1) := by decide +kernel
theorem dX11_against_34 : decode cX11_against 34 = .ok (.getfield 17, 3) := by decide +kernel
theorem dX11_against_37 : decode cX11_against 37 = .ok (.aload_n 0, 1) := by decide +kernel
theorem dX11_against_38 : decode cX11_against 38 = .ok (.getfield 21, 3) := by decide +kernel
theorem dX11_against_41 : decode cX11_against 41 = .ok (.invokevirtual 267, 3) := by decide +kernel
theorem dX11_against_44 : decode cX11_against 44 = .ok (.iload_n 1, 1) := by decide +kernel
theorem dX11_against_45 : decode cX11_against 45 = .ok (.invokevirtual 285, 3) := by decide +kernel
theorem dX11_against_48 : decode cX11_against 48 = .ok (.ifCond .eq 5, 3) := by decide +kernel
theorem dX11_against_51 : decode cX11_against 51 = .ok (.iconst 5, 1) := by decide +kernel
theorem dX11_against_52 : decode cX11_against 52 = .ok (.ireturn, 1) := by decide +kernel
theorem dX11_against_53 : decode cX11_against 53 = .ok (.aload_n 0, 1) := by decide +kernel
theorem dX11_against_54 : decode cX11_against 54 = .ok (.getfield 30, 3) := by decide +kernel
theorem dX11_against_57 : decode cX11_against 57 = .ok (.aload_n 0, 1) := by decide +kernel
theorem dX11_against_58 : decode cX11_against 58 = .ok (.getfield 21, 3) := by decide +kernel
theorem dX11_against_61 : decode cX11_against 61 = .ok (.invokevirtual 267, 3) := by decide +kernel
theorem dX11_against_64 : decode cX11_against 64 = .ok (.iload_n 1, 1) := by decide +kernel
theorem dX11_against_65 : decode cX11_against 65 = .ok (.invokevirtual 270, 3) := by decide +kernel
theorem dX11_against_68 : decode cX11_against 68 = .ok (.aload_n 0, 1) := by decide +kernel
theorem dX11_against_69 : decode cX11_against 69 = .ok (.getfield 30, 3) := by decide +kernel
theorem dX11_against_72 : decode cX11_against 72 = .ok (.invokevirtual 273, 3) := by decide +kernel
theorem dX11_against_75 : decode cX11_against 75 = .ok (.ifCond .ne 6, 3) := by decide +kernel
theorem dX11_against_78 : decode cX11_against 78 = .ok (.bipush 6, 2) := by decide +kernel
theorem dX11_against_80 : decode cX11_against 80 = .ok (.ireturn, 1) := by decide +kernel
theorem dX11_against_81 : decode cX11_against 81 = .ok (.aload_n 0, 1) := by decide +kernel
theorem dX11_against_82 : decode cX11_against 82 = .ok (.getfield 17, 3) := by decide +kernel
theorem dX11_against_85 : decode cX11_against 85 = .ok (.getfield 75, 3) := by decide +kernel
theorem dX11_against_88 : decode cX11_against 88 = .ok (.getfield 110, 3) := by decide +kernel
theorem dX11_against_91 : decode cX11_against 91 = .ok (.iload_n 1, 1) := by decide +kernel
theorem dX11_against_92 : decode cX11_against 92 = .ok (.invokevirtual 114, 3) := by decide +kernel
theorem dX11_against_95 : decode cX11_against 95 = .ok (.istore_n 3, 1) := by decide +kernel
theorem dX11_against_96 : decode cX11_against 96 = .ok (.aload_n 0, 1) := by decide +kernel
theorem dX11_against_97 : decode cX11_against 97 = .ok (.getfield 30, 3) := by decide +kernel
theorem dX11_against_100 : decode cX11_against 100 = .ok (.invokevirtual 253, 3) := by decide +kernel
theorem dX11_against_103 : decode cX11_against 103 = .ok (.ifCond .eq 22, 3) := by decide +kernel
theorem dX11_against_106 : decode cX11_against 106 = .ok (.aload_n 0, 1) := by decide +kernel
theorem dX11_against_107 : decode cX11_against 107 = .ok (.getfield 30, 3) := by decide +kernel
theorem dX11_against_110 : decode cX11_against 110 = .ok (.getfield 256, 3) := by decide +kernel
theorem dX11_against_113 : decode cX11_against 113 = .ok (.iload_n 3, 1) := by decide +kernel
theorem dX11_against_114 : decode cX11_against 114 = .ok (.invokevirtual 114, 3) := by decide +kernel
theorem dX11_against_117 : decode cX11_against 117 = .ok (.iload_n 1, 1) := by decide +kernel
theorem dX11_against_118 : decode cX11_against 118 = .ok (.if_icmp .ne 7, 3) := by decide +kernel
theorem dX11_against_121 : decode cX11_against 121 = .ok (.iconst 0, 1) := by decide +kernel
theorem dX11_against_122 : decode cX11_against 122 = .ok (.goto 5, 3) := by decide +kernel
theorem dX11_against_125 : decode cX11_against 125 = .ok (.bipush 7, 2) := by decide +kernel
theorem dX11_against_127 : decode cX11_against 127 = .ok (.ireturn, 1) := by decide +kernel
theorem dX11_lock_0 : decode cX11_lock 0 = .ok (.aload_n 0, 1) := by decide +kernel
theorem dX11_lock_1 : decode cX11_lock 1 = .ok (.getfield 30, 3) := by decide +kernel
theorem dX11_lock_4 : decode cX11_lock 4 = .ok (.invokevirtual 253, 3) := by decide +kernel
theorem dX11_lock_7 : decode cX11_lock 7 = .ok (.ifCond .ne 14, 3) := by decide +kernel
theorem dX11_lock_10 : decode cX11_lock 10 = .ok (.new 87, 3) := by decide +kernel
theorem dX11_lock_13 : decode cX11_lock 13 = .ok (.dup, 1) := by decide +kernel
theorem dX11_lock_14 : decode cX11_lock 14 = .ok (.ldc_w 288, 3) := by decide +kernel
theorem dX11_lock_17 : decode cX11_lock 17 = .ok (.invokespecial 91, 3) := by decide +kernel
theorem dX11_lock_20 : decode cX11_lock 20 = .ok (.athrow, 1) := by decide +kernel
theorem dX11_lock_21 : decode cX11_lock 21 = .ok (.iconst 0, 1) := by decide +kernel
theorem dX11_lock_22 : decode cX11_lock 22 = .ok (.istore_n 1, 1) := by decide +kernel
theorem dX11_lock_23 : decode cX11_lock 23 = .ok (.iconst 0, 1) := by decide +kernel
theorem dX11_lock_24 : decode cX11_lock 24 = .ok (.istore_n 2, 1) := by decide +kernel
theorem dX11_lock_25 : decode cX11_lock 25 = .ok (.iload_n 2, 1) := by decide +kernel
theorem dX11_lock_26 : decode cX11_lock 26 = .ok (.bipush 6, 2) := by decide +kernel
theorem dX11_lock_28 : decode cX11_lock 28 = .ok (.if_icmp .ge 40, 3) := by decide +kernel
theorem dX11_lock_31 : decode cX11_lock 31 = .ok (.aload_n 0, 1) := by decide +kernel
theorem dX11_lock_32 : decode cX11_lock 32 = .ok (.getfield 30, 3) := by decide +kernel
theorem dX11_lock_35 : decode cX11_lock 35 = .ok (.getfield 256, 3) := by decide +kernel
theorem dX11_lock_38 : decode cX11_lock 38 = .ok (.iload_n 2, 1) := by decide +kernel
theorem dX11_lock_39 : decode cX11_lock 39 = .ok (.invokevirtual 114, 3) := by decide +kernel
theorem dX11_lock_42 : decode cX11_lock 42 = .ok (.istore_n 3, 1) := by decide +kernel
theorem dX11_lock_43 : decode cX11_lock 43 = .ok (.aload_n 0, 1) := by decide +kernel
theorem dX11_lock_44 : decode cX11_lock 44 = .ok (.getfield 17, 3) := by decide +kernel
theorem dX11_lock_47 : decode cX11_lock 47 = .ok (.getfield 290, 3) := by decide +kernel
theorem dX11_lock_50 : decode cX11_lock 50 = .ok (.iload_n 2, 1) := by decide +kernel
theorem dX11_lock_51 : decode cX11_lock 51 = .ok (.iload_n 3, 1) := by decide +kernel
theorem dX11_lock_52 : decode cX11_lock 52 = .ok (.invokevirtual 139, 3) := by decide +kernel
theorem dX11_lock_55 : decode cX11_lock 55 = .ok (.iload_n 3, 1) := by decide +kernel
theorem dX11_lock_56 : decode cX11_lock 56 = .ok (.if_icmp .eq 6, 3) := by decide +kernel
theorem dX11_lock_59 : decode cX11_lock 59 = .ok (.iinc 1 1, 3) := by decide +kernel
theorem dX11_lock_62 : decode cX11_lock 62 = .ok (.iinc 2 1, 3) := by decide +kernel
theorem dX11_lock_65 : decode cX11_lock 65 = .ok (.goto (-40), 3) := by decide +kernel
theorem dX11_lock_68 : decode cX11_lock 68 = .ok (.iload_n 1, 1) := by decide +kernel
theorem dX11_lock_69 : decode cX11_lock 69 = .ok (.ireturn, 1) := by decide +kernel
theorem dX11_unlock_0 : decode cX11_unlock 0 = .ok (.iload_n 1, 1) := by decide +kernel
theorem dX11_unlock_1 : decode cX11_unlock 1 = .ok (.invokestatic 48, 3) := by decide +kernel
theorem dX11_unlock_4 : decode cX11_unlock 4 = .ok (.ifCond .ne 13, 3) := by decide +kernel
theorem dX11_unlock_7 : decode cX11_unlock 7 = .ok (.new 56, 3) := by decide +kernel
theorem dX11_unlock_10 : decode cX11_unlock 10 = .ok (.dup, 1) := by decide +kernel
theorem dX11_unlock_11 : decode cX11_unlock 11 = .ok (.ldc 230, 2) := by decide +kernel
theorem dX11_unlock_13 : decode cX11_unlock 13 = .ok (.invokespecial 60, 3) := by decide +kernel
theorem dX11_unlock_16 : decode cX11_unlock 16 = .ok (.athrow, 1) := by decide +kernel
theorem dX11_unlock_17 : decode cX11_unlock 17 = .ok (.aload_n 0, 1) := by decide +kernel
theorem dX11_unlock_18 : decode cX11_unlock 18 = .ok (.getfield 17, 3) := by decide +kernel
theorem dX11_unlock_21 : decode cX11_unlock 21 = .ok (.getfield 290, 3) := by decide +kernel
theorem dX11_unlock_24 : decode cX11_unlock 24 = .ok (.iload_n 1, 1) := by decide +kernel
theorem dX11_unlock_25 : decode cX11_unlock 25 = .ok (.iconst (-1), 1) := by decide +kernel
theorem dX11_unlock_26 : decode cX11_unlock 26 = .ok (.invokevirtual 139, 3) := by decide +kernel
theorem dX11_unlock_29 : decode cX11_unlock 29 = .ok (.ireturn, 1) := by decide +kernel
theorem dX11_install_0 : decode cX11_install 0 = .ok (.iload_n 1, 1) := by decide +kernel
theorem dX11_install_1 : decode cX11_install 1 = .ok (.iconst 1, 1) := by decide +kernel
theorem dX11_install_2 : decode cX11_install 2 = .ok (.if_icmp .lt 9, 3) := by decide +kernel
theorem dX11_install_5 : decode cX11_install 5 = .ok (.iload_n 1, 1) := by decide +kernel
theorem dX11_install_6 : decode cX11_install 6 = .ok (.bipush 10, 2) := by decide +kernel
theorem dX11_install_8 : decode cX11_install 8 = .ok (.if_icmp .le 14, 3) := by decide +kernel
theorem dX11_install_11 : decode cX11_install 11 = .ok (.new 66, 3) := by decide +kernel
theorem dX11_install_14 : decode cX11_install 14 = .ok (.dup, 1) := by decide +kernel
theorem dX11_install_15 : decode cX11_install 15 = .ok (.ldc_w 293, 3) := by decide +kernel
theorem dX11_install_18 : decode cX11_install 18 = .ok (.invokespecial 70, 3) := by decide +kernel
theorem dX11_install_21 : decode cX11_install 21 = .ok (.athrow, 1) := by decide +kernel
theorem dX11_install_22 : decode cX11_install 22 = .ok (.aload_n 0, 1) := by decide +kernel
theorem dX11_install_23 : decode cX11_install 23 = .ok (.getfield 30, 3) := by decide +kernel
theorem dX11_install_26 : decode cX11_install 26 = .ok (.invokevirtual 253, 3) := by decide +kernel
theorem dX11_install_29 : decode cX11_install 29 = .ok (.ifCond .ne 14, 3) := by decide +kernel
theorem dX11_install_32 : decode cX11_install 32 = .ok (.new 87, 3) := by decide +kernel
theorem dX11_install_35 : decode cX11_install 35 = .ok (.dup, 1) := by decide +kernel
theorem dX11_install_36 : decode cX11_install 36 = .ok (.ldc_w 288, 3) := by decide +kernel
theorem dX11_install_39 : decode cX11_install 39 = .ok (.invokespecial 91, 3) := by decide +kernel
theorem dX11_install_42 : decode cX11_install 42 = .ok (.athrow, 1) := by decide +kernel
theorem dX11_install_43 : decode cX11_install 43 = .ok (.iconst 0, 1) := by decide +kernel
theorem dX11_install_44 : decode cX11_install 44 = .ok (.istore_n 2, 1) := by decide +kernel
theorem dX11_install_45 : decode cX11_install 45 = .ok (.iconst 0, 1) := by decide +kernel
theorem dX11_install_46 : decode cX11_install 46 = .ok (.istore_n 3, 1) := by decide +kernel
theorem dX11_install_47 : decode cX11_install 47 = .ok (.iload_n 3, 1) := by decide +kernel
theorem dX11_install_48 : decode cX11_install 48 = .ok (.bipush 6, 2) := by decide +kernel
theorem dX11_install_50 : decode cX11_install 50 = .ok (.if_icmp .ge 74, 3) := by decide +kernel
theorem dX11_install_53 : decode cX11_install 53 = .ok (.iload_n 2, 1) := by decide +kernel
theorem dX11_install_54 : decode cX11_install 54 = .ok (.iload_n 1, 1) := by decide +kernel
theorem dX11_install_55 : decode cX11_install 55 = .ok (.if_icmp .ge 69, 3) := by decide +kernel
theorem dX11_install_58 : decode cX11_install 58 = .ok (.aload_n 0, 1) := by decide +kernel
theorem dX11_install_59 : decode cX11_install 59 = .ok (.getfield 30, 3) := by decide +kernel
theorem dX11_install_62 : decode cX11_install 62 = .ok (.getfield 256, 3) := by decide +kernel
theorem dX11_install_65 : decode cX11_install 65 = .ok (.iload_n 3, 1) := by decide +kernel
theorem dX11_install_66 : decode cX11_install 66 = .ok (.invokevirtual 114, 3) := by decide +kernel
theorem dX11_install_69 : decode cX11_install 69 = .ok (.istore 4, 2) := by decide +kernel
theorem dX11_install_71 : decode cX11_install 71 = .ok (.aload_n 0, 1) := by decide +kernel
theorem dX11_install_72 : decode cX11_install 72 = .ok (.getfield 17, 3) := by decide +kernel
theorem dX11_install_75 : decode cX11_install 75 = .ok (.getfield 75, 3) := by decide +kernel
theorem dX11_install_78 : decode cX11_install 78 = .ok (.getfield 295, 3) := by decide +kernel
theorem dX11_install_81 : decode cX11_install 81 = .ok (.iload 4, 2) := by decide +kernel
theorem dX11_install_83 : decode cX11_install 83 = .ok (.invokevirtual 114, 3) := by decide +kernel
theorem dX11_install_86 : decode cX11_install 86 = .ok (.istore 5, 2) := by decide +kernel
theorem dX11_install_88 : decode cX11_install 88 = .ok (.aload_n 0, 1) := by decide +kernel
theorem dX11_install_89 : decode cX11_install 89 = .ok (.getfield 44, 3) := by decide +kernel
theorem dX11_install_92 : decode cX11_install 92 = .ok (.iload_n 3, 1) := by decide +kernel
theorem dX11_install_93 : decode cX11_install 93 = .ok (.iload 4, 2) := by decide +kernel
theorem dX11_install_95 : decode cX11_install 95 = .ok (.iload 5, 2) := by decide +kernel
theorem dX11_install_97 : decode cX11_install 97 = .ok (.invokevirtual 298, 3) := by decide +kernel
theorem dX11_install_100 : decode cX11_install 100 = .ok (.ifCond .eq 18, 3) := by decide +kernel
theorem dX11_install_103 : decode cX11_install 103 = .ok (.aload_n 0, 1) := by decide +kernel
theorem dX11_install_104 : decode cX11_install 104 = .ok (.getfield 44, 3) := by decide +kernel
theorem dX11_install_107 : decode cX11_install 107 = .ok (.iload_n 3, 1) := by decide +kernel
theorem dX11_install_108 : decode cX11_install 108 = .ok (.iload 4, 2) := by decide +kernel
theorem dX11_install_110 : decode cX11_install 110 = .ok (.iload 5, 2) := by decide +kernel
theorem dX11_install_112 : decode cX11_install 112 = .ok (.invokevirtual 302, 3) := by decide +kernel
theorem dX11_install_115 : decode cX11_install 115 = .ok (.iinc 2 1, 3) := by decide +kernel
theorem dX11_install_118 : decode cX11_install 118 = .ok (.iinc 3 1, 3) := by decide +kernel
theorem dX11_install_121 : decode cX11_install 121 = .ok (.goto (-74), 3) := by decide +kernel
theorem dX11_install_124 : decode cX11_install 124 = .ok (.iload_n 2, 1) := by decide +kernel
theorem dX11_install_125 : decode cX11_install 125 = .ok (.ireturn, 1) := by decide +kernel
theorem dX11_spoil_0 : decode cX11_spoil 0 = .ok (.iload_n 1, 1) := by decide +kernel
theorem dX11_spoil_1 : decode cX11_spoil 1 = .ok (.invokestatic 48, 3) := by decide +kernel
theorem dX11_spoil_4 : decode cX11_spoil 4 = .ok (.ifCond .ne 13, 3) := by decide +kernel
theorem dX11_spoil_7 : decode cX11_spoil 7 = .ok (.new 56, 3) := by decide +kernel
theorem dX11_spoil_10 : decode cX11_spoil 10 = .ok (.dup, 1) := by decide +kernel
theorem dX11_spoil_11 : decode cX11_spoil 11 = .ok (.ldc 230, 2) := by decide +kernel
theorem dX11_spoil_13 : decode cX11_spoil 13 = .ok (.invokespecial 60, 3) := by decide +kernel
theorem dX11_spoil_16 : decode cX11_spoil 16 = .ok (.athrow, 1) := by decide +kernel
theorem dX11_spoil_17 : decode cX11_spoil 17 = .ok (.aload_n 0, 1) := by decide +kernel
theorem dX11_spoil_18 : decode cX11_spoil 18 = .ok (.getfield 44, 3) := by decide +kernel
theorem dX11_spoil_21 : decode cX11_spoil 21 = .ok (.getfield 306, 3) := by decide +kernel
theorem dX11_spoil_24 : decode cX11_spoil 24 = .ok (.iload_n 1, 1) := by decide +kernel
theorem dX11_spoil_25 : decode cX11_spoil 25 = .ok (.invokevirtual 114, 3) := by decide +kernel
theorem dX11_spoil_28 : decode cX11_spoil 28 = .ok (.iconst (-1), 1) := by decide +kernel
theorem dX11_spoil_29 : decode cX11_spoil 29 = .ok (.if_icmp .ne 14, 3) := by decide +kernel
theorem dX11_spoil_32 : decode cX11_spoil 32 = .ok (.new 87, 3) := by decide +kernel
theorem dX11_spoil_35 : decode cX11_spoil 35 = .ok (.dup, 1) := by decide +kernel
theorem dX11_spoil_36 : decode cX11_spoil 36 = .ok (.ldc_w 308, 3) := by decide +kernel
theorem dX11_spoil_39 : decode cX11_spoil 39 = .ok (.invokespecial 91, 3) := by decide +kernel
theorem dX11_spoil_42 : decode cX11_spoil 42 = .ok (.athrow, 1) := by decide +kernel
theorem dX11_spoil_43 : decode cX11_spoil 43 = .ok (.aload_n 0, 1) := by decide +kernel
theorem dX11_spoil_44 : decode cX11_spoil 44 = .ok (.getfield 44, 3) := by decide +kernel
theorem dX11_spoil_47 : decode cX11_spoil 47 = .ok (.getfield 310, 3) := by decide +kernel
theorem dX11_spoil_50 : decode cX11_spoil 50 = .ok (.iload_n 1, 1) := by decide +kernel
theorem dX11_spoil_51 : decode cX11_spoil 51 = .ok (.invokevirtual 114, 3) := by decide +kernel
theorem dX11_spoil_54 : decode cX11_spoil 54 = .ok (.iconst 1, 1) := by decide +kernel
theorem dX11_spoil_55 : decode cX11_spoil 55 = .ok (.iadd, 1) := by decide +kernel
theorem dX11_spoil_56 : decode cX11_spoil 56 = .ok (.istore_n 2, 1) := by decide +kernel
theorem dX11_spoil_57 : decode cX11_spoil 57 = .ok (.aload_n 0, 1) := by decide +kernel
theorem dX11_spoil_58 : decode cX11_spoil 58 = .ok (.getfield 44, 3) := by decide +kernel
theorem dX11_spoil_61 : decode cX11_spoil 61 = .ok (.getfield 310, 3) := by decide +kernel
theorem dX11_spoil_64 : decode cX11_spoil 64 = .ok (.iload_n 1, 1) := by decide +kernel
theorem dX11_spoil_65 : decode cX11_spoil 65 = .ok (.iload_n 2, 1) := by decide +kernel
theorem dX11_spoil_66 : decode cX11_spoil 66 = .ok (.invokevirtual 311, 3) := by decide +kernel
theorem dX11_spoil_69 : decode cX11_spoil 69 = .ok (.iload_n 2, 1) := by decide +kernel
theorem dX11_spoil_70 : decode cX11_spoil 70 = .ok (.ireturn, 1) := by decide +kernel
theorem dX11_onDisk_0 : decode cX11_onDisk 0 = .ok (.iload_n 1, 1) := by decide +kernel
theorem dX11_onDisk_1 : decode cX11_onDisk 1 = .ok (.invokestatic 48, 3) := by decide +kernel
theorem dX11_onDisk_4 : decode cX11_onDisk 4 = .ok (.ifCond .ne 13, 3) := by decide +kernel
theorem dX11_onDisk_7 : decode cX11_onDisk 7 = .ok (.new 56, 3) := by decide +kernel
theorem dX11_onDisk_10 : decode cX11_onDisk 10 = .ok (.dup, 1) := by decide +kernel
theorem dX11_onDisk_11 : decode cX11_onDisk 11 = .ok (.ldc 230, 2) := by decide +kernel
theorem dX11_onDisk_13 : decode cX11_onDisk 13 = .ok (.invokespecial 60, 3) := by decide +kernel
theorem dX11_onDisk_16 : decode cX11_onDisk 16 = .ok (.athrow, 1) := by decide +kernel
theorem dX11_onDisk_17 : decode cX11_onDisk 17 = .ok (.aload_n 0, 1) := by decide +kernel
theorem dX11_onDisk_18 : decode cX11_onDisk 18 = .ok (.getfield 44, 3) := by decide +kernel
theorem dX11_onDisk_21 : decode cX11_onDisk 21 = .ok (.getfield 306, 3) := by decide +kernel
theorem dX11_onDisk_24 : decode cX11_onDisk 24 = .ok (.iload_n 1, 1) := by decide +kernel
theorem dX11_onDisk_25 : decode cX11_onDisk 25 = .ok (.invokevirtual 114, 3) := by decide +kernel
theorem dX11_onDisk_28 : decode cX11_onDisk 28 = .ok (.istore_n 2, 1) := by decide +kernel
theorem dX11_onDisk_29 : decode cX11_onDisk 29 = .ok (.iload_n 2, 1) := by decide +kernel
theorem dX11_onDisk_30 : decode cX11_onDisk 30 = .ok (.iconst (-1), 1) := by decide +kernel
theorem dX11_onDisk_31 : decode cX11_onDisk 31 = .ok (.if_icmp .ne 7, 3) := by decide +kernel
theorem dX11_onDisk_34 : decode cX11_onDisk 34 = .ok (.iconst (-1), 1) := by decide +kernel
theorem dX11_onDisk_35 : decode cX11_onDisk 35 = .ok (.goto 20, 3) := by decide +kernel
theorem dX11_onDisk_38 : decode cX11_onDisk 38 = .ok (.sipush 10000, 3) := by decide +kernel
theorem dX11_onDisk_41 : decode cX11_onDisk 41 = .ok (.iload_n 2, 1) := by decide +kernel
theorem dX11_onDisk_42 : decode cX11_onDisk 42 = .ok (.imul, 1) := by decide +kernel
theorem dX11_onDisk_43 : decode cX11_onDisk 43 = .ok (.aload_n 0, 1) := by decide +kernel
theorem dX11_onDisk_44 : decode cX11_onDisk 44 = .ok (.getfield 44, 3) := by decide +kernel
theorem dX11_onDisk_47 : decode cX11_onDisk 47 = .ok (.getfield 310, 3) := by decide +kernel
theorem dX11_onDisk_50 : decode cX11_onDisk 50 = .ok (.iload_n 1, 1) := by decide +kernel
theorem dX11_onDisk_51 : decode cX11_onDisk 51 = .ok (.invokevirtual 114, 3) := by decide +kernel
theorem dX11_onDisk_54 : decode cX11_onDisk 54 = .ok (.iadd, 1) := by decide +kernel
theorem dX11_onDisk_55 : decode cX11_onDisk 55 = .ok (.ireturn, 1) := by decide +kernel
theorem dX11_pending_0 : decode cX11_pending 0 = .ok (.aload_n 0, 1) := by decide +kernel
theorem dX11_pending_1 : decode cX11_pending 1 = .ok (.getfield 30, 3) := by decide +kernel
theorem dX11_pending_4 : decode cX11_pending 4 = .ok (.invokevirtual 253, 3) := by decide +kernel
theorem dX11_pending_7 : decode cX11_pending 7 = .ok (.ifCond .ne 5, 3) := by decide +kernel
theorem dX11_pending_10 : decode cX11_pending 10 = .ok (.iconst (-1), 1) := by decide +kernel
theorem dX11_pending_11 : decode cX11_pending 11 = .ok (.ireturn, 1) := by decide +kernel
theorem dX11_pending_12 : decode cX11_pending 12 = .ok (.iconst 0, 1) := by decide +kernel
theorem dX11_pending_13 : decode cX11_pending 13 = .ok (.istore_n 1, 1) := by decide +kernel
theorem dX11_pending_14 : decode cX11_pending 14 = .ok (.iconst 0, 1) := by decide +kernel
theorem dX11_pending_15 : decode cX11_pending 15 = .ok (.istore_n 2, 1) := by decide +kernel
theorem dX11_pending_16 : decode cX11_pending 16 = .ok (.iload_n 2, 1) := by decide +kernel
theorem dX11_pending_17 : decode cX11_pending 17 = .ok (.bipush 6, 2) := by decide +kernel
theorem dX11_pending_19 : decode cX11_pending 19 = .ok (.if_icmp .ge 50, 3) := by decide +kernel
theorem dX11_pending_22 : decode cX11_pending 22 = .ok (.aload_n 0, 1) := by decide +kernel
theorem dX11_pending_23 : decode cX11_pending 23 = .ok (.getfield 30, 3) := by decide +kernel
theorem dX11_pending_26 : decode cX11_pending 26 = .ok (.getfield 256, 3) := by decide +kernel
theorem dX11_pending_29 : decode cX11_pending 29 = .ok (.iload_n 2, 1) := by decide +kernel
theorem dX11_pending_30 : decode cX11_pending 30 = .ok (.invokevirtual 114, 3) := by decide +kernel
theorem dX11_pending_33 : decode cX11_pending 33 = .ok (.istore_n 3, 1) := by decide +kernel
theorem dX11_pending_34 : decode cX11_pending 34 = .ok (.aload_n 0, 1) := by decide +kernel
theorem dX11_pending_35 : decode cX11_pending 35 = .ok (.getfield 44, 3) := by decide +kernel
theorem dX11_pending_38 : decode cX11_pending 38 = .ok (.iload_n 2, 1) := by decide +kernel
theorem dX11_pending_39 : decode cX11_pending 39 = .ok (.iload_n 3, 1) := by decide +kernel
theorem dX11_pending_40 : decode cX11_pending 40 = .ok (.aload_n 0, 1) := by decide +kernel
theorem dX11_pending_41 : decode cX11_pending 41 = .ok (.getfield 17, 3) := by decide +kernel
theorem dX11_pending_44 : decode cX11_pending 44 = .ok (.getfield 75, 3) := by decide +kernel
theorem dX11_pending_47 : decode cX11_pending 47 = .ok (.getfield 295, 3) := by decide +kernel
theorem dX11_pending_50 : decode cX11_pending 50 = .ok (.iload_n 3, 1) := by decide +kernel
theorem dX11_pending_51 : decode cX11_pending 51 = .ok (.invokevirtual 114, 3) := by decide +kernel
theorem dX11_pending_54 : decode cX11_pending 54 = .ok (.invokevirtual 298, 3) := by decide +kernel
theorem dX11_pending_57 : decode cX11_pending 57 = .ok (.ifCond .eq 6, 3) := by decide +kernel
theorem dX11_pending_60 : decode cX11_pending 60 = .ok (.iinc 1 1, 3) := by decide +kernel
theorem dX11_pending_63 : decode cX11_pending 63 = .ok (.iinc 2 1, 3) := by decide +kernel
theorem dX11_pending_66 : decode cX11_pending 66 = .ok (.goto (-50), 3) := by decide +kernel
theorem dX11_pending_69 : decode cX11_pending 69 = .ok (.iload_n 1, 1) := by decide +kernel
theorem dX11_pending_70 : decode cX11_pending 70 = .ok (.ireturn, 1) := by decide +kernel
theorem dX11_isUpTo_0 : decode cX11_isUpTo 0 = .ok (.iload_n 1, 1) := by decide +kernel
theorem dX11_isUpTo_1 : decode cX11_isUpTo 1 = .ok (.ifCond .lt 12, 3) := by decide +kernel
theorem dX11_isUpTo_4 : decode cX11_isUpTo 4 = .ok (.iload_n 1, 1) := by decide +kernel
theorem dX11_isUpTo_5 : decode cX11_isUpTo 5 = .ok (.iload_n 0, 1) := by decide +kernel
theorem dX11_isUpTo_6 : decode cX11_isUpTo 6 = .ok (.if_icmp .gt 7, 3) := by decide +kernel
theorem dX11_isUpTo_9 : decode cX11_isUpTo 9 = .ok (.iconst 1, 1) := by decide +kernel
theorem dX11_isUpTo_10 : decode cX11_isUpTo 10 = .ok (.goto 4, 3) := by decide +kernel
theorem dX11_isUpTo_13 : decode cX11_isUpTo 13 = .ok (.iconst 0, 1) := by decide +kernel
theorem dX11_isUpTo_14 : decode cX11_isUpTo 14 = .ok (.ireturn, 1) := by decide +kernel
theorem dX11_isDigit_0 : decode cX11_isDigit 0 = .ok (.bipush 9, 2) := by decide +kernel
theorem dX11_isDigit_2 : decode cX11_isDigit 2 = .ok (.iload_n 0, 1) := by decide +kernel
theorem dX11_isDigit_3 : decode cX11_isDigit 3 = .ok (.invokestatic 52, 3) := by decide +kernel
theorem dX11_isDigit_6 : decode cX11_isDigit 6 = .ok (.ireturn, 1) := by decide +kernel
theorem dX11_isPackage_0 : decode cX11_isPackage 0 = .ok (.iconst 5, 1) := by decide +kernel
theorem dX11_isPackage_1 : decode cX11_isPackage 1 = .ok (.iload_n 0, 1) := by decide +kernel
theorem dX11_isPackage_2 : decode cX11_isPackage 2 = .ok (.invokestatic 52, 3) := by decide +kernel
theorem dX11_isPackage_5 : decode cX11_isPackage 5 = .ok (.ireturn, 1) := by decide +kernel
theorem dX11_isVersion_0 : decode cX11_isVersion 0 = .ok (.aload_n 0, 1) := by decide +kernel
theorem dX11_isVersion_1 : decode cX11_isVersion 1 = .ok (.getfield 17, 3) := by decide +kernel
theorem dX11_isVersion_4 : decode cX11_isVersion 4 = .ok (.getfield 75, 3) := by decide +kernel
theorem dX11_isVersion_7 : decode cX11_isVersion 7 = .ok (.getfield 314, 3) := by decide +kernel
theorem dX11_isVersion_10 : decode cX11_isVersion 10 = .ok (.iconst 1, 1) := by decide +kernel
theorem dX11_isVersion_11 : decode cX11_isVersion 11 = .ok (.isub, 1) := by decide +kernel
theorem dX11_isVersion_12 : decode cX11_isVersion 12 = .ok (.iload_n 1, 1) := by decide +kernel
theorem dX11_isVersion_13 : decode cX11_isVersion 13 = .ok (.invokestatic 52, 3) := by decide +kernel
theorem dX11_isVersion_16 : decode cX11_isVersion 16 = .ok (.ireturn, 1) := by decide +kernel
theorem dX11_isRange_0 : decode cX11_isRange 0 = .ok (.aload_n 0, 1) := by decide +kernel
theorem dX11_isRange_1 : decode cX11_isRange 1 = .ok (.getfield 17, 3) := by decide +kernel
theorem dX11_isRange_4 : decode cX11_isRange 4 = .ok (.getfield 95, 3) := by decide +kernel
theorem dX11_isRange_7 : decode cX11_isRange 7 = .ok (.getfield 316, 3) := by decide +kernel
theorem dX11_isRange_10 : decode cX11_isRange 10 = .ok (.iconst 1, 1) := by decide +kernel
theorem dX11_isRange_11 : decode cX11_isRange 11 = .ok (.isub, 1) := by decide +kernel
theorem dX11_isRange_12 : decode cX11_isRange 12 = .ok (.iload_n 1, 1) := by decide +kernel
theorem dX11_isRange_13 : decode cX11_isRange 13 = .ok (.invokestatic 52, 3) := by decide +kernel
theorem dX11_isRange_16 : decode cX11_isRange 16 = .ok (.ireturn, 1) := by decide +kernel
theorem dX11_isIn_0 : decode cX11_isIn 0 = .ok (.iload_n 1, 1) := by decide +kernel
theorem dX11_isIn_1 : decode cX11_isIn 1 = .ok (.ifCond .lt 16, 3) := by decide +kernel
theorem dX11_isIn_4 : decode cX11_isIn 4 = .ok (.iload_n 0, 1) := by decide +kernel
theorem dX11_isIn_5 : decode cX11_isIn 5 = .ok (.iload_n 1, 1) := by decide +kernel
theorem dX11_isIn_6 : decode cX11_isIn 6 = .ok (.ishr, 1) := by decide +kernel
theorem dX11_isIn_7 : decode cX11_isIn 7 = .ok (.iconst 1, 1) := by decide +kernel
theorem dX11_isIn_8 : decode cX11_isIn 8 = .ok (.iand, 1) := by decide +kernel
theorem dX11_isIn_9 : decode cX11_isIn 9 = .ok (.iconst 1, 1) := by decide +kernel
theorem dX11_isIn_10 : decode cX11_isIn 10 = .ok (.if_icmp .ne 7, 3) := by decide +kernel
theorem dX11_isIn_13 : decode cX11_isIn 13 = .ok (.iconst 1, 1) := by decide +kernel
theorem dX11_isIn_14 : decode cX11_isIn 14 = .ok (.goto 4, 3) := by decide +kernel
theorem dX11_isIn_17 : decode cX11_isIn 17 = .ok (.iconst 0, 1) := by decide +kernel
theorem dX11_isIn_18 : decode cX11_isIn 18 = .ok (.ireturn, 1) := by decide +kernel
theorem dX11_rankOf_0 : decode cX11_rankOf 0 = .ok (.iload_n 0, 1) := by decide +kernel
theorem dX11_rankOf_1 : decode cX11_rankOf 1 = .ok (.iconst 4, 1) := by decide +kernel
theorem dX11_rankOf_2 : decode cX11_rankOf 2 = .ok (.ishl, 1) := by decide +kernel
theorem dX11_rankOf_3 : decode cX11_rankOf 3 = .ok (.iload_n 1, 1) := by decide +kernel
theorem dX11_rankOf_4 : decode cX11_rankOf 4 = .ok (.ior, 1) := by decide +kernel
theorem dX11_rankOf_5 : decode cX11_rankOf 5 = .ok (.iconst 4, 1) := by decide +kernel
theorem dX11_rankOf_6 : decode cX11_rankOf 6 = .ok (.ishl, 1) := by decide +kernel
theorem dX11_rankOf_7 : decode cX11_rankOf 7 = .ok (.iload_n 2, 1) := by decide +kernel
theorem dX11_rankOf_8 : decode cX11_rankOf 8 = .ok (.ior, 1) := by decide +kernel
theorem dX11_rankOf_9 : decode cX11_rankOf 9 = .ok (.istore 4, 2) := by decide +kernel
theorem dX11_rankOf_11 : decode cX11_rankOf 11 = .ok (.iload 4, 2) := by decide +kernel
theorem dX11_rankOf_13 : decode cX11_rankOf 13 = .ok (.iconst 4, 1) := by decide +kernel
theorem dX11_rankOf_14 : decode cX11_rankOf 14 = .ok (.ishl, 1) := by decide +kernel
theorem dX11_rankOf_15 : decode cX11_rankOf 15 = .ok (.iload_n 3, 1) := by decide +kernel
theorem dX11_rankOf_16 : decode cX11_rankOf 16 = .ok (.ifCond .ne 8, 3) := by decide +kernel
theorem dX11_rankOf_19 : decode cX11_rankOf 19 = .ok (.bipush 10, 2) := by decide +kernel
theorem dX11_rankOf_21 : decode cX11_rankOf 21 = .ok (.goto 4, 3) := by decide +kernel
theorem dX11_rankOf_24 : decode cX11_rankOf 24 = .ok (.iload_n 3, 1) := by decide +kernel
theorem dX11_rankOf_25 : decode cX11_rankOf 25 = .ok (.ior, 1) := by decide +kernel
theorem dX11_rankOf_26 : decode cX11_rankOf 26 = .ok (.ireturn, 1) := by decide +kernel
theorem dX11_triple_0 : decode cX11_triple 0 = .ok (.iload_n 0, 1) := by decide +kernel
theorem dX11_triple_1 : decode cX11_triple 1 = .ok (.iconst 4, 1) := by decide +kernel
theorem dX11_triple_2 : decode cX11_triple 2 = .ok (.ishr, 1) := by decide +kernel
theorem dX11_triple_3 : decode cX11_triple 3 = .ok (.ireturn, 1) := by decide +kernel
theorem dX11_hasPre_0 : decode cX11_hasPre 0 = .ok (.iload_n 0, 1) := by decide +kernel
theorem dX11_hasPre_1 : decode cX11_hasPre 1 = .ok (.bipush 15, 2) := by decide +kernel
theorem dX11_hasPre_3 : decode cX11_hasPre 3 = .ok (.iand, 1) := by decide +kernel
theorem dX11_hasPre_4 : decode cX11_hasPre 4 = .ok (.bipush 10, 2) := by decide +kernel
theorem dX11_hasPre_6 : decode cX11_hasPre 6 = .ok (.if_icmp .eq 7, 3) := by decide +kernel
theorem dX11_hasPre_9 : decode cX11_hasPre 9 = .ok (.iconst 1, 1) := by decide +kernel
theorem dX11_hasPre_10 : decode cX11_hasPre 10 = .ok (.goto 4, 3) := by decide +kernel
theorem dX11_hasPre_13 : decode cX11_hasPre 13 = .ok (.iconst 0, 1) := by decide +kernel
theorem dX11_hasPre_14 : decode cX11_hasPre 14 = .ok (.ireturn, 1) := by decide +kernel
theorem dX11_hasWholeVersion_0 : decode cX11_hasWholeVersion 0 = .ok (.iload_n 0, 1) := by decide +kernel
theorem dX11_hasWholeVersion_1 : decode cX11_hasWholeVersion 1 = .ok (.iconst 3, 1) := by decide +kernel
theorem dX11_hasWholeVersion_2 : decode cX11_hasWholeVersion 2 = .ok (.if_icmp .eq 19, 3) := by decide +kernel
theorem dX11_hasWholeVersion_5 : decode cX11_hasWholeVersion 5 = .ok (.iload_n 0, 1) := by decide +kernel
theorem dX11_hasWholeVersion_6 : decode cX11_hasWholeVersion 6 = .ok (.bipush 6, 2) := by decide +kernel
theorem dX11_hasWholeVersion_8 : decode cX11_hasWholeVersion 8 = .ok (.if_icmp .eq 13, 3) := by decide +kernel
theorem dX11_hasWholeVersion_11 : decode cX11_hasWholeVersion 11 = .ok (.iload_n 0, 1) := by decide +kernel
theorem dX11_hasWholeVersion_12 : decode cX11_hasWholeVersion 12 = .ok (.bipush 7, 2) := by decide +kernel
theorem dX11_hasWholeVersion_14 : decode cX11_hasWholeVersion 14 = .ok (.if_icmp .eq 7, 3) := by decide +kernel
theorem dX11_hasWholeVersion_17 : decode cX11_hasWholeVersion 17 = .ok (.iconst 1, 1) := by decide +kernel
theorem dX11_hasWholeVersion_18 : decode cX11_hasWholeVersion 18 = .ok (.goto 4, 3) := by decide +kernel
theorem dX11_hasWholeVersion_21 : decode cX11_hasWholeVersion 21 = .ok (.iconst 0, 1) := by decide +kernel
theorem dX11_hasWholeVersion_22 : decode cX11_hasWholeVersion 22 = .ok (.ireturn, 1) := by decide +kernel
theorem dX11_endOf_0 : decode cX11_endOf 0 = .ok (.iload_n 0, 1) := by decide +kernel
theorem dX11_endOf_1 : decode cX11_endOf 1 = .ok (.tableswitch 82 0 7 #[47, 82, 52, 82, 55, 62, 72, 62], 47) := by decide +kernel
theorem dX11_endOf_48 : decode cX11_endOf 48 = .ok (.iload 4, 2) := by decide +kernel
theorem dX11_endOf_50 : decode cX11_endOf 50 = .ok (.iconst 1, 1) := by decide +kernel
theorem dX11_endOf_51 : decode cX11_endOf 51 = .ok (.iadd, 1) := by decide +kernel
theorem dX11_endOf_52 : decode cX11_endOf 52 = .ok (.ireturn, 1) := by decide +kernel
theorem dX11_endOf_53 : decode cX11_endOf 53 = .ok (.iload 4, 2) := by decide +kernel
theorem dX11_endOf_55 : decode cX11_endOf 55 = .ok (.ireturn, 1) := by decide +kernel
theorem dX11_endOf_56 : decode cX11_endOf 56 = .ok (.iload_n 1, 1) := by decide +kernel
theorem dX11_endOf_57 : decode cX11_endOf 57 = .ok (.iload_n 2, 1) := by decide +kernel
theorem dX11_endOf_58 : decode cX11_endOf 58 = .ok (.iload_n 3, 1) := by decide +kernel
theorem dX11_endOf_59 : decode cX11_endOf 59 = .ok (.invokestatic 317, 3) := by decide +kernel
theorem dX11_endOf_62 : decode cX11_endOf 62 = .ok (.ireturn, 1) := by decide +kernel
theorem dX11_endOf_63 : decode cX11_endOf 63 = .ok (.iload_n 1, 1) := by decide +kernel
theorem dX11_endOf_64 : decode cX11_endOf 64 = .ok (.iload_n 2, 1) := by decide +kernel
theorem dX11_endOf_65 : decode cX11_endOf 65 = .ok (.iconst 1, 1) := by decide +kernel
theorem dX11_endOf_66 : decode cX11_endOf 66 = .ok (.iadd, 1) := by decide +kernel
theorem dX11_endOf_67 : decode cX11_endOf 67 = .ok (.iconst 0, 1) := by decide +kernel
theorem dX11_endOf_68 : decode cX11_endOf 68 = .ok (.iconst 0, 1) := by decide +kernel
theorem dX11_endOf_69 : decode cX11_endOf 69 = .ok (.invokestatic 71, 3) := by decide +kernel
theorem dX11_endOf_72 : decode cX11_endOf 72 = .ok (.ireturn, 1) := by decide +kernel
theorem dX11_endOf_73 : decode cX11_endOf 73 = .ok (.iload_n 1, 1) := by decide +kernel
theorem dX11_endOf_74 : decode cX11_endOf 74 = .ok (.iconst 1, 1) := by decide +kernel
theorem dX11_endOf_75 : decode cX11_endOf 75 = .ok (.iadd, 1) := by decide +kernel
theorem dX11_endOf_76 : decode cX11_endOf 76 = .ok (.iconst 0, 1) := by decide +kernel
theorem dX11_endOf_77 : decode cX11_endOf 77 = .ok (.iconst 0, 1) := by decide +kernel
theorem dX11_endOf_78 : decode cX11_endOf 78 = .ok (.iconst 0, 1) := by decide +kernel
theorem dX11_endOf_79 : decode cX11_endOf 79 = .ok (.invokestatic 71, 3) := by decide +kernel
theorem dX11_endOf_82 : decode cX11_endOf 82 = .ok (.ireturn, 1) := by decide +kernel
theorem dX11_endOf_83 : decode cX11_endOf 83 = .ok (.ldc_w 320, 3) := by decide +kernel
theorem dX11_endOf_86 : decode cX11_endOf 86 = .ok (.ireturn, 1) := by decide +kernel
theorem dX11_endOfCompatible_0 : decode cX11_endOfCompatible 0 = .ok (.iload_n 0, 1) := by decide +kernel
theorem dX11_endOfCompatible_1 : decode cX11_endOfCompatible 1 = .ok (.ifCond .le 13, 3) := by decide +kernel
theorem dX11_endOfCompatible_4 : decode cX11_endOfCompatible 4 = .ok (.iload_n 0, 1) := by decide +kernel
theorem dX11_endOfCompatible_5 : decode cX11_endOfCompatible 5 = .ok (.iconst 1, 1) := by decide +kernel
theorem dX11_endOfCompatible_6 : decode cX11_endOfCompatible 6 = .ok (.iadd, 1) := by decide +kernel
theorem dX11_endOfCompatible_7 : decode cX11_endOfCompatible 7 = .ok (.iconst 0, 1) := by decide +kernel
theorem dX11_endOfCompatible_8 : decode cX11_endOfCompatible 8 = .ok (.iconst 0, 1) := by decide +kernel
theorem dX11_endOfCompatible_9 : decode cX11_endOfCompatible 9 = .ok (.iconst 0, 1) := by decide +kernel
theorem dX11_endOfCompatible_10 : decode cX11_endOfCompatible 10 = .ok (.invokestatic 71, 3) := by decide +kernel
theorem dX11_endOfCompatible_13 : decode cX11_endOfCompatible 13 = .ok (.ireturn, 1) := by decide +kernel
theorem dX11_endOfCompatible_14 : decode cX11_endOfCompatible 14 = .ok (.iload_n 1, 1) := by decide +kernel
theorem dX11_endOfCompatible_15 : decode cX11_endOfCompatible 15 = .ok (.ifCond .le 15, 3) := by decide +kernel
theorem dX11_endOfCompatible_18 : decode cX11_endOfCompatible 18 = .ok (.iconst 0, 1) := by decide +kernel
theorem dX11_endOfCompatible_19 : decode cX11_endOfCompatible 19 = .ok (.iload_n 1, 1) := by decide +kernel
theorem dX11_endOfCompatible_20 : decode cX11_endOfCompatible 20 = .ok (.iconst 1, 1) := by decide +kernel
theorem dX11_endOfCompatible_21 : decode cX11_endOfCompatible 21 = .ok (.iadd, 1) := by decide +kernel
theorem dX11_endOfCompatible_22 : decode cX11_endOfCompatible 22 = .ok (.iconst 0, 1) := by decide +kernel
theorem dX11_endOfCompatible_23 : decode cX11_endOfCompatible 23 = .ok (.iconst 0, 1) := by decide +kernel
theorem dX11_endOfCompatible_24 : decode cX11_endOfCompatible 24 = .ok (.invokestatic 71, 3) := by decide +kernel
theorem dX11_endOfCompatible_27 : decode cX11_endOfCompatible 27 = .ok (.goto 12, 3) := by decide +kernel
theorem dX11_endOfCompatible_30 : decode cX11_endOfCompatible 30 = .ok (.iconst 0, 1) := by decide +kernel
theorem dX11_endOfCompatible_31 : decode cX11_endOfCompatible 31 = .ok (.iconst 0, 1) := by decide +kernel
theorem dX11_endOfCompatible_32 : decode cX11_endOfCompatible 32 = .ok (.iload_n 2, 1) := by decide +kernel
theorem dX11_endOfCompatible_33 : decode cX11_endOfCompatible 33 = .ok (.iconst 1, 1) := by decide +kernel
theorem dX11_endOfCompatible_34 : decode cX11_endOfCompatible 34 = .ok (.iadd, 1) := by decide +kernel
theorem dX11_endOfCompatible_35 : decode cX11_endOfCompatible 35 = .ok (.iconst 0, 1) := by decide +kernel
theorem dX11_endOfCompatible_36 : decode cX11_endOfCompatible 36 = .ok (.invokestatic 71, 3) := by decide +kernel
theorem dX11_endOfCompatible_39 : decode cX11_endOfCompatible 39 = .ok (.ireturn, 1) := by decide +kernel
